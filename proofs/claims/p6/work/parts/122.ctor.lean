set_option maxHeartbeats 4000000 in
set_option maxRecDepth 20000 in
theorem i_Told {l : Launch} {w : zWd} {k : Nat} {M M' : zMem} {sh : Nat → (Nat → Int32) → va_E} (hn : w.2.2.2.2 = k + 1) (hk : w.2.2.1 k (M k) = .inr (9, [.int 0, .int 0, .int 0, .int 0, .int 0, .int 0, .int 0, .null, .null, .null, .null])) (hs : ∀ c, c < k → w.2.2.1 c (M c) = sh c (M' c)) (hF : sh k (M' k) = .inr (9, [.int 0, .int 0, .int 0, .int 0, .int 0, .int 0, .int 0, .ref (w.2.2.2.1 + (k + 1)), .ref (w.2.2.2.1 + (k + 2)), .ref (w.2.2.2.1 + (k + 3)), .ref (w.2.2.2.1 + (k + 4))])) (hA1 : sh (k + 1) (M' (k + 1)) = .inl (w.2.1 1, 6, .inl fun _ => 0)) (hA2 : sh (k + 2) (M' (k + 2)) = .inl (w.2.1 1, 24, .inl fun _ => 0)) (hA3 : sh (k + 3) (M' (k + 3)) = .inl (w.2.1 1, 40, .inl fun _ => 0)) (hA4 : sh (k + 4) (M' (k + 4)) = .inl (w.2.1 1, 5, .inl fun _ => 0)) : zMc l ⟨"HandToHand$Told", "<init>", "()V"⟩ prog_11_method_1_code 1 1 12 4 75 w [.ref (w.2.2.2.1 + k)] M (zwn w sh (k + 5)) (fun M1 => M1 = M') := by
  refine zMetC (by decide) rfl (Nat.le_of_ble_eq_true rfl) ?_
  intro p e s m below meth c X hKo hmi hr hlk hml hsz hG ls hl
  have hx := X.1
  have hb := X.2.1
  have hl : lv_has ls 1 [(0, .ref (w.2.2.2.1 + k))] := hl
  have hG : zGo (zwn w (zsk sh k (.inr (9, [.int 0, .int 0, .int 0, .int 0, .int 0, .int 0, .int 0, .null, .null, .null, .null]))) (k + 1)) s.heap M' s.heap [] := by
    rw [← hn]
    refine zGo_cast (w := w) (sh := w.2.2.1) (M := M) (fun c hc => ?_) hG
    by_cases q : c = k
    · subst q; rw [zsk_eq]; exact hk
    · rw [zsk_ne q]; exact hs c (by omega)
  refine lv_aload_n hx hb dX9_init_0 rfl (lv_at hl 0 rfl) ?_
  refine zg_obj X hml hl zu_31 zu_24 zu_25 ⟨Nat.le_of_ble_eq_true rfl, Nat.le_of_ble_eq_true rfl⟩ dX9_init_1 ?_
  refine lv_aload_n hx hb dX9_init_4 rfl (lv_at hl 0 rfl) ?_
  refine lv_bipush (v := 6) hx hb dX9_init_5 (by decide) ?_
  refine zg_newa (w := w) (N := 6) (t := 1) (atype := .int) (ty := .int) X hG (by omega) (by omega) zu_95 rfl rfl (fun _ => rfl) (fun _ => rfl) (by decide) (by decide) (Nat.le_of_ble_eq_true rfl) (by rw [zsk_ne (by omega)]; exact hA1) (Nat.le_of_ble_eq_true rfl) (Nat.le_of_ble_eq_true rfl) dX9_init_7 (fun H hG => ?_)
  refine W.widen (k := 1) (n := 6) (Nat.le_of_ble_eq_true rfl) (Nat.le_of_ble_eq_true rfl) ?_
  refine zg_putF (w := w) (k := k) (ci := 9) (C := "HandToHand$Told") (T := TX9) (ty0 := tyX9) (ty := (.array .int)) (v := .ref (w.2.2.2.1 + (k + 1))) X hmi hG (by omega) zsk_eq rfl zin_9 tyX9_ok nmX9 7 (by decide) rfl rfl zu_59 rfl rfl rfl rfl rfl dX9_init_9 (fun H locs hG => ?_)
  replace hG := zsk_re (E'' := .inr (9, [.int 0, .int 0, .int 0, .int 0, .int 0, .int 0, .int 0, .ref (w.2.2.2.1 + (k + 1)), .null, .null, .null])) rfl hG
  refine lv_aload_n hx hb dX9_init_12 rfl (lv_at hl 0 rfl) ?_
  refine lv_bipush (v := 24) hx hb dX9_init_13 (by decide) ?_
  refine zg_newa (w := w) (N := 24) (t := 1) (atype := .int) (ty := .int) X hG (by omega) (by omega) zu_95 rfl rfl (fun _ => rfl) (fun _ => rfl) (by decide) (by decide) (Nat.le_of_ble_eq_true rfl) (by rw [zsk_ne (by omega)]; exact hA2) (Nat.le_of_ble_eq_true rfl) (Nat.le_of_ble_eq_true rfl) dX9_init_15 (fun H hG => ?_)
  refine W.widen (k := 2) (n := 30) (Nat.le_of_ble_eq_true rfl) (Nat.le_of_ble_eq_true rfl) ?_
  refine zg_putF (w := w) (k := k) (ci := 9) (C := "HandToHand$Told") (T := TX9) (ty0 := tyX9) (ty := (.array .int)) (v := .ref (w.2.2.2.1 + (k + 2))) X hmi hG (by omega) zsk_eq rfl zin_9 tyX9_ok nmX9 8 (by decide) rfl rfl zu_63 rfl rfl rfl rfl rfl dX9_init_17 (fun H locs hG => ?_)
  replace hG := zsk_re (E'' := .inr (9, [.int 0, .int 0, .int 0, .int 0, .int 0, .int 0, .int 0, .ref (w.2.2.2.1 + (k + 1)), .ref (w.2.2.2.1 + (k + 2)), .null, .null])) rfl hG
  refine lv_aload_n hx hb dX9_init_20 rfl (lv_at hl 0 rfl) ?_
  refine lv_bipush (v := 40) hx hb dX9_init_21 (by decide) ?_
  refine zg_newa (w := w) (N := 40) (t := 1) (atype := .int) (ty := .int) X hG (by omega) (by omega) zu_95 rfl rfl (fun _ => rfl) (fun _ => rfl) (by decide) (by decide) (Nat.le_of_ble_eq_true rfl) (by rw [zsk_ne (by omega)]; exact hA3) (Nat.le_of_ble_eq_true rfl) (Nat.le_of_ble_eq_true rfl) dX9_init_23 (fun H hG => ?_)
  refine W.widen (k := 3) (n := 70) (Nat.le_of_ble_eq_true rfl) (Nat.le_of_ble_eq_true rfl) ?_
  refine zg_putF (w := w) (k := k) (ci := 9) (C := "HandToHand$Told") (T := TX9) (ty0 := tyX9) (ty := (.array .int)) (v := .ref (w.2.2.2.1 + (k + 3))) X hmi hG (by omega) zsk_eq rfl zin_9 tyX9_ok nmX9 9 (by decide) rfl rfl zu_65 rfl rfl rfl rfl rfl dX9_init_25 (fun H locs hG => ?_)
  replace hG := zsk_re (E'' := .inr (9, [.int 0, .int 0, .int 0, .int 0, .int 0, .int 0, .int 0, .ref (w.2.2.2.1 + (k + 1)), .ref (w.2.2.2.1 + (k + 2)), .ref (w.2.2.2.1 + (k + 3)), .null])) rfl hG
  refine lv_aload_n hx hb dX9_init_28 rfl (lv_at hl 0 rfl) ?_
  refine lv_iconst (v := 5) hx hb dX9_init_29 (by decide) ?_
  refine zg_newa (w := w) (N := 5) (t := 1) (atype := .int) (ty := .int) X hG (by omega) (by omega) zu_95 rfl rfl (fun _ => rfl) (fun _ => rfl) (by decide) (by decide) (Nat.le_of_ble_eq_true rfl) (by rw [zsk_ne (by omega)]; exact hA4) (Nat.le_of_ble_eq_true rfl) (Nat.le_of_ble_eq_true rfl) dX9_init_30 (fun H hG => ?_)
  refine W.widen (k := 4) (n := 75) (Nat.le_of_ble_eq_true rfl) (Nat.le_of_ble_eq_true rfl) ?_
  refine zg_putF (w := w) (k := k) (ci := 9) (C := "HandToHand$Told") (T := TX9) (ty0 := tyX9) (ty := (.array .int)) (v := .ref (w.2.2.2.1 + (k + 4))) X hmi hG (by omega) zsk_eq rfl zin_9 tyX9_ok nmX9 10 (by decide) rfl rfl zu_68 rfl rfl rfl rfl rfl dX9_init_32 (fun H locs hG => ?_)
  replace hG := zsk_re (E'' := .inr (9, [.int 0, .int 0, .int 0, .int 0, .int 0, .int 0, .int 0, .ref (w.2.2.2.1 + (k + 1)), .ref (w.2.2.2.1 + (k + 2)), .ref (w.2.2.2.1 + (k + 3)), .ref (w.2.2.2.1 + (k + 4))])) rfl hG
  replace hG := zsk_fin hF hG
  exact zg_vret (w' := zwn w sh (k + 5)) X hr hlk rfl hG rfl dX9_init_35
set_option maxHeartbeats 4000000 in
set_option maxRecDepth 20000 in
theorem i_Handings {l : Launch} {w : zWd} {k : Nat} {M M' : zMem} {sh : Nat → (Nat → Int32) → va_E} (hn : w.2.2.2.2 = k + 1) (hk : w.2.2.1 k (M k) = .inr (2, [.int 0, .null])) (hs : ∀ c, c < k → w.2.2.1 c (M c) = sh c (M' c)) (hF : sh k (M' k) = .inr (2, [.int 0, .ref (w.2.2.2.1 + (k + 1))])) (hA1 : sh (k + 1) (M' (k + 1)) = .inl (w.2.1 1, 3000, .inl fun _ => 0)) : zMc l ⟨"HandToHand$Handings", "<init>", "()V"⟩ prog_4_method_1_code 1 1 12 1 3000 w [.ref (w.2.2.2.1 + k)] M (zwn w sh (k + 2)) (fun M1 => M1 = M') := by
  refine zMetC (by decide) rfl (Nat.le_of_ble_eq_true rfl) ?_
  intro p e s m below meth c X hKo hmi hr hlk hml hsz hG ls hl
  have hx := X.1
  have hb := X.2.1
  have hl : lv_has ls 1 [(0, .ref (w.2.2.2.1 + k))] := hl
  have hG : zGo (zwn w (zsk sh k (.inr (2, [.int 0, .null]))) (k + 1)) s.heap M' s.heap [] := by
    rw [← hn]
    refine zGo_cast (w := w) (sh := w.2.2.1) (M := M) (fun c hc => ?_) hG
    by_cases q : c = k
    · subst q; rw [zsk_eq]; exact hk
    · rw [zsk_ne q]; exact hs c (by omega)
  refine lv_aload_n hx hb dX2_init_0 rfl (lv_at hl 0 rfl) ?_
  refine zg_obj X hml hl zu_232 zu_24 zu_25 ⟨Nat.le_of_ble_eq_true rfl, Nat.le_of_ble_eq_true rfl⟩ dX2_init_1 ?_
  refine lv_aload_n hx hb dX2_init_4 rfl (lv_at hl 0 rfl) ?_
  refine lv_sipush (v := 3000) hx hb dX2_init_5 (by decide) ?_
  refine zg_newa (w := w) (N := 3000) (t := 1) (atype := .int) (ty := .int) X hG (by omega) (by omega) zu_95 rfl rfl (fun _ => rfl) (fun _ => rfl) (by decide) (by decide) (Nat.le_of_ble_eq_true rfl) (by rw [zsk_ne (by omega)]; exact hA1) (Nat.le_of_ble_eq_true rfl) (Nat.le_of_ble_eq_true rfl) dX2_init_8 (fun H hG => ?_)
  refine W.widen (k := 1) (n := 3000) (Nat.le_of_ble_eq_true rfl) (Nat.le_of_ble_eq_true rfl) ?_
  refine zg_putF (w := w) (k := k) (ci := 2) (C := "HandToHand$Handings") (T := TX2) (ty0 := tyX2) (ty := (.array .int)) (v := .ref (w.2.2.2.1 + (k + 1))) X hmi hG (by omega) zsk_eq rfl zin_2 tyX2_ok nmX2 1 (by decide) rfl rfl zu_236 rfl rfl rfl rfl rfl dX2_init_10 (fun H locs hG => ?_)
  replace hG := zsk_re (E'' := .inr (2, [.int 0, .ref (w.2.2.2.1 + (k + 1))])) rfl hG
  replace hG := zsk_fin hF hG
  exact zg_vret (w' := zwn w sh (k + 2)) X hr hlk rfl hG rfl dX2_init_13
set_option maxHeartbeats 4000000 in
set_option maxRecDepth 20000 in
theorem i_BenchN {l : Launch} {w : zWd} {k : Nat} {t : Nat} {M M' : zMem} {sh : Nat → (Nat → Int32) → va_E} (hn : w.2.2.2.2 = k + 1) (hk : w.2.2.1 k (M k) = .inr (0, [.null, .null, .int 0, .int 0, .int 0, .int 0, .null, .null, .null, .null, .null, .null, .null, .null])) (hs : ∀ c, c < k → w.2.2.1 c (M c) = sh c (M' c)) (hF : sh k (M' k) = .inr (0, [.ref (w.2.2.2.1 + t), .null, .int 0, .int 0, .int 0, .int 0, .ref (w.2.2.2.1 + (k + 1)), .ref (w.2.2.2.1 + (k + 2)), .ref (w.2.2.2.1 + (k + 3)), .ref (w.2.2.2.1 + (k + 4)), .ref (w.2.2.2.1 + (k + 5)), .ref (w.2.2.2.1 + (k + 6)), .ref (w.2.2.2.1 + (k + 7)), .ref (w.2.2.2.1 + (k + 8))])) (hA1 : sh (k + 1) (M' (k + 1)) = .inl (w.2.1 1, 5, .inl fun _ => 0)) (hA2 : sh (k + 2) (M' (k + 2)) = .inl (w.2.1 1, 5, .inl fun _ => 0)) (hA3 : sh (k + 3) (M' (k + 3)) = .inl (w.2.1 1, 5, .inl fun _ => 0)) (hA4 : sh (k + 4) (M' (k + 4)) = .inl (w.2.1 1, 5, .inl fun _ => 0)) (hA5 : sh (k + 5) (M' (k + 5)) = .inl (w.2.1 1, 5, .inl fun _ => 0)) (hA6 : sh (k + 6) (M' (k + 6)) = .inl (w.2.1 1, 5, .inl fun _ => 0)) (hA7 : sh (k + 7) (M' (k + 7)) = .inl (w.2.1 1, 40, .inl fun _ => 0)) (hA8 : sh (k + 8) (M' (k + 8)) = .inl (w.2.1 1, 8, .inl fun _ => 0)) : zMc l ⟨"HandToHand$Bench", "<init>", "(LHandToHand$Told;LHandToHand$Handings;)V"⟩ prog_2_method_1_code 3 1 12 8 78 w [.ref (w.2.2.2.1 + k), .ref (w.2.2.2.1 + t), .null] M (zwn w sh (k + 9)) (fun M1 => M1 = M') := by
  refine zMetC (by decide) rfl (Nat.le_of_ble_eq_true rfl) ?_
  intro p e s m below meth c X hKo hmi hr hlk hml hsz hG ls hl
  have hx := X.1
  have hb := X.2.1
  have hl : lv_has ls 3 [(0, .ref (w.2.2.2.1 + k)), (1, .ref (w.2.2.2.1 + t)), (2, .null)] := hl
  have hG : zGo (zwn w (zsk sh k (.inr (0, [.null, .null, .int 0, .int 0, .int 0, .int 0, .null, .null, .null, .null, .null, .null, .null, .null]))) (k + 1)) s.heap M' s.heap [] := by
    rw [← hn]
    refine zGo_cast (w := w) (sh := w.2.2.1) (M := M) (fun c hc => ?_) hG
    by_cases q : c = k
    · subst q; rw [zsk_eq]; exact hk
    · rw [zsk_ne q]; exact hs c (by omega)
  refine lv_aload_n hx hb dX0_init_0 rfl (lv_at hl 0 rfl) ?_
  refine zg_obj X hml hl zu_159 zu_24 zu_25 ⟨Nat.le_of_ble_eq_true rfl, Nat.le_of_ble_eq_true rfl⟩ dX0_init_1 ?_
  refine lv_aload_n hx hb dX0_init_4 rfl (lv_at hl 0 rfl) ?_
  refine lv_iconst (v := 5) hx hb dX0_init_5 (by decide) ?_
  refine zg_newa (w := w) (N := 5) (t := 1) (atype := .int) (ty := .int) X hG (by omega) (by omega) zu_95 rfl rfl (fun _ => rfl) (fun _ => rfl) (by decide) (by decide) (Nat.le_of_ble_eq_true rfl) (by rw [zsk_ne (by omega)]; exact hA1) (Nat.le_of_ble_eq_true rfl) (Nat.le_of_ble_eq_true rfl) dX0_init_6 (fun H hG => ?_)
  refine W.widen (k := 1) (n := 5) (Nat.le_of_ble_eq_true rfl) (Nat.le_of_ble_eq_true rfl) ?_
  refine zg_putF (w := w) (k := k) (ci := 0) (C := "HandToHand$Bench") (T := TX0) (ty0 := tyX0) (ty := (.array .int)) (v := .ref (w.2.2.2.1 + (k + 1))) X hmi hG (by omega) zsk_eq rfl zin_0 tyX0_ok nmX0 6 (by decide) rfl rfl zu_175 rfl rfl rfl rfl rfl dX0_init_8 (fun H locs hG => ?_)
  replace hG := zsk_re (E'' := .inr (0, [.null, .null, .int 0, .int 0, .int 0, .int 0, .ref (w.2.2.2.1 + (k + 1)), .null, .null, .null, .null, .null, .null, .null])) rfl hG
  refine lv_aload_n hx hb dX0_init_11 rfl (lv_at hl 0 rfl) ?_
  refine lv_iconst (v := 5) hx hb dX0_init_12 (by decide) ?_
  refine zg_newa (w := w) (N := 5) (t := 1) (atype := .int) (ty := .int) X hG (by omega) (by omega) zu_95 rfl rfl (fun _ => rfl) (fun _ => rfl) (by decide) (by decide) (Nat.le_of_ble_eq_true rfl) (by rw [zsk_ne (by omega)]; exact hA2) (Nat.le_of_ble_eq_true rfl) (Nat.le_of_ble_eq_true rfl) dX0_init_13 (fun H hG => ?_)
  refine W.widen (k := 2) (n := 10) (Nat.le_of_ble_eq_true rfl) (Nat.le_of_ble_eq_true rfl) ?_
  refine zg_putF (w := w) (k := k) (ci := 0) (C := "HandToHand$Bench") (T := TX0) (ty0 := tyX0) (ty := (.array .int)) (v := .ref (w.2.2.2.1 + (k + 2))) X hmi hG (by omega) zsk_eq rfl zin_0 tyX0_ok nmX0 7 (by decide) rfl rfl zu_177 rfl rfl rfl rfl rfl dX0_init_15 (fun H locs hG => ?_)
  replace hG := zsk_re (E'' := .inr (0, [.null, .null, .int 0, .int 0, .int 0, .int 0, .ref (w.2.2.2.1 + (k + 1)), .ref (w.2.2.2.1 + (k + 2)), .null, .null, .null, .null, .null, .null])) rfl hG
  refine lv_aload_n hx hb dX0_init_18 rfl (lv_at hl 0 rfl) ?_
  refine lv_iconst (v := 5) hx hb dX0_init_19 (by decide) ?_
  refine zg_newa (w := w) (N := 5) (t := 1) (atype := .int) (ty := .int) X hG (by omega) (by omega) zu_95 rfl rfl (fun _ => rfl) (fun _ => rfl) (by decide) (by decide) (Nat.le_of_ble_eq_true rfl) (by rw [zsk_ne (by omega)]; exact hA3) (Nat.le_of_ble_eq_true rfl) (Nat.le_of_ble_eq_true rfl) dX0_init_20 (fun H hG => ?_)
  refine W.widen (k := 3) (n := 15) (Nat.le_of_ble_eq_true rfl) (Nat.le_of_ble_eq_true rfl) ?_
  refine zg_putF (w := w) (k := k) (ci := 0) (C := "HandToHand$Bench") (T := TX0) (ty0 := tyX0) (ty := (.array .int)) (v := .ref (w.2.2.2.1 + (k + 3))) X hmi hG (by omega) zsk_eq rfl zin_0 tyX0_ok nmX0 8 (by decide) rfl rfl zu_179 rfl rfl rfl rfl rfl dX0_init_22 (fun H locs hG => ?_)
  replace hG := zsk_re (E'' := .inr (0, [.null, .null, .int 0, .int 0, .int 0, .int 0, .ref (w.2.2.2.1 + (k + 1)), .ref (w.2.2.2.1 + (k + 2)), .ref (w.2.2.2.1 + (k + 3)), .null, .null, .null, .null, .null])) rfl hG
  refine lv_aload_n hx hb dX0_init_25 rfl (lv_at hl 0 rfl) ?_
  refine lv_iconst (v := 5) hx hb dX0_init_26 (by decide) ?_
  refine zg_newa (w := w) (N := 5) (t := 1) (atype := .int) (ty := .int) X hG (by omega) (by omega) zu_95 rfl rfl (fun _ => rfl) (fun _ => rfl) (by decide) (by decide) (Nat.le_of_ble_eq_true rfl) (by rw [zsk_ne (by omega)]; exact hA4) (Nat.le_of_ble_eq_true rfl) (Nat.le_of_ble_eq_true rfl) dX0_init_27 (fun H hG => ?_)
  refine W.widen (k := 4) (n := 20) (Nat.le_of_ble_eq_true rfl) (Nat.le_of_ble_eq_true rfl) ?_
  refine zg_putF (w := w) (k := k) (ci := 0) (C := "HandToHand$Bench") (T := TX0) (ty0 := tyX0) (ty := (.array .int)) (v := .ref (w.2.2.2.1 + (k + 4))) X hmi hG (by omega) zsk_eq rfl zin_0 tyX0_ok nmX0 9 (by decide) rfl rfl zu_181 rfl rfl rfl rfl rfl dX0_init_29 (fun H locs hG => ?_)
  replace hG := zsk_re (E'' := .inr (0, [.null, .null, .int 0, .int 0, .int 0, .int 0, .ref (w.2.2.2.1 + (k + 1)), .ref (w.2.2.2.1 + (k + 2)), .ref (w.2.2.2.1 + (k + 3)), .ref (w.2.2.2.1 + (k + 4)), .null, .null, .null, .null])) rfl hG
  refine lv_aload_n hx hb dX0_init_32 rfl (lv_at hl 0 rfl) ?_
  refine lv_iconst (v := 5) hx hb dX0_init_33 (by decide) ?_
  refine zg_newa (w := w) (N := 5) (t := 1) (atype := .int) (ty := .int) X hG (by omega) (by omega) zu_95 rfl rfl (fun _ => rfl) (fun _ => rfl) (by decide) (by decide) (Nat.le_of_ble_eq_true rfl) (by rw [zsk_ne (by omega)]; exact hA5) (Nat.le_of_ble_eq_true rfl) (Nat.le_of_ble_eq_true rfl) dX0_init_34 (fun H hG => ?_)
  refine W.widen (k := 5) (n := 25) (Nat.le_of_ble_eq_true rfl) (Nat.le_of_ble_eq_true rfl) ?_
  refine zg_putF (w := w) (k := k) (ci := 0) (C := "HandToHand$Bench") (T := TX0) (ty0 := tyX0) (ty := (.array .int)) (v := .ref (w.2.2.2.1 + (k + 5))) X hmi hG (by omega) zsk_eq rfl zin_0 tyX0_ok nmX0 10 (by decide) rfl rfl zu_183 rfl rfl rfl rfl rfl dX0_init_36 (fun H locs hG => ?_)
  replace hG := zsk_re (E'' := .inr (0, [.null, .null, .int 0, .int 0, .int 0, .int 0, .ref (w.2.2.2.1 + (k + 1)), .ref (w.2.2.2.1 + (k + 2)), .ref (w.2.2.2.1 + (k + 3)), .ref (w.2.2.2.1 + (k + 4)), .ref (w.2.2.2.1 + (k + 5)), .null, .null, .null])) rfl hG
  refine lv_aload_n hx hb dX0_init_39 rfl (lv_at hl 0 rfl) ?_
  refine lv_iconst (v := 5) hx hb dX0_init_40 (by decide) ?_
  refine zg_newa (w := w) (N := 5) (t := 1) (atype := .int) (ty := .int) X hG (by omega) (by omega) zu_95 rfl rfl (fun _ => rfl) (fun _ => rfl) (by decide) (by decide) (Nat.le_of_ble_eq_true rfl) (by rw [zsk_ne (by omega)]; exact hA6) (Nat.le_of_ble_eq_true rfl) (Nat.le_of_ble_eq_true rfl) dX0_init_41 (fun H hG => ?_)
  refine W.widen (k := 6) (n := 30) (Nat.le_of_ble_eq_true rfl) (Nat.le_of_ble_eq_true rfl) ?_
  refine zg_putF (w := w) (k := k) (ci := 0) (C := "HandToHand$Bench") (T := TX0) (ty0 := tyX0) (ty := (.array .int)) (v := .ref (w.2.2.2.1 + (k + 6))) X hmi hG (by omega) zsk_eq rfl zin_0 tyX0_ok nmX0 11 (by decide) rfl rfl zu_185 rfl rfl rfl rfl rfl dX0_init_43 (fun H locs hG => ?_)
  replace hG := zsk_re (E'' := .inr (0, [.null, .null, .int 0, .int 0, .int 0, .int 0, .ref (w.2.2.2.1 + (k + 1)), .ref (w.2.2.2.1 + (k + 2)), .ref (w.2.2.2.1 + (k + 3)), .ref (w.2.2.2.1 + (k + 4)), .ref (w.2.2.2.1 + (k + 5)), .ref (w.2.2.2.1 + (k + 6)), .null, .null])) rfl hG
  refine lv_aload_n hx hb dX0_init_46 rfl (lv_at hl 0 rfl) ?_
  refine lv_bipush (v := 40) hx hb dX0_init_47 (by decide) ?_
  refine zg_newa (w := w) (N := 40) (t := 1) (atype := .int) (ty := .int) X hG (by omega) (by omega) zu_95 rfl rfl (fun _ => rfl) (fun _ => rfl) (by decide) (by decide) (Nat.le_of_ble_eq_true rfl) (by rw [zsk_ne (by omega)]; exact hA7) (Nat.le_of_ble_eq_true rfl) (Nat.le_of_ble_eq_true rfl) dX0_init_49 (fun H hG => ?_)
  refine W.widen (k := 7) (n := 70) (Nat.le_of_ble_eq_true rfl) (Nat.le_of_ble_eq_true rfl) ?_
  refine zg_putF (w := w) (k := k) (ci := 0) (C := "HandToHand$Bench") (T := TX0) (ty0 := tyX0) (ty := (.array .int)) (v := .ref (w.2.2.2.1 + (k + 7))) X hmi hG (by omega) zsk_eq rfl zin_0 tyX0_ok nmX0 12 (by decide) rfl rfl zu_187 rfl rfl rfl rfl rfl dX0_init_51 (fun H locs hG => ?_)
  replace hG := zsk_re (E'' := .inr (0, [.null, .null, .int 0, .int 0, .int 0, .int 0, .ref (w.2.2.2.1 + (k + 1)), .ref (w.2.2.2.1 + (k + 2)), .ref (w.2.2.2.1 + (k + 3)), .ref (w.2.2.2.1 + (k + 4)), .ref (w.2.2.2.1 + (k + 5)), .ref (w.2.2.2.1 + (k + 6)), .ref (w.2.2.2.1 + (k + 7)), .null])) rfl hG
  refine lv_aload_n hx hb dX0_init_54 rfl (lv_at hl 0 rfl) ?_
  refine lv_bipush (v := 8) hx hb dX0_init_55 (by decide) ?_
  refine zg_newa (w := w) (N := 8) (t := 1) (atype := .int) (ty := .int) X hG (by omega) (by omega) zu_95 rfl rfl (fun _ => rfl) (fun _ => rfl) (by decide) (by decide) (Nat.le_of_ble_eq_true rfl) (by rw [zsk_ne (by omega)]; exact hA8) (Nat.le_of_ble_eq_true rfl) (Nat.le_of_ble_eq_true rfl) dX0_init_57 (fun H hG => ?_)
  refine W.widen (k := 8) (n := 78) (Nat.le_of_ble_eq_true rfl) (Nat.le_of_ble_eq_true rfl) ?_
  refine zg_putF (w := w) (k := k) (ci := 0) (C := "HandToHand$Bench") (T := TX0) (ty0 := tyX0) (ty := (.array .int)) (v := .ref (w.2.2.2.1 + (k + 8))) X hmi hG (by omega) zsk_eq rfl zin_0 tyX0_ok nmX0 13 (by decide) rfl rfl zu_190 rfl rfl rfl rfl rfl dX0_init_59 (fun H locs hG => ?_)
  replace hG := zsk_re (E'' := .inr (0, [.null, .null, .int 0, .int 0, .int 0, .int 0, .ref (w.2.2.2.1 + (k + 1)), .ref (w.2.2.2.1 + (k + 2)), .ref (w.2.2.2.1 + (k + 3)), .ref (w.2.2.2.1 + (k + 4)), .ref (w.2.2.2.1 + (k + 5)), .ref (w.2.2.2.1 + (k + 6)), .ref (w.2.2.2.1 + (k + 7)), .ref (w.2.2.2.1 + (k + 8))])) rfl hG
  refine lv_aload_n hx hb dX0_init_62 rfl (lv_at hl 0 rfl) ?_
  refine lv_aload_n hx hb dX0_init_63 rfl (lv_at hl 1 rfl) ?_
  refine zg_put (w := w) (k := k) (ci := 0) (C := "HandToHand$Bench") (T := TX0) (ty0 := tyX0) (ty := (.object "HandToHand$Told")) (v := .ref (w.2.2.2.1 + t)) X hG (by omega) zsk_eq rfl zin_0 tyX0_ok nmX0 0 (by decide) rfl zu_160 rfl rfl rfl rfl rfl dX0_init_64 (fun H locs hG => ?_)
  replace hG := zsk_re (E'' := .inr (0, [.ref (w.2.2.2.1 + t), .null, .int 0, .int 0, .int 0, .int 0, .ref (w.2.2.2.1 + (k + 1)), .ref (w.2.2.2.1 + (k + 2)), .ref (w.2.2.2.1 + (k + 3)), .ref (w.2.2.2.1 + (k + 4)), .ref (w.2.2.2.1 + (k + 5)), .ref (w.2.2.2.1 + (k + 6)), .ref (w.2.2.2.1 + (k + 7)), .ref (w.2.2.2.1 + (k + 8))])) rfl hG
  refine lv_aload_n hx hb dX0_init_67 rfl (lv_at hl 0 rfl) ?_
  refine lv_aload_nN hx hb dX0_init_68 rfl (lv_at hl 2 rfl) ?_
  refine zg_putF (w := w) (k := k) (ci := 0) (C := "HandToHand$Bench") (T := TX0) (ty0 := tyX0) (ty := (.object "HandToHand$Handings")) (v := .null) X hmi hG (by omega) zsk_eq rfl zin_0 tyX0_ok nmX0 1 (by decide) rfl rfl zu_162 rfl rfl rfl rfl rfl dX0_init_69 (fun H locs hG => ?_)
  replace hG := zsk_re (E'' := .inr (0, [.ref (w.2.2.2.1 + t), .null, .int 0, .int 0, .int 0, .int 0, .ref (w.2.2.2.1 + (k + 1)), .ref (w.2.2.2.1 + (k + 2)), .ref (w.2.2.2.1 + (k + 3)), .ref (w.2.2.2.1 + (k + 4)), .ref (w.2.2.2.1 + (k + 5)), .ref (w.2.2.2.1 + (k + 6)), .ref (w.2.2.2.1 + (k + 7)), .ref (w.2.2.2.1 + (k + 8))])) rfl hG
  replace hG := zsk_fin hF hG
  exact zg_vret (w' := zwn w sh (k + 9)) X hr hlk rfl hG rfl dX0_init_72
set_option maxHeartbeats 4000000 in
set_option maxRecDepth 20000 in
theorem i_BenchR {l : Launch} {w : zWd} {k : Nat} {t : Nat} {M M' : zMem} {sh : Nat → (Nat → Int32) → va_E} {g : Nat} (hn : w.2.2.2.2 = k + 1) (hk : w.2.2.1 k (M k) = .inr (0, [.null, .null, .int 0, .int 0, .int 0, .int 0, .null, .null, .null, .null, .null, .null, .null, .null])) (hs : ∀ c, c < k → w.2.2.1 c (M c) = sh c (M' c)) (hF : sh k (M' k) = .inr (0, [.ref (w.2.2.2.1 + t), .ref (w.2.2.2.1 + g), .int 0, .int 0, .int 0, .int 0, .ref (w.2.2.2.1 + (k + 1)), .ref (w.2.2.2.1 + (k + 2)), .ref (w.2.2.2.1 + (k + 3)), .ref (w.2.2.2.1 + (k + 4)), .ref (w.2.2.2.1 + (k + 5)), .ref (w.2.2.2.1 + (k + 6)), .ref (w.2.2.2.1 + (k + 7)), .ref (w.2.2.2.1 + (k + 8))])) (hA1 : sh (k + 1) (M' (k + 1)) = .inl (w.2.1 1, 5, .inl fun _ => 0)) (hA2 : sh (k + 2) (M' (k + 2)) = .inl (w.2.1 1, 5, .inl fun _ => 0)) (hA3 : sh (k + 3) (M' (k + 3)) = .inl (w.2.1 1, 5, .inl fun _ => 0)) (hA4 : sh (k + 4) (M' (k + 4)) = .inl (w.2.1 1, 5, .inl fun _ => 0)) (hA5 : sh (k + 5) (M' (k + 5)) = .inl (w.2.1 1, 5, .inl fun _ => 0)) (hA6 : sh (k + 6) (M' (k + 6)) = .inl (w.2.1 1, 5, .inl fun _ => 0)) (hA7 : sh (k + 7) (M' (k + 7)) = .inl (w.2.1 1, 40, .inl fun _ => 0)) (hA8 : sh (k + 8) (M' (k + 8)) = .inl (w.2.1 1, 8, .inl fun _ => 0)) : zMc l ⟨"HandToHand$Bench", "<init>", "(LHandToHand$Told;LHandToHand$Handings;)V"⟩ prog_2_method_1_code 3 1 12 8 78 w [.ref (w.2.2.2.1 + k), .ref (w.2.2.2.1 + t), .ref (w.2.2.2.1 + g)] M (zwn w sh (k + 9)) (fun M1 => M1 = M') := by
  refine zMetC (by decide) rfl (Nat.le_of_ble_eq_true rfl) ?_
  intro p e s m below meth c X hKo hmi hr hlk hml hsz hG ls hl
  have hx := X.1
  have hb := X.2.1
  have hl : lv_has ls 3 [(0, .ref (w.2.2.2.1 + k)), (1, .ref (w.2.2.2.1 + t)), (2, .ref (w.2.2.2.1 + g))] := hl
  have hG : zGo (zwn w (zsk sh k (.inr (0, [.null, .null, .int 0, .int 0, .int 0, .int 0, .null, .null, .null, .null, .null, .null, .null, .null]))) (k + 1)) s.heap M' s.heap [] := by
    rw [← hn]
    refine zGo_cast (w := w) (sh := w.2.2.1) (M := M) (fun c hc => ?_) hG
    by_cases q : c = k
    · subst q; rw [zsk_eq]; exact hk
    · rw [zsk_ne q]; exact hs c (by omega)
  refine lv_aload_n hx hb dX0_init_0 rfl (lv_at hl 0 rfl) ?_
  refine zg_obj X hml hl zu_159 zu_24 zu_25 ⟨Nat.le_of_ble_eq_true rfl, Nat.le_of_ble_eq_true rfl⟩ dX0_init_1 ?_
  refine lv_aload_n hx hb dX0_init_4 rfl (lv_at hl 0 rfl) ?_
  refine lv_iconst (v := 5) hx hb dX0_init_5 (by decide) ?_
  refine zg_newa (w := w) (N := 5) (t := 1) (atype := .int) (ty := .int) X hG (by omega) (by omega) zu_95 rfl rfl (fun _ => rfl) (fun _ => rfl) (by decide) (by decide) (Nat.le_of_ble_eq_true rfl) (by rw [zsk_ne (by omega)]; exact hA1) (Nat.le_of_ble_eq_true rfl) (Nat.le_of_ble_eq_true rfl) dX0_init_6 (fun H hG => ?_)
  refine W.widen (k := 1) (n := 5) (Nat.le_of_ble_eq_true rfl) (Nat.le_of_ble_eq_true rfl) ?_
  refine zg_putF (w := w) (k := k) (ci := 0) (C := "HandToHand$Bench") (T := TX0) (ty0 := tyX0) (ty := (.array .int)) (v := .ref (w.2.2.2.1 + (k + 1))) X hmi hG (by omega) zsk_eq rfl zin_0 tyX0_ok nmX0 6 (by decide) rfl rfl zu_175 rfl rfl rfl rfl rfl dX0_init_8 (fun H locs hG => ?_)
  replace hG := zsk_re (E'' := .inr (0, [.null, .null, .int 0, .int 0, .int 0, .int 0, .ref (w.2.2.2.1 + (k + 1)), .null, .null, .null, .null, .null, .null, .null])) rfl hG
  refine lv_aload_n hx hb dX0_init_11 rfl (lv_at hl 0 rfl) ?_
  refine lv_iconst (v := 5) hx hb dX0_init_12 (by decide) ?_
  refine zg_newa (w := w) (N := 5) (t := 1) (atype := .int) (ty := .int) X hG (by omega) (by omega) zu_95 rfl rfl (fun _ => rfl) (fun _ => rfl) (by decide) (by decide) (Nat.le_of_ble_eq_true rfl) (by rw [zsk_ne (by omega)]; exact hA2) (Nat.le_of_ble_eq_true rfl) (Nat.le_of_ble_eq_true rfl) dX0_init_13 (fun H hG => ?_)
  refine W.widen (k := 2) (n := 10) (Nat.le_of_ble_eq_true rfl) (Nat.le_of_ble_eq_true rfl) ?_
  refine zg_putF (w := w) (k := k) (ci := 0) (C := "HandToHand$Bench") (T := TX0) (ty0 := tyX0) (ty := (.array .int)) (v := .ref (w.2.2.2.1 + (k + 2))) X hmi hG (by omega) zsk_eq rfl zin_0 tyX0_ok nmX0 7 (by decide) rfl rfl zu_177 rfl rfl rfl rfl rfl dX0_init_15 (fun H locs hG => ?_)
  replace hG := zsk_re (E'' := .inr (0, [.null, .null, .int 0, .int 0, .int 0, .int 0, .ref (w.2.2.2.1 + (k + 1)), .ref (w.2.2.2.1 + (k + 2)), .null, .null, .null, .null, .null, .null])) rfl hG
  refine lv_aload_n hx hb dX0_init_18 rfl (lv_at hl 0 rfl) ?_
  refine lv_iconst (v := 5) hx hb dX0_init_19 (by decide) ?_
  refine zg_newa (w := w) (N := 5) (t := 1) (atype := .int) (ty := .int) X hG (by omega) (by omega) zu_95 rfl rfl (fun _ => rfl) (fun _ => rfl) (by decide) (by decide) (Nat.le_of_ble_eq_true rfl) (by rw [zsk_ne (by omega)]; exact hA3) (Nat.le_of_ble_eq_true rfl) (Nat.le_of_ble_eq_true rfl) dX0_init_20 (fun H hG => ?_)
  refine W.widen (k := 3) (n := 15) (Nat.le_of_ble_eq_true rfl) (Nat.le_of_ble_eq_true rfl) ?_
  refine zg_putF (w := w) (k := k) (ci := 0) (C := "HandToHand$Bench") (T := TX0) (ty0 := tyX0) (ty := (.array .int)) (v := .ref (w.2.2.2.1 + (k + 3))) X hmi hG (by omega) zsk_eq rfl zin_0 tyX0_ok nmX0 8 (by decide) rfl rfl zu_179 rfl rfl rfl rfl rfl dX0_init_22 (fun H locs hG => ?_)
  replace hG := zsk_re (E'' := .inr (0, [.null, .null, .int 0, .int 0, .int 0, .int 0, .ref (w.2.2.2.1 + (k + 1)), .ref (w.2.2.2.1 + (k + 2)), .ref (w.2.2.2.1 + (k + 3)), .null, .null, .null, .null, .null])) rfl hG
  refine lv_aload_n hx hb dX0_init_25 rfl (lv_at hl 0 rfl) ?_
  refine lv_iconst (v := 5) hx hb dX0_init_26 (by decide) ?_
  refine zg_newa (w := w) (N := 5) (t := 1) (atype := .int) (ty := .int) X hG (by omega) (by omega) zu_95 rfl rfl (fun _ => rfl) (fun _ => rfl) (by decide) (by decide) (Nat.le_of_ble_eq_true rfl) (by rw [zsk_ne (by omega)]; exact hA4) (Nat.le_of_ble_eq_true rfl) (Nat.le_of_ble_eq_true rfl) dX0_init_27 (fun H hG => ?_)
  refine W.widen (k := 4) (n := 20) (Nat.le_of_ble_eq_true rfl) (Nat.le_of_ble_eq_true rfl) ?_
  refine zg_putF (w := w) (k := k) (ci := 0) (C := "HandToHand$Bench") (T := TX0) (ty0 := tyX0) (ty := (.array .int)) (v := .ref (w.2.2.2.1 + (k + 4))) X hmi hG (by omega) zsk_eq rfl zin_0 tyX0_ok nmX0 9 (by decide) rfl rfl zu_181 rfl rfl rfl rfl rfl dX0_init_29 (fun H locs hG => ?_)
  replace hG := zsk_re (E'' := .inr (0, [.null, .null, .int 0, .int 0, .int 0, .int 0, .ref (w.2.2.2.1 + (k + 1)), .ref (w.2.2.2.1 + (k + 2)), .ref (w.2.2.2.1 + (k + 3)), .ref (w.2.2.2.1 + (k + 4)), .null, .null, .null, .null])) rfl hG
  refine lv_aload_n hx hb dX0_init_32 rfl (lv_at hl 0 rfl) ?_
  refine lv_iconst (v := 5) hx hb dX0_init_33 (by decide) ?_
  refine zg_newa (w := w) (N := 5) (t := 1) (atype := .int) (ty := .int) X hG (by omega) (by omega) zu_95 rfl rfl (fun _ => rfl) (fun _ => rfl) (by decide) (by decide) (Nat.le_of_ble_eq_true rfl) (by rw [zsk_ne (by omega)]; exact hA5) (Nat.le_of_ble_eq_true rfl) (Nat.le_of_ble_eq_true rfl) dX0_init_34 (fun H hG => ?_)
  refine W.widen (k := 5) (n := 25) (Nat.le_of_ble_eq_true rfl) (Nat.le_of_ble_eq_true rfl) ?_
  refine zg_putF (w := w) (k := k) (ci := 0) (C := "HandToHand$Bench") (T := TX0) (ty0 := tyX0) (ty := (.array .int)) (v := .ref (w.2.2.2.1 + (k + 5))) X hmi hG (by omega) zsk_eq rfl zin_0 tyX0_ok nmX0 10 (by decide) rfl rfl zu_183 rfl rfl rfl rfl rfl dX0_init_36 (fun H locs hG => ?_)
  replace hG := zsk_re (E'' := .inr (0, [.null, .null, .int 0, .int 0, .int 0, .int 0, .ref (w.2.2.2.1 + (k + 1)), .ref (w.2.2.2.1 + (k + 2)), .ref (w.2.2.2.1 + (k + 3)), .ref (w.2.2.2.1 + (k + 4)), .ref (w.2.2.2.1 + (k + 5)), .null, .null, .null])) rfl hG
  refine lv_aload_n hx hb dX0_init_39 rfl (lv_at hl 0 rfl) ?_
  refine lv_iconst (v := 5) hx hb dX0_init_40 (by decide) ?_
  refine zg_newa (w := w) (N := 5) (t := 1) (atype := .int) (ty := .int) X hG (by omega) (by omega) zu_95 rfl rfl (fun _ => rfl) (fun _ => rfl) (by decide) (by decide) (Nat.le_of_ble_eq_true rfl) (by rw [zsk_ne (by omega)]; exact hA6) (Nat.le_of_ble_eq_true rfl) (Nat.le_of_ble_eq_true rfl) dX0_init_41 (fun H hG => ?_)
  refine W.widen (k := 6) (n := 30) (Nat.le_of_ble_eq_true rfl) (Nat.le_of_ble_eq_true rfl) ?_
  refine zg_putF (w := w) (k := k) (ci := 0) (C := "HandToHand$Bench") (T := TX0) (ty0 := tyX0) (ty := (.array .int)) (v := .ref (w.2.2.2.1 + (k + 6))) X hmi hG (by omega) zsk_eq rfl zin_0 tyX0_ok nmX0 11 (by decide) rfl rfl zu_185 rfl rfl rfl rfl rfl dX0_init_43 (fun H locs hG => ?_)
  replace hG := zsk_re (E'' := .inr (0, [.null, .null, .int 0, .int 0, .int 0, .int 0, .ref (w.2.2.2.1 + (k + 1)), .ref (w.2.2.2.1 + (k + 2)), .ref (w.2.2.2.1 + (k + 3)), .ref (w.2.2.2.1 + (k + 4)), .ref (w.2.2.2.1 + (k + 5)), .ref (w.2.2.2.1 + (k + 6)), .null, .null])) rfl hG
  refine lv_aload_n hx hb dX0_init_46 rfl (lv_at hl 0 rfl) ?_
  refine lv_bipush (v := 40) hx hb dX0_init_47 (by decide) ?_
  refine zg_newa (w := w) (N := 40) (t := 1) (atype := .int) (ty := .int) X hG (by omega) (by omega) zu_95 rfl rfl (fun _ => rfl) (fun _ => rfl) (by decide) (by decide) (Nat.le_of_ble_eq_true rfl) (by rw [zsk_ne (by omega)]; exact hA7) (Nat.le_of_ble_eq_true rfl) (Nat.le_of_ble_eq_true rfl) dX0_init_49 (fun H hG => ?_)
  refine W.widen (k := 7) (n := 70) (Nat.le_of_ble_eq_true rfl) (Nat.le_of_ble_eq_true rfl) ?_
  refine zg_putF (w := w) (k := k) (ci := 0) (C := "HandToHand$Bench") (T := TX0) (ty0 := tyX0) (ty := (.array .int)) (v := .ref (w.2.2.2.1 + (k + 7))) X hmi hG (by omega) zsk_eq rfl zin_0 tyX0_ok nmX0 12 (by decide) rfl rfl zu_187 rfl rfl rfl rfl rfl dX0_init_51 (fun H locs hG => ?_)
  replace hG := zsk_re (E'' := .inr (0, [.null, .null, .int 0, .int 0, .int 0, .int 0, .ref (w.2.2.2.1 + (k + 1)), .ref (w.2.2.2.1 + (k + 2)), .ref (w.2.2.2.1 + (k + 3)), .ref (w.2.2.2.1 + (k + 4)), .ref (w.2.2.2.1 + (k + 5)), .ref (w.2.2.2.1 + (k + 6)), .ref (w.2.2.2.1 + (k + 7)), .null])) rfl hG
  refine lv_aload_n hx hb dX0_init_54 rfl (lv_at hl 0 rfl) ?_
  refine lv_bipush (v := 8) hx hb dX0_init_55 (by decide) ?_
  refine zg_newa (w := w) (N := 8) (t := 1) (atype := .int) (ty := .int) X hG (by omega) (by omega) zu_95 rfl rfl (fun _ => rfl) (fun _ => rfl) (by decide) (by decide) (Nat.le_of_ble_eq_true rfl) (by rw [zsk_ne (by omega)]; exact hA8) (Nat.le_of_ble_eq_true rfl) (Nat.le_of_ble_eq_true rfl) dX0_init_57 (fun H hG => ?_)
  refine W.widen (k := 8) (n := 78) (Nat.le_of_ble_eq_true rfl) (Nat.le_of_ble_eq_true rfl) ?_
  refine zg_putF (w := w) (k := k) (ci := 0) (C := "HandToHand$Bench") (T := TX0) (ty0 := tyX0) (ty := (.array .int)) (v := .ref (w.2.2.2.1 + (k + 8))) X hmi hG (by omega) zsk_eq rfl zin_0 tyX0_ok nmX0 13 (by decide) rfl rfl zu_190 rfl rfl rfl rfl rfl dX0_init_59 (fun H locs hG => ?_)
  replace hG := zsk_re (E'' := .inr (0, [.null, .null, .int 0, .int 0, .int 0, .int 0, .ref (w.2.2.2.1 + (k + 1)), .ref (w.2.2.2.1 + (k + 2)), .ref (w.2.2.2.1 + (k + 3)), .ref (w.2.2.2.1 + (k + 4)), .ref (w.2.2.2.1 + (k + 5)), .ref (w.2.2.2.1 + (k + 6)), .ref (w.2.2.2.1 + (k + 7)), .ref (w.2.2.2.1 + (k + 8))])) rfl hG
  refine lv_aload_n hx hb dX0_init_62 rfl (lv_at hl 0 rfl) ?_
  refine lv_aload_n hx hb dX0_init_63 rfl (lv_at hl 1 rfl) ?_
  refine zg_put (w := w) (k := k) (ci := 0) (C := "HandToHand$Bench") (T := TX0) (ty0 := tyX0) (ty := (.object "HandToHand$Told")) (v := .ref (w.2.2.2.1 + t)) X hG (by omega) zsk_eq rfl zin_0 tyX0_ok nmX0 0 (by decide) rfl zu_160 rfl rfl rfl rfl rfl dX0_init_64 (fun H locs hG => ?_)
  replace hG := zsk_re (E'' := .inr (0, [.ref (w.2.2.2.1 + t), .null, .int 0, .int 0, .int 0, .int 0, .ref (w.2.2.2.1 + (k + 1)), .ref (w.2.2.2.1 + (k + 2)), .ref (w.2.2.2.1 + (k + 3)), .ref (w.2.2.2.1 + (k + 4)), .ref (w.2.2.2.1 + (k + 5)), .ref (w.2.2.2.1 + (k + 6)), .ref (w.2.2.2.1 + (k + 7)), .ref (w.2.2.2.1 + (k + 8))])) rfl hG
  refine lv_aload_n hx hb dX0_init_67 rfl (lv_at hl 0 rfl) ?_
  refine lv_aload_n hx hb dX0_init_68 rfl (lv_at hl 2 rfl) ?_
  refine zg_putF (w := w) (k := k) (ci := 0) (C := "HandToHand$Bench") (T := TX0) (ty0 := tyX0) (ty := (.object "HandToHand$Handings")) (v := .ref (w.2.2.2.1 + g)) X hmi hG (by omega) zsk_eq rfl zin_0 tyX0_ok nmX0 1 (by decide) rfl rfl zu_162 rfl rfl rfl rfl rfl dX0_init_69 (fun H locs hG => ?_)
  replace hG := zsk_re (E'' := .inr (0, [.ref (w.2.2.2.1 + t), .ref (w.2.2.2.1 + g), .int 0, .int 0, .int 0, .int 0, .ref (w.2.2.2.1 + (k + 1)), .ref (w.2.2.2.1 + (k + 2)), .ref (w.2.2.2.1 + (k + 3)), .ref (w.2.2.2.1 + (k + 4)), .ref (w.2.2.2.1 + (k + 5)), .ref (w.2.2.2.1 + (k + 6)), .ref (w.2.2.2.1 + (k + 7)), .ref (w.2.2.2.1 + (k + 8))])) rfl hG
  replace hG := zsk_fin hF hG
  exact zg_vret (w' := zwn w sh (k + 9)) X hr hlk rfl hG rfl dX0_init_72
set_option maxHeartbeats 4000000 in
set_option maxRecDepth 20000 in
theorem i_Ring {l : Launch} {w : zWd} {k : Nat} {M M' : zMem} {sh : Nat → (Nat → Int32) → va_E} (hn : w.2.2.2.2 = k + 1) (hk : w.2.2.1 k (M k) = .inr (6, [.int 0, .int 0, .int 0, .int 0, .int 0, .int 0, .int 0, .int 0])) (hs : ∀ c, c < k → w.2.2.1 c (M c) = sh c (M' c)) (hF : sh k (M' k) = .inr (6, [.int 0, .int 0, .int 0, .int 0, .int 0, .int 0, .int 0, .int 0]))  : zMc l ⟨"HandToHand$Ring", "<init>", "()V"⟩ prog_8_method_1_code 1 1 12 0 0 w [.ref (w.2.2.2.1 + k)] M (zwn w sh (k + 1)) (fun M1 => M1 = M') := by
  refine zMetC (by decide) rfl (Nat.le_of_ble_eq_true rfl) ?_
  intro p e s m below meth c X hKo hmi hr hlk hml hsz hG ls hl
  have hx := X.1
  have hb := X.2.1
  have hl : lv_has ls 1 [(0, .ref (w.2.2.2.1 + k))] := hl
  have hG : zGo (zwn w (zsk sh k (.inr (6, [.int 0, .int 0, .int 0, .int 0, .int 0, .int 0, .int 0, .int 0]))) (k + 1)) s.heap M' s.heap [] := by
    rw [← hn]
    refine zGo_cast (w := w) (sh := w.2.2.1) (M := M) (fun c hc => ?_) hG
    by_cases q : c = k
    · subst q; rw [zsk_eq]; exact hk
    · rw [zsk_ne q]; exact hs c (by omega)
  refine lv_aload_n hx hb dX6_init_0 rfl (lv_at hl 0 rfl) ?_
  refine zg_obj X hml hl zu_291 zu_24 zu_25 ⟨Nat.le_of_ble_eq_true rfl, Nat.le_of_ble_eq_true rfl⟩ dX6_init_1 ?_
  replace hG := zsk_fin hF hG
  exact zg_vret (w' := zwn w sh (k + 1)) X hr hlk rfl hG rfl dX6_init_4
set_option maxHeartbeats 4000000 in
set_option maxRecDepth 20000 in
theorem i_Orders {l : Launch} {w : zWd} {k : Nat} {M M' : zMem} {sh : Nat → (Nat → Int32) → va_E} (hn : w.2.2.2.2 = k + 1) (hk : w.2.2.1 k (M k) = .inr (3, [.null, .null, .null])) (hs : ∀ c, c < k → w.2.2.1 c (M c) = sh c (M' c)) (hF : sh k (M' k) = .inr (3, [.ref (w.2.2.2.1 + (k + 1)), .ref (w.2.2.2.1 + (k + 2)), .ref (w.2.2.2.1 + (k + 3))])) (hA1 : sh (k + 1) (M' (k + 1)) = .inl (w.2.1 1, 120, .inl fun _ => 0)) (hA2 : sh (k + 2) (M' (k + 2)) = .inl (w.2.1 1, 120, .inl fun _ => 0)) (hA3 : sh (k + 3) (M' (k + 3)) = .inl (w.2.1 1, 5, .inl fun _ => 0)) : zMc l ⟨"HandToHand$Orders", "<init>", "()V"⟩ prog_5_method_1_code 1 1 12 3 245 w [.ref (w.2.2.2.1 + k)] M (zwn w sh (k + 4)) (fun M1 => M1 = M') := by
  refine zMetC (by decide) rfl (Nat.le_of_ble_eq_true rfl) ?_
  intro p e s m below meth c X hKo hmi hr hlk hml hsz hG ls hl
  have hx := X.1
  have hb := X.2.1
  have hl : lv_has ls 1 [(0, .ref (w.2.2.2.1 + k))] := hl
  have hG : zGo (zwn w (zsk sh k (.inr (3, [.null, .null, .null]))) (k + 1)) s.heap M' s.heap [] := by
    rw [← hn]
    refine zGo_cast (w := w) (sh := w.2.2.1) (M := M) (fun c hc => ?_) hG
    by_cases q : c = k
    · subst q; rw [zsk_eq]; exact hk
    · rw [zsk_ne q]; exact hs c (by omega)
  refine lv_aload_n hx hb dX3_init_0 rfl (lv_at hl 0 rfl) ?_
  refine zg_obj X hml hl zu_334 zu_24 zu_25 ⟨Nat.le_of_ble_eq_true rfl, Nat.le_of_ble_eq_true rfl⟩ dX3_init_1 ?_
  refine lv_aload_n hx hb dX3_init_4 rfl (lv_at hl 0 rfl) ?_
  refine lv_bipush (v := 120) hx hb dX3_init_5 (by decide) ?_
  refine zg_newa (w := w) (N := 120) (t := 1) (atype := .int) (ty := .int) X hG (by omega) (by omega) zu_95 rfl rfl (fun _ => rfl) (fun _ => rfl) (by decide) (by decide) (Nat.le_of_ble_eq_true rfl) (by rw [zsk_ne (by omega)]; exact hA1) (Nat.le_of_ble_eq_true rfl) (Nat.le_of_ble_eq_true rfl) dX3_init_7 (fun H hG => ?_)
  refine W.widen (k := 1) (n := 120) (Nat.le_of_ble_eq_true rfl) (Nat.le_of_ble_eq_true rfl) ?_
  refine zg_putF (w := w) (k := k) (ci := 3) (C := "HandToHand$Orders") (T := TX3) (ty0 := tyX3) (ty := (.array .int)) (v := .ref (w.2.2.2.1 + (k + 1))) X hmi hG (by omega) zsk_eq rfl zin_3 tyX3_ok nmX3 0 (by decide) rfl rfl zu_335 rfl rfl rfl rfl rfl dX3_init_9 (fun H locs hG => ?_)
  replace hG := zsk_re (E'' := .inr (3, [.ref (w.2.2.2.1 + (k + 1)), .null, .null])) rfl hG
  refine lv_aload_n hx hb dX3_init_12 rfl (lv_at hl 0 rfl) ?_
  refine lv_bipush (v := 120) hx hb dX3_init_13 (by decide) ?_
  refine zg_newa (w := w) (N := 120) (t := 1) (atype := .int) (ty := .int) X hG (by omega) (by omega) zu_95 rfl rfl (fun _ => rfl) (fun _ => rfl) (by decide) (by decide) (Nat.le_of_ble_eq_true rfl) (by rw [zsk_ne (by omega)]; exact hA2) (Nat.le_of_ble_eq_true rfl) (Nat.le_of_ble_eq_true rfl) dX3_init_15 (fun H hG => ?_)
  refine W.widen (k := 2) (n := 240) (Nat.le_of_ble_eq_true rfl) (Nat.le_of_ble_eq_true rfl) ?_
  refine zg_putF (w := w) (k := k) (ci := 3) (C := "HandToHand$Orders") (T := TX3) (ty0 := tyX3) (ty := (.array .int)) (v := .ref (w.2.2.2.1 + (k + 2))) X hmi hG (by omega) zsk_eq rfl zin_3 tyX3_ok nmX3 1 (by decide) rfl rfl zu_337 rfl rfl rfl rfl rfl dX3_init_17 (fun H locs hG => ?_)
  replace hG := zsk_re (E'' := .inr (3, [.ref (w.2.2.2.1 + (k + 1)), .ref (w.2.2.2.1 + (k + 2)), .null])) rfl hG
  refine lv_aload_n hx hb dX3_init_20 rfl (lv_at hl 0 rfl) ?_
  refine lv_iconst (v := 5) hx hb dX3_init_21 (by decide) ?_
  refine zg_newa (w := w) (N := 5) (t := 1) (atype := .int) (ty := .int) X hG (by omega) (by omega) zu_95 rfl rfl (fun _ => rfl) (fun _ => rfl) (by decide) (by decide) (Nat.le_of_ble_eq_true rfl) (by rw [zsk_ne (by omega)]; exact hA3) (Nat.le_of_ble_eq_true rfl) (Nat.le_of_ble_eq_true rfl) dX3_init_22 (fun H hG => ?_)
  refine W.widen (k := 3) (n := 245) (Nat.le_of_ble_eq_true rfl) (Nat.le_of_ble_eq_true rfl) ?_
  refine zg_putF (w := w) (k := k) (ci := 3) (C := "HandToHand$Orders") (T := TX3) (ty0 := tyX3) (ty := (.array .int)) (v := .ref (w.2.2.2.1 + (k + 3))) X hmi hG (by omega) zsk_eq rfl zin_3 tyX3_ok nmX3 2 (by decide) rfl rfl zu_339 rfl rfl rfl rfl rfl dX3_init_24 (fun H locs hG => ?_)
  replace hG := zsk_re (E'' := .inr (3, [.ref (w.2.2.2.1 + (k + 1)), .ref (w.2.2.2.1 + (k + 2)), .ref (w.2.2.2.1 + (k + 3))])) rfl hG
  replace hG := zsk_fin hF hG
  exact zg_vret (w' := zwn w sh (k + 4)) X hr hlk rfl hG rfl dX3_init_27
set_option maxHeartbeats 4000000 in
set_option maxRecDepth 20000 in
theorem i_Parts {l : Launch} {w : zWd} {k : Nat} {M M' : zMem} {sh : Nat → (Nat → Int32) → va_E} (hn : w.2.2.2.2 = k + 1) (hk : w.2.2.1 k (M k) = .inr (4, [.int 0, .int 0, .int 0, .null])) (hs : ∀ c, c < k → w.2.2.1 c (M c) = sh c (M' c)) (hF : sh k (M' k) = .inr (4, [.int 0, .int 0, .int 0, .ref (w.2.2.2.1 + (k + 1))])) (hA1 : sh (k + 1) (M' (k + 1)) = .inl (w.2.1 1, 5, .inl fun _ => 0)) : zMc l ⟨"HandToHand$Parts", "<init>", "()V"⟩ prog_6_method_1_code 1 1 12 1 5 w [.ref (w.2.2.2.1 + k)] M (zwn w sh (k + 2)) (fun M1 => M1 = M') := by
  refine zMetC (by decide) rfl (Nat.le_of_ble_eq_true rfl) ?_
  intro p e s m below meth c X hKo hmi hr hlk hml hsz hG ls hl
  have hx := X.1
  have hb := X.2.1
  have hl : lv_has ls 1 [(0, .ref (w.2.2.2.1 + k))] := hl
  have hG : zGo (zwn w (zsk sh k (.inr (4, [.int 0, .int 0, .int 0, .null]))) (k + 1)) s.heap M' s.heap [] := by
    rw [← hn]
    refine zGo_cast (w := w) (sh := w.2.2.1) (M := M) (fun c hc => ?_) hG
    by_cases q : c = k
    · subst q; rw [zsk_eq]; exact hk
    · rw [zsk_ne q]; exact hs c (by omega)
  refine lv_aload_n hx hb dX4_init_0 rfl (lv_at hl 0 rfl) ?_
  refine zg_obj X hml hl zu_353 zu_24 zu_25 ⟨Nat.le_of_ble_eq_true rfl, Nat.le_of_ble_eq_true rfl⟩ dX4_init_1 ?_
  refine lv_aload_n hx hb dX4_init_4 rfl (lv_at hl 0 rfl) ?_
  refine lv_iconst (v := 5) hx hb dX4_init_5 (by decide) ?_
  refine zg_newa (w := w) (N := 5) (t := 1) (atype := .int) (ty := .int) X hG (by omega) (by omega) zu_95 rfl rfl (fun _ => rfl) (fun _ => rfl) (by decide) (by decide) (Nat.le_of_ble_eq_true rfl) (by rw [zsk_ne (by omega)]; exact hA1) (Nat.le_of_ble_eq_true rfl) (Nat.le_of_ble_eq_true rfl) dX4_init_6 (fun H hG => ?_)
  refine W.widen (k := 1) (n := 5) (Nat.le_of_ble_eq_true rfl) (Nat.le_of_ble_eq_true rfl) ?_
  refine zg_putF (w := w) (k := k) (ci := 4) (C := "HandToHand$Parts") (T := TX4) (ty0 := tyX4) (ty := (.array .int)) (v := .ref (w.2.2.2.1 + (k + 1))) X hmi hG (by omega) zsk_eq rfl zin_4 tyX4_ok nmX4 3 (by decide) rfl rfl zu_359 rfl rfl rfl rfl rfl dX4_init_8 (fun H locs hG => ?_)
  replace hG := zsk_re (E'' := .inr (4, [.int 0, .int 0, .int 0, .ref (w.2.2.2.1 + (k + 1))])) rfl hG
  replace hG := zsk_fin hF hG
  exact zg_vret (w' := zwn w sh (k + 2)) X hr hlk rfl hG rfl dX4_init_11
set_option maxHeartbeats 4000000 in
set_option maxRecDepth 20000 in
theorem i_Sheet {l : Launch} {w : zWd} {k : Nat} {M M' : zMem} {sh : Nat → (Nat → Int32) → va_E} (hn : w.2.2.2.2 = k + 1) (hk : w.2.2.1 k (M k) = .inr (8, [.int 0, .int 0, .null])) (hs : ∀ c, c < k → w.2.2.1 c (M c) = sh c (M' c)) (hF : sh k (M' k) = .inr (8, [.int (-1), .int 0, .ref (w.2.2.2.1 + (k + 1))])) (hA1 : sh (k + 1) (M' (k + 1)) = .inl (w.2.1 1, 40, .inl fun _ => 0)) : zMc l ⟨"HandToHand$Sheet", "<init>", "()V"⟩ prog_10_method_1_code 1 1 12 1 40 w [.ref (w.2.2.2.1 + k)] M (zwn w sh (k + 2)) (fun M1 => M1 = M') := by
  refine zMetC (by decide) rfl (Nat.le_of_ble_eq_true rfl) ?_
  intro p e s m below meth c X hKo hmi hr hlk hml hsz hG ls hl
  have hx := X.1
  have hb := X.2.1
  have hl : lv_has ls 1 [(0, .ref (w.2.2.2.1 + k))] := hl
  have hG : zGo (zwn w (zsk sh k (.inr (8, [.int 0, .int 0, .null]))) (k + 1)) s.heap M' s.heap [] := by
    rw [← hn]
    refine zGo_cast (w := w) (sh := w.2.2.1) (M := M) (fun c hc => ?_) hG
    by_cases q : c = k
    · subst q; rw [zsk_eq]; exact hk
    · rw [zsk_ne q]; exact hs c (by omega)
  refine lv_aload_n hx hb dX8_init_0 rfl (lv_at hl 0 rfl) ?_
  refine zg_obj X hml hl zu_388 zu_24 zu_25 ⟨Nat.le_of_ble_eq_true rfl, Nat.le_of_ble_eq_true rfl⟩ dX8_init_1 ?_
  refine lv_aload_n hx hb dX8_init_4 rfl (lv_at hl 0 rfl) ?_
  refine lv_iconst (v := (-1)) hx hb dX8_init_5 (by decide) ?_
  refine zg_put (w := w) (k := k) (ci := 8) (C := "HandToHand$Sheet") (T := TX8) (ty0 := tyX8) (ty := .int) (v := .int (-1)) X hG (by omega) zsk_eq rfl zin_8 tyX8_ok nmX8 0 (by decide) rfl zu_389 rfl rfl rfl rfl rfl dX8_init_6 (fun H locs hG => ?_)
  replace hG := zsk_re (E'' := .inr (8, [.int (-1), .int 0, .null])) rfl hG
  refine lv_aload_n hx hb dX8_init_9 rfl (lv_at hl 0 rfl) ?_
  refine lv_bipush (v := 40) hx hb dX8_init_10 (by decide) ?_
  refine zg_newa (w := w) (N := 40) (t := 1) (atype := .int) (ty := .int) X hG (by omega) (by omega) zu_95 rfl rfl (fun _ => rfl) (fun _ => rfl) (by decide) (by decide) (Nat.le_of_ble_eq_true rfl) (by rw [zsk_ne (by omega)]; exact hA1) (Nat.le_of_ble_eq_true rfl) (Nat.le_of_ble_eq_true rfl) dX8_init_12 (fun H hG => ?_)
  refine W.widen (k := 1) (n := 40) (Nat.le_of_ble_eq_true rfl) (Nat.le_of_ble_eq_true rfl) ?_
  refine zg_putF (w := w) (k := k) (ci := 8) (C := "HandToHand$Sheet") (T := TX8) (ty0 := tyX8) (ty := (.array .int)) (v := .ref (w.2.2.2.1 + (k + 1))) X hmi hG (by omega) zsk_eq rfl zin_8 tyX8_ok nmX8 2 (by decide) rfl rfl zu_393 rfl rfl rfl rfl rfl dX8_init_14 (fun H locs hG => ?_)
  replace hG := zsk_re (E'' := .inr (8, [.int (-1), .int 0, .ref (w.2.2.2.1 + (k + 1))])) rfl hG
  replace hG := zsk_fin hF hG
  exact zg_vret (w' := zwn w sh (k + 2)) X hr hlk rfl hG rfl dX8_init_17
set_option maxHeartbeats 4000000 in
set_option maxRecDepth 20000 in
theorem i_Course {l : Launch} {w : zWd} {k : Nat} {t : Nat} {M M' : zMem} {sh : Nat → (Nat → Int32) → va_E} (hn : w.2.2.2.2 = k + 1) (hk : w.2.2.1 k (M k) = .inr (1, [.null, .null, .int 0, .int 0])) (hs : ∀ c, c < k → w.2.2.1 c (M c) = sh c (M' c)) (hF : sh k (M' k) = .inr (1, [.ref (w.2.2.2.1 + (k + 1)), .ref (w.2.2.2.1 + (k + 3)), .int 0, .int 0])) (hB1 : sh (k + 1) (M' (k + 1)) = .inr (2, [.int 0, .ref (w.2.2.2.1 + (k + 2))])) (hA2 : sh (k + 2) (M' (k + 2)) = .inl (w.2.1 1, 3000, .inl fun _ => 0)) (hB3 : sh (k + 3) (M' (k + 3)) = .inr (0, [.ref (w.2.2.2.1 + t), .ref (w.2.2.2.1 + (k + 1)), .int 0, .int 0, .int 0, .int 0, .ref (w.2.2.2.1 + (k + 4)), .ref (w.2.2.2.1 + (k + 5)), .ref (w.2.2.2.1 + (k + 6)), .ref (w.2.2.2.1 + (k + 7)), .ref (w.2.2.2.1 + (k + 8)), .ref (w.2.2.2.1 + (k + 9)), .ref (w.2.2.2.1 + (k + 10)), .ref (w.2.2.2.1 + (k + 11))])) (hA4 : sh (k + 4) (M' (k + 4)) = .inl (w.2.1 1, 5, .inl fun _ => 0)) (hA5 : sh (k + 5) (M' (k + 5)) = .inl (w.2.1 1, 5, .inl fun _ => 0)) (hA6 : sh (k + 6) (M' (k + 6)) = .inl (w.2.1 1, 5, .inl fun _ => 0)) (hA7 : sh (k + 7) (M' (k + 7)) = .inl (w.2.1 1, 5, .inl fun _ => 0)) (hA8 : sh (k + 8) (M' (k + 8)) = .inl (w.2.1 1, 5, .inl fun _ => 0)) (hA9 : sh (k + 9) (M' (k + 9)) = .inl (w.2.1 1, 5, .inl fun _ => 0)) (hA10 : sh (k + 10) (M' (k + 10)) = .inl (w.2.1 1, 40, .inl fun _ => 0)) (hA11 : sh (k + 11) (M' (k + 11)) = .inl (w.2.1 1, 8, .inl fun _ => 0)) : zMc l ⟨"HandToHand$Course", "<init>", "(LHandToHand$Told;)V"⟩ prog_3_method_1_code 2 2 34 11 3094 w [.ref (w.2.2.2.1 + k), .ref (w.2.2.2.1 + t)] M (zwn w sh (k + 12)) (fun M1 => M1 = M') := by
  refine zMetC (by decide) rfl (Nat.le_of_ble_eq_true rfl) ?_
  intro p e s m below meth c X hKo hmi hr hlk hml hsz hG ls hl
  have hx := X.1
  have hb := X.2.1
  have hl : lv_has ls 2 [(0, .ref (w.2.2.2.1 + k)), (1, .ref (w.2.2.2.1 + t))] := hl
  have hG : zGo (zwn w (zsk sh k (.inr (1, [.null, .null, .int 0, .int 0]))) (k + 1)) s.heap M' s.heap [] := by
    rw [← hn]
    refine zGo_cast (w := w) (sh := w.2.2.1) (M := M) (fun c hc => ?_) hG
    by_cases q : c = k
    · subst q; rw [zsk_eq]; exact hk
    · rw [zsk_ne q]; exact hs c (by omega)
  refine lv_aload_n hx hb dX1_init_0 rfl (lv_at hl 0 rfl) ?_
  refine zg_obj X hml hl zu_226 zu_24 zu_25 ⟨Nat.le_of_ble_eq_true rfl, Nat.le_of_ble_eq_true rfl⟩ dX1_init_1 ?_
  refine lv_aload_n hx hb dX1_init_4 rfl (lv_at hl 0 rfl) ?_
  refine zg_new (w := w) (ci := 2) (C := "HandToHand$Handings") (T := TX2) (ty0 := tyX2) (fs := [.int 0, .null]) X hG (by omega) (by omega) rfl zin_2 tyX2_ok zu_227 zu_228 zu_6 (fun j hj => by rcases (show j = 0 ∨ j = 1 by omega) with rfl | rfl <;> rfl) (Nat.le_of_ble_eq_true rfl) (Nat.le_of_ble_eq_true rfl) dX1_init_5 (fun H hG => ?_)
  refine W.widen (k := 1) (n := 2) (Nat.le_of_ble_eq_true rfl) (Nat.le_of_ble_eq_true rfl) ?_
  refine lv_dup hx hb dX1_init_8 rfl ?_
  refine zg_ctorN (w := w) (k := k + 1) (na := 0) (As := []) (rest := [.ref (w.2.2.2.1 + (k + 1)), .ref (w.2.2.2.1 + k)]) (host := "HandToHand") X hKo hml hl hG (by omega) (by omega) (List.mem_of_getElem? (i := 3) rfl) zu_230 zu_6 zu_231 rfl (by decide +kernel) (i_Handings (w := zwn w (zsk (zsk sh k (.inr (1, [.null, .null, .int 0, .int 0]))) (k + 1) (.inr (2, [.int 0, .null]))) (k + 2)) (k := k + 1) (M := M') (M' := M') (sh := zsk sh k (.inr (1, [.null, .null, .int 0, .int 0]))) rfl zsk_eq (fun c hc => congrFun (zsk_ne (by omega)) _) ((congrFun (zsk_ne (by omega)) _).trans hB1) ((congrFun (zsk_ne (by omega)) _).trans hA2)) rfl rfl ⟨Nat.le_of_ble_eq_true rfl, Nat.le_of_ble_eq_true rfl⟩ ⟨Nat.le_of_ble_eq_true rfl, Nat.le_of_ble_eq_true rfl⟩ rfl (Nat.le_of_ble_eq_true rfl) dX1_init_9 (fun M1 H locs eM hG => ?_)
  rw [eM] at hG
  refine W.widen (k := 2) (n := 3002) (Nat.le_of_ble_eq_true rfl) (Nat.le_of_ble_eq_true rfl) ?_
  refine zg_putF (w := w) (k := k) (ci := 1) (C := "HandToHand$Course") (T := TX1) (ty0 := tyX1) (ty := (.object "HandToHand$Handings")) (v := .ref (w.2.2.2.1 + (k + 1))) X hmi hG (by omega) zsk_eq rfl zin_1 tyX1_ok nmX1 0 (by decide) rfl rfl zu_245 rfl rfl rfl rfl rfl dX1_init_12 (fun H locs hG => ?_)
  replace hG := zsk_re (E'' := .inr (1, [.ref (w.2.2.2.1 + (k + 1)), .null, .int 0, .int 0])) rfl hG
  refine lv_aload_n hx hb dX1_init_15 rfl (lv_at hl 0 rfl) ?_
  refine zg_new (w := w) (ci := 0) (C := "HandToHand$Bench") (T := TX0) (ty0 := tyX0) (fs := [.null, .null, .int 0, .int 0, .int 0, .int 0, .null, .null, .null, .null, .null, .null, .null, .null]) X hG (by omega) (by omega) rfl zin_0 tyX0_ok zu_243 zu_155 zu_4 (fun j hj => by rcases (show j = 0 ∨ j = 1 ∨ j = 2 ∨ j = 3 ∨ j = 4 ∨ j = 5 ∨ j = 6 ∨ j = 7 ∨ j = 8 ∨ j = 9 ∨ j = 10 ∨ j = 11 ∨ j = 12 ∨ j = 13 by omega) with rfl | rfl | rfl | rfl | rfl | rfl | rfl | rfl | rfl | rfl | rfl | rfl | rfl | rfl <;> rfl) (Nat.le_of_ble_eq_true rfl) (Nat.le_of_ble_eq_true rfl) dX1_init_16 (fun H hG => ?_)
  refine W.widen (k := 3) (n := 3016) (Nat.le_of_ble_eq_true rfl) (Nat.le_of_ble_eq_true rfl) ?_
  refine lv_dup hx hb dX1_init_19 rfl ?_
  refine lv_aload_n hx hb dX1_init_20 rfl (lv_at hl 1 rfl) ?_
  refine lv_aload_n hx hb dX1_init_21 rfl (lv_at hl 0 rfl) ?_
  refine zg_get (w := w) (k := k) (ci := 1) (C := "HandToHand$Course") (T := TX1) (fs := [.ref (w.2.2.2.1 + (k + 1)), .null, .int 0, .int 0]) X hG (by omega) (by first | exact zsk_eq | exact (congrFun (zsk_ne (by omega)) _).trans zsk_eq) rfl zin_1 0 (by decide) rfl zu_245 rfl dX1_init_22 ?_
  refine zg_ctor (w := w) (k := k + 3) (na := 2) (As := [.ref (w.2.2.2.1 + t), .ref (w.2.2.2.1 + (k + 1))]) (rest := [.ref (w.2.2.2.1 + (k + 3)), .ref (w.2.2.2.1 + k)]) X hKo hml hl hG (by omega) (by omega) zu_244 zu_157 zu_4 zu_158 rfl (by decide +kernel) (i_BenchR (w := zwn w (zsk (zsk sh k (.inr (1, [.ref (w.2.2.2.1 + (k + 1)), .null, .int 0, .int 0]))) (k + 3) (.inr (0, [.null, .null, .int 0, .int 0, .int 0, .int 0, .null, .null, .null, .null, .null, .null, .null, .null]))) (k + 4)) (k := k + 3) (M := M') (M' := M') (sh := zsk sh k (.inr (1, [.ref (w.2.2.2.1 + (k + 1)), .null, .int 0, .int 0]))) rfl zsk_eq (fun c hc => congrFun (zsk_ne (by omega)) _) ((congrFun (zsk_ne (by omega)) _).trans hB3) ((congrFun (zsk_ne (by omega)) _).trans hA4) ((congrFun (zsk_ne (by omega)) _).trans hA5) ((congrFun (zsk_ne (by omega)) _).trans hA6) ((congrFun (zsk_ne (by omega)) _).trans hA7) ((congrFun (zsk_ne (by omega)) _).trans hA8) ((congrFun (zsk_ne (by omega)) _).trans hA9) ((congrFun (zsk_ne (by omega)) _).trans hA10) ((congrFun (zsk_ne (by omega)) _).trans hA11)) rfl rfl ⟨Nat.le_of_ble_eq_true rfl, Nat.le_of_ble_eq_true rfl⟩ ⟨Nat.le_of_ble_eq_true rfl, Nat.le_of_ble_eq_true rfl⟩ rfl (Nat.le_of_ble_eq_true rfl) dX1_init_25 (fun M1 H locs eM hG => ?_)
  rw [eM] at hG
  refine W.widen (k := 11) (n := 3094) (Nat.le_of_ble_eq_true rfl) (Nat.le_of_ble_eq_true rfl) ?_
  refine zg_putF (w := w) (k := k) (ci := 1) (C := "HandToHand$Course") (T := TX1) (ty0 := tyX1) (ty := (.object "HandToHand$Bench")) (v := .ref (w.2.2.2.1 + (k + 3))) X hmi hG (by omega) zsk_eq rfl zin_1 tyX1_ok nmX1 1 (by decide) rfl rfl zu_247 rfl rfl rfl rfl rfl dX1_init_28 (fun H locs hG => ?_)
  replace hG := zsk_re (E'' := .inr (1, [.ref (w.2.2.2.1 + (k + 1)), .ref (w.2.2.2.1 + (k + 3)), .int 0, .int 0])) rfl hG
  replace hG := zsk_fin hF hG
  exact zg_vret (w' := zwn w sh (k + 12)) X hr hlk rfl hG rfl dX1_init_31
set_option maxHeartbeats 4000000 in
set_option maxRecDepth 20000 in
theorem i_Settling {l : Launch} {w : zWd} {k : Nat} {t : Nat} {M M' : zMem} {sh : Nat → (Nat → Int32) → va_E} (hn : w.2.2.2.2 = k + 1) (hk : w.2.2.1 k (M k) = .inr (7, [.null, .int 0, .null, .null, .null])) (hs : ∀ c, c < k → w.2.2.1 c (M c) = sh c (M' c)) (hF : sh k (M' k) = .inr (7, [.ref (w.2.2.2.1 + (k + 4)), .int 0, .ref (w.2.2.2.1 + (k + 1)), .ref (w.2.2.2.1 + (k + 2)), .ref (w.2.2.2.1 + (k + 3))])) (hA1 : sh (k + 1) (M' (k + 1)) = .inl (w.2.1 1, 5520, .inl fun _ => 0)) (hA2 : sh (k + 2) (M' (k + 2)) = .inl (w.2.1 1, 120, .inl fun _ => 0)) (hA3 : sh (k + 3) (M' (k + 3)) = .inl (w.2.1 1, 120, .inl fun _ => 0)) (hB4 : sh (k + 4) (M' (k + 4)) = .inr (0, [.ref (w.2.2.2.1 + t), .null, .int 0, .int 0, .int 0, .int 0, .ref (w.2.2.2.1 + (k + 5)), .ref (w.2.2.2.1 + (k + 6)), .ref (w.2.2.2.1 + (k + 7)), .ref (w.2.2.2.1 + (k + 8)), .ref (w.2.2.2.1 + (k + 9)), .ref (w.2.2.2.1 + (k + 10)), .ref (w.2.2.2.1 + (k + 11)), .ref (w.2.2.2.1 + (k + 12))])) (hA5 : sh (k + 5) (M' (k + 5)) = .inl (w.2.1 1, 5, .inl fun _ => 0)) (hA6 : sh (k + 6) (M' (k + 6)) = .inl (w.2.1 1, 5, .inl fun _ => 0)) (hA7 : sh (k + 7) (M' (k + 7)) = .inl (w.2.1 1, 5, .inl fun _ => 0)) (hA8 : sh (k + 8) (M' (k + 8)) = .inl (w.2.1 1, 5, .inl fun _ => 0)) (hA9 : sh (k + 9) (M' (k + 9)) = .inl (w.2.1 1, 5, .inl fun _ => 0)) (hA10 : sh (k + 10) (M' (k + 10)) = .inl (w.2.1 1, 5, .inl fun _ => 0)) (hA11 : sh (k + 11) (M' (k + 11)) = .inl (w.2.1 1, 40, .inl fun _ => 0)) (hA12 : sh (k + 12) (M' (k + 12)) = .inl (w.2.1 1, 8, .inl fun _ => 0)) : zMc l ⟨"HandToHand$Settling", "<init>", "(LHandToHand$Told;)V"⟩ prog_9_method_1_code 2 2 34 12 5852 w [.ref (w.2.2.2.1 + k), .ref (w.2.2.2.1 + t)] M (zwn w sh (k + 13)) (fun M1 => M1 = M') := by
  refine zMetC (by decide) rfl (Nat.le_of_ble_eq_true rfl) ?_
  intro p e s m below meth c X hKo hmi hr hlk hml hsz hG ls hl
  have hx := X.1
  have hb := X.2.1
  have hl : lv_has ls 2 [(0, .ref (w.2.2.2.1 + k)), (1, .ref (w.2.2.2.1 + t))] := hl
  have hG : zGo (zwn w (zsk sh k (.inr (7, [.null, .int 0, .null, .null, .null]))) (k + 1)) s.heap M' s.heap [] := by
    rw [← hn]
    refine zGo_cast (w := w) (sh := w.2.2.1) (M := M) (fun c hc => ?_) hG
    by_cases q : c = k
    · subst q; rw [zsk_eq]; exact hk
    · rw [zsk_ne q]; exact hs c (by omega)
  refine lv_aload_n hx hb dX7_init_0 rfl (lv_at hl 0 rfl) ?_
  refine zg_obj X hml hl zu_267 zu_24 zu_25 ⟨Nat.le_of_ble_eq_true rfl, Nat.le_of_ble_eq_true rfl⟩ dX7_init_1 ?_
  refine lv_aload_n hx hb dX7_init_4 rfl (lv_at hl 0 rfl) ?_
  refine lv_sipush (v := 5520) hx hb dX7_init_5 (by decide) ?_
  refine zg_newa (w := w) (N := 5520) (t := 1) (atype := .int) (ty := .int) X hG (by omega) (by omega) zu_95 rfl rfl (fun _ => rfl) (fun _ => rfl) (by decide) (by decide) (Nat.le_of_ble_eq_true rfl) (by rw [zsk_ne (by omega)]; exact hA1) (Nat.le_of_ble_eq_true rfl) (Nat.le_of_ble_eq_true rfl) dX7_init_8 (fun H hG => ?_)
  refine W.widen (k := 1) (n := 5520) (Nat.le_of_ble_eq_true rfl) (Nat.le_of_ble_eq_true rfl) ?_
  refine zg_putF (w := w) (k := k) (ci := 7) (C := "HandToHand$Settling") (T := TX7) (ty0 := tyX7) (ty := (.array .int)) (v := .ref (w.2.2.2.1 + (k + 1))) X hmi hG (by omega) zsk_eq rfl zin_7 tyX7_ok nmX7 2 (by decide) rfl rfl zu_272 rfl rfl rfl rfl rfl dX7_init_10 (fun H locs hG => ?_)
  replace hG := zsk_re (E'' := .inr (7, [.null, .int 0, .ref (w.2.2.2.1 + (k + 1)), .null, .null])) rfl hG
  refine lv_aload_n hx hb dX7_init_13 rfl (lv_at hl 0 rfl) ?_
  refine lv_bipush (v := 120) hx hb dX7_init_14 (by decide) ?_
  refine zg_newa (w := w) (N := 120) (t := 1) (atype := .int) (ty := .int) X hG (by omega) (by omega) zu_95 rfl rfl (fun _ => rfl) (fun _ => rfl) (by decide) (by decide) (Nat.le_of_ble_eq_true rfl) (by rw [zsk_ne (by omega)]; exact hA2) (Nat.le_of_ble_eq_true rfl) (Nat.le_of_ble_eq_true rfl) dX7_init_16 (fun H hG => ?_)
  refine W.widen (k := 2) (n := 5640) (Nat.le_of_ble_eq_true rfl) (Nat.le_of_ble_eq_true rfl) ?_
  refine zg_putF (w := w) (k := k) (ci := 7) (C := "HandToHand$Settling") (T := TX7) (ty0 := tyX7) (ty := (.array .int)) (v := .ref (w.2.2.2.1 + (k + 2))) X hmi hG (by omega) zsk_eq rfl zin_7 tyX7_ok nmX7 3 (by decide) rfl rfl zu_273 rfl rfl rfl rfl rfl dX7_init_18 (fun H locs hG => ?_)
  replace hG := zsk_re (E'' := .inr (7, [.null, .int 0, .ref (w.2.2.2.1 + (k + 1)), .ref (w.2.2.2.1 + (k + 2)), .null])) rfl hG
  refine lv_aload_n hx hb dX7_init_21 rfl (lv_at hl 0 rfl) ?_
  refine lv_bipush (v := 120) hx hb dX7_init_22 (by decide) ?_
  refine zg_newa (w := w) (N := 120) (t := 1) (atype := .int) (ty := .int) X hG (by omega) (by omega) zu_95 rfl rfl (fun _ => rfl) (fun _ => rfl) (by decide) (by decide) (Nat.le_of_ble_eq_true rfl) (by rw [zsk_ne (by omega)]; exact hA3) (Nat.le_of_ble_eq_true rfl) (Nat.le_of_ble_eq_true rfl) dX7_init_24 (fun H hG => ?_)
  refine W.widen (k := 3) (n := 5760) (Nat.le_of_ble_eq_true rfl) (Nat.le_of_ble_eq_true rfl) ?_
  refine zg_putF (w := w) (k := k) (ci := 7) (C := "HandToHand$Settling") (T := TX7) (ty0 := tyX7) (ty := (.array .int)) (v := .ref (w.2.2.2.1 + (k + 3))) X hmi hG (by omega) zsk_eq rfl zin_7 tyX7_ok nmX7 4 (by decide) rfl rfl zu_274 rfl rfl rfl rfl rfl dX7_init_26 (fun H locs hG => ?_)
  replace hG := zsk_re (E'' := .inr (7, [.null, .int 0, .ref (w.2.2.2.1 + (k + 1)), .ref (w.2.2.2.1 + (k + 2)), .ref (w.2.2.2.1 + (k + 3))])) rfl hG
  refine lv_aload_n hx hb dX7_init_29 rfl (lv_at hl 0 rfl) ?_
  refine zg_new (w := w) (ci := 0) (C := "HandToHand$Bench") (T := TX0) (ty0 := tyX0) (fs := [.null, .null, .int 0, .int 0, .int 0, .int 0, .null, .null, .null, .null, .null, .null, .null, .null]) X hG (by omega) (by omega) rfl zin_0 tyX0_ok zu_268 zu_155 zu_4 (fun j hj => by rcases (show j = 0 ∨ j = 1 ∨ j = 2 ∨ j = 3 ∨ j = 4 ∨ j = 5 ∨ j = 6 ∨ j = 7 ∨ j = 8 ∨ j = 9 ∨ j = 10 ∨ j = 11 ∨ j = 12 ∨ j = 13 by omega) with rfl | rfl | rfl | rfl | rfl | rfl | rfl | rfl | rfl | rfl | rfl | rfl | rfl | rfl <;> rfl) (Nat.le_of_ble_eq_true rfl) (Nat.le_of_ble_eq_true rfl) dX7_init_30 (fun H hG => ?_)
  refine W.widen (k := 4) (n := 5774) (Nat.le_of_ble_eq_true rfl) (Nat.le_of_ble_eq_true rfl) ?_
  refine lv_dup hx hb dX7_init_33 rfl ?_
  refine lv_aload_n hx hb dX7_init_34 rfl (lv_at hl 1 rfl) ?_
  refine lv_null hx hb dX7_init_35 ?_
  refine zg_ctor (w := w) (k := k + 4) (na := 2) (As := [.ref (w.2.2.2.1 + t), .null]) (rest := [.ref (w.2.2.2.1 + (k + 4)), .ref (w.2.2.2.1 + k)]) X hKo hml hl hG (by omega) (by omega) zu_269 zu_157 zu_4 zu_158 rfl (by decide +kernel) (i_BenchN (w := zwn w (zsk (zsk sh k (.inr (7, [.null, .int 0, .ref (w.2.2.2.1 + (k + 1)), .ref (w.2.2.2.1 + (k + 2)), .ref (w.2.2.2.1 + (k + 3))]))) (k + 4) (.inr (0, [.null, .null, .int 0, .int 0, .int 0, .int 0, .null, .null, .null, .null, .null, .null, .null, .null]))) (k + 5)) (k := k + 4) (M := M') (M' := M') (sh := zsk sh k (.inr (7, [.null, .int 0, .ref (w.2.2.2.1 + (k + 1)), .ref (w.2.2.2.1 + (k + 2)), .ref (w.2.2.2.1 + (k + 3))]))) rfl zsk_eq (fun c hc => congrFun (zsk_ne (by omega)) _) ((congrFun (zsk_ne (by omega)) _).trans hB4) ((congrFun (zsk_ne (by omega)) _).trans hA5) ((congrFun (zsk_ne (by omega)) _).trans hA6) ((congrFun (zsk_ne (by omega)) _).trans hA7) ((congrFun (zsk_ne (by omega)) _).trans hA8) ((congrFun (zsk_ne (by omega)) _).trans hA9) ((congrFun (zsk_ne (by omega)) _).trans hA10) ((congrFun (zsk_ne (by omega)) _).trans hA11) ((congrFun (zsk_ne (by omega)) _).trans hA12)) rfl rfl ⟨Nat.le_of_ble_eq_true rfl, Nat.le_of_ble_eq_true rfl⟩ ⟨Nat.le_of_ble_eq_true rfl, Nat.le_of_ble_eq_true rfl⟩ rfl (Nat.le_of_ble_eq_true rfl) dX7_init_36 (fun M1 H locs eM hG => ?_)
  rw [eM] at hG
  refine W.widen (k := 12) (n := 5852) (Nat.le_of_ble_eq_true rfl) (Nat.le_of_ble_eq_true rfl) ?_
  refine zg_putF (w := w) (k := k) (ci := 7) (C := "HandToHand$Settling") (T := TX7) (ty0 := tyX7) (ty := (.object "HandToHand$Bench")) (v := .ref (w.2.2.2.1 + (k + 4))) X hmi hG (by omega) zsk_eq rfl zin_7 tyX7_ok nmX7 0 (by decide) rfl rfl zu_270 rfl rfl rfl rfl rfl dX7_init_39 (fun H locs hG => ?_)
  replace hG := zsk_re (E'' := .inr (7, [.ref (w.2.2.2.1 + (k + 4)), .int 0, .ref (w.2.2.2.1 + (k + 1)), .ref (w.2.2.2.1 + (k + 2)), .ref (w.2.2.2.1 + (k + 3))])) rfl hG
  replace hG := zsk_fin hF hG
  exact zg_vret (w' := zwn w sh (k + 13)) X hr hlk rfl hG rfl dX7_init_42
set_option maxHeartbeats 4000000 in
set_option maxRecDepth 20000 in
theorem i_Reader {l : Launch} {w : zWd} {k : Nat} {M M' : zMem} {sh : Nat → (Nat → Int32) → va_E} (hn : w.2.2.2.2 = k + 1) (hk : w.2.2.1 k (M k) = .inr (5, [.null, .int 0, .int 0, .int 0, .null, .int 0, .int 0, .int 0, .int 0, .int 0, .int 0, .int 0, .int 0, .int 0])) (hs : ∀ c, c < k → w.2.2.1 c (M c) = sh c (M' c)) (hF : sh k (M' k) = .inr (5, [.ref (w.2.2.2.1 + (k + 1)), .int 0, .int 0, .int 0, .ref (w.2.2.2.1 + (k + 6)), .int 0, .int 0, .int 0, .int 0, .int 0, .int 0, .int 0, .int 0, .int 0])) (hB1 : sh (k + 1) (M' (k + 1)) = .inr (9, [.int 0, .int 0, .int 0, .int 0, .int 0, .int 0, .int 0, .ref (w.2.2.2.1 + (k + 2)), .ref (w.2.2.2.1 + (k + 3)), .ref (w.2.2.2.1 + (k + 4)), .ref (w.2.2.2.1 + (k + 5))])) (hA2 : sh (k + 2) (M' (k + 2)) = .inl (w.2.1 1, 6, .inl fun _ => 0)) (hA3 : sh (k + 3) (M' (k + 3)) = .inl (w.2.1 1, 24, .inl fun _ => 0)) (hA4 : sh (k + 4) (M' (k + 4)) = .inl (w.2.1 1, 40, .inl fun _ => 0)) (hA5 : sh (k + 5) (M' (k + 5)) = .inl (w.2.1 1, 5, .inl fun _ => 0)) (hA6 : sh (k + 6) (M' (k + 6)) = .inl (w.2.1 0, 400, .inl fun _ => 0)) : zMc l ⟨"HandToHand$Reader", "<init>", "()V"⟩ prog_7_method_1_code 1 2 32 6 486 w [.ref (w.2.2.2.1 + k)] M (zwn w sh (k + 7)) (fun M1 => M1 = M') := by
  refine zMetC (by decide) rfl (Nat.le_of_ble_eq_true rfl) ?_
  intro p e s m below meth c X hKo hmi hr hlk hml hsz hG ls hl
  have hx := X.1
  have hb := X.2.1
  have hl : lv_has ls 1 [(0, .ref (w.2.2.2.1 + k))] := hl
  have hG : zGo (zwn w (zsk sh k (.inr (5, [.null, .int 0, .int 0, .int 0, .null, .int 0, .int 0, .int 0, .int 0, .int 0, .int 0, .int 0, .int 0, .int 0]))) (k + 1)) s.heap M' s.heap [] := by
    rw [← hn]
    refine zGo_cast (w := w) (sh := w.2.2.1) (M := M) (fun c hc => ?_) hG
    by_cases q : c = k
    · subst q; rw [zsk_eq]; exact hk
    · rw [zsk_ne q]; exact hs c (by omega)
  refine lv_aload_n hx hb dX5_init_0 rfl (lv_at hl 0 rfl) ?_
  refine zg_obj X hml hl zu_101 zu_24 zu_25 ⟨Nat.le_of_ble_eq_true rfl, Nat.le_of_ble_eq_true rfl⟩ dX5_init_1 ?_
  refine lv_aload_n hx hb dX5_init_4 rfl (lv_at hl 0 rfl) ?_
  refine zg_new (w := w) (ci := 9) (C := "HandToHand$Told") (T := TX9) (ty0 := tyX9) (fs := [.int 0, .int 0, .int 0, .int 0, .int 0, .int 0, .int 0, .null, .null, .null, .null]) X hG (by omega) (by omega) rfl zin_9 tyX9_ok zu_102 zu_27 zu_2 (fun j hj => by rcases (show j = 0 ∨ j = 1 ∨ j = 2 ∨ j = 3 ∨ j = 4 ∨ j = 5 ∨ j = 6 ∨ j = 7 ∨ j = 8 ∨ j = 9 ∨ j = 10 by omega) with rfl | rfl | rfl | rfl | rfl | rfl | rfl | rfl | rfl | rfl | rfl <;> rfl) (Nat.le_of_ble_eq_true rfl) (Nat.le_of_ble_eq_true rfl) dX5_init_5 (fun H hG => ?_)
  refine W.widen (k := 1) (n := 11) (Nat.le_of_ble_eq_true rfl) (Nat.le_of_ble_eq_true rfl) ?_
  refine lv_dup hx hb dX5_init_8 rfl ?_
  refine zg_ctorN (w := w) (k := k + 1) (na := 0) (As := []) (rest := [.ref (w.2.2.2.1 + (k + 1)), .ref (w.2.2.2.1 + k)]) (host := "HandToHand") X hKo hml hl hG (by omega) (by omega) (List.mem_of_getElem? (i := 2) rfl) zu_29 zu_2 zu_30 rfl (by decide +kernel) (i_Told (w := zwn w (zsk (zsk sh k (.inr (5, [.null, .int 0, .int 0, .int 0, .null, .int 0, .int 0, .int 0, .int 0, .int 0, .int 0, .int 0, .int 0, .int 0]))) (k + 1) (.inr (9, [.int 0, .int 0, .int 0, .int 0, .int 0, .int 0, .int 0, .null, .null, .null, .null]))) (k + 2)) (k := k + 1) (M := M') (M' := M') (sh := zsk sh k (.inr (5, [.null, .int 0, .int 0, .int 0, .null, .int 0, .int 0, .int 0, .int 0, .int 0, .int 0, .int 0, .int 0, .int 0]))) rfl zsk_eq (fun c hc => congrFun (zsk_ne (by omega)) _) ((congrFun (zsk_ne (by omega)) _).trans hB1) ((congrFun (zsk_ne (by omega)) _).trans hA2) ((congrFun (zsk_ne (by omega)) _).trans hA3) ((congrFun (zsk_ne (by omega)) _).trans hA4) ((congrFun (zsk_ne (by omega)) _).trans hA5)) rfl rfl ⟨Nat.le_of_ble_eq_true rfl, Nat.le_of_ble_eq_true rfl⟩ ⟨Nat.le_of_ble_eq_true rfl, Nat.le_of_ble_eq_true rfl⟩ rfl (Nat.le_of_ble_eq_true rfl) dX5_init_9 (fun M1 H locs eM hG => ?_)
  rw [eM] at hG
  refine W.widen (k := 5) (n := 86) (Nat.le_of_ble_eq_true rfl) (Nat.le_of_ble_eq_true rfl) ?_
  refine zg_putF (w := w) (k := k) (ci := 5) (C := "HandToHand$Reader") (T := TX5) (ty0 := tyX5) (ty := (.object "HandToHand$Told")) (v := .ref (w.2.2.2.1 + (k + 1))) X hmi hG (by omega) zsk_eq rfl zin_5 tyX5_ok nmX5 0 (by decide) rfl rfl zu_104 rfl rfl rfl rfl rfl dX5_init_12 (fun H locs hG => ?_)
  replace hG := zsk_re (E'' := .inr (5, [.ref (w.2.2.2.1 + (k + 1)), .int 0, .int 0, .int 0, .null, .int 0, .int 0, .int 0, .int 0, .int 0, .int 0, .int 0, .int 0, .int 0])) rfl hG
  refine lv_aload_n hx hb dX5_init_15 rfl (lv_at hl 0 rfl) ?_
  refine lv_sipush (v := 400) hx hb dX5_init_16 (by decide) ?_
  refine zg_newa (w := w) (N := 400) (t := 0) (atype := .byte) (ty := .byte) X hG (by omega) (by omega) zu_153 rfl rfl (fun _ => rfl) (fun _ => rfl) (by decide) (by decide) (Nat.le_of_ble_eq_true rfl) (by rw [zsk_ne (by omega)]; exact hA6) (Nat.le_of_ble_eq_true rfl) (Nat.le_of_ble_eq_true rfl) dX5_init_19 (fun H hG => ?_)
  refine W.widen (k := 6) (n := 486) (Nat.le_of_ble_eq_true rfl) (Nat.le_of_ble_eq_true rfl) ?_
  refine zg_putF (w := w) (k := k) (ci := 5) (C := "HandToHand$Reader") (T := TX5) (ty0 := tyX5) (ty := (.array .byte)) (v := .ref (w.2.2.2.1 + (k + 6))) X hmi hG (by omega) zsk_eq rfl zin_5 tyX5_ok nmX5 4 (by decide) rfl rfl zu_112 rfl rfl rfl rfl rfl dX5_init_21 (fun H locs hG => ?_)
  replace hG := zsk_re (E'' := .inr (5, [.ref (w.2.2.2.1 + (k + 1)), .int 0, .int 0, .int 0, .ref (w.2.2.2.1 + (k + 6)), .int 0, .int 0, .int 0, .int 0, .int 0, .int 0, .int 0, .int 0, .int 0])) rfl hG
  replace hG := zsk_fin hF hG
  exact zg_vret (w' := zwn w sh (k + 7)) X hr hlk rfl hG rfl dX5_init_24
