def wpB_Bench_clear_17 (k : Nat)  (K35 : zMem → Prop) (Q : zMem → Prop) (J : Int32 → zMem → Prop) (x_1 : Int32) (M : zMem) : Prop :=
  (5 ≤ x_1 → K35 M) ∧ (¬ 5 ≤ x_1 → vp_in x_1 5 ∧ ∀ zm4 : zMem, zm4 = zup M (k + 6) (ix x_1) 0 → ∀ zx5 : Int32, zx5 = x_1 + 1 → J zx5 zm4)
def wpB_Bench_clear_37 (k : Nat)  (K56 : zMem → Prop) (Q : zMem → Prop) (J : Int32 → zMem → Prop) (x_1 : Int32) (M : zMem) : Prop :=
  (40 ≤ x_1 → K56 M) ∧ (¬ 40 ≤ x_1 → vp_in x_1 40 ∧ ∀ zm7 : zMem, zm7 = zup M (k + 7) (ix x_1) 0 → ∀ zx8 : Int32, zx8 = x_1 + 1 → J zx8 zm7)
def wpB_Bench_clear_58 (k : Nat)   (Q : zMem → Prop) (J : Int32 → zMem → Prop) (x_1 : Int32) (M : zMem) : Prop :=
  (8 ≤ x_1 → wp_Bench_makeReady k M (fun zm10 => Q zm10)) ∧ (¬ 8 ≤ x_1 → vp_in x_1 8 ∧ ∀ zm12 : zMem, zm12 = zup M (k + 8) (ix x_1) 0 → ∀ zx13 : Int32, zx13 = x_1 + 1 → J zx13 zm12)
def wp_Bench_clear (k : Nat) (M : zMem) (Q : zMem → Prop) : Prop :=
  ∀ zm1 : zMem, zm1 = zup M k 2 0 → ∀ zm2 : zMem, zm2 = zup zm1 k 3 0 → ∀ zm3 : zMem, zm3 = zup zm2 k 4 0 → ∃ n : Nat, zlp1 (wpB_Bench_clear_17 k  (fun (zm6 : zMem) => ∃ n : Nat, zlp1 (wpB_Bench_clear_37 k  (fun (zm9 : zMem) => ∃ n : Nat, zlp1 (wpB_Bench_clear_58 k   Q) n 0 zm9) Q) n 0 zm6) Q) n 0 zm3
set_option maxHeartbeats 4000000 in
set_option maxRecDepth 20000 in
theorem c_Bench_clear {l : Launch} {w : zWd} {k : Nat} {M : zMem} {post : zMem → Prop} (h0 : zI_Bench w k) (h : wp_Bench_clear k M post) : zMv l ⟨"HandToHand$Bench", "clear", "()V"⟩ prog_2_method_2_code 2 none 1 21 w [.ref (zad w k)] M post := by
  refine zMet (by decide) (Nat.le_of_ble_eq_true rfl) ?_
  intro p e s m below meth c X hr hlk hml hW ls hl
  have hx := X.1
  have hb := X.2.1
  have hl : lv_has ls 2 [(0, .ref (zad w k))] := hl
  have zL_17 : ∀ (K35 : zMem → Prop) (zK35 : ∀ (M : zMem) (H : Heap) (locs : List Loc) (ls : Array Slot), zWo w s.heap M H locs → lv_has ls 2 [(0, .ref (zad w k))] → K35 M → W p l e (zRm 1 21) s m ([.ref (zad w k)] : List Value).toArray below meth c H locs 0 0 (MQ below (va_Qv post (zB w) (zA w)) ([.ref (zad w k)] : List Value).toArray s 0 0 (zA w)) (F0 m 35 ls [])), ∀ (n : Nat) (x_1 : Int32) (M : zMem) (H : Heap) (locs : List Loc) (ls : Array Slot), zWo w s.heap M H locs → lv_has ls 2 [(0, .ref (zad w k)), (1, .int x_1)] → zlp1 (wpB_Bench_clear_17 k  K35 post) n x_1 M → W p l e (zRm 1 21) s m ([.ref (zad w k)] : List Value).toArray below meth c H locs 0 0 (MQ below (va_Qv post (zB w) (zA w)) ([.ref (zad w k)] : List Value).toArray s 0 0 (zA w)) (F0 m 17 ls []) := by
    intro K35 zK35 n
    induction n with
    | zero => intro x_1 M H locs ls hW hl h; exact h.elim
    | succ n zJ =>
      intro x_1 M H locs ls hW hl h
      have h : wpB_Bench_clear_17 k  K35 post (zlp1 (wpB_Bench_clear_17 k  K35 post) n) x_1 M := h
      unfold wpB_Bench_clear_17 at h
      refine lv_iload_n hx hb dX0_clear_17 rfl (lv_at hl 1 rfl) ?_
      refine lv_iconst hx hb dX0_clear_18 zc_i5 ?_
      refine lv_icmp_ge (tgt := 35) hx hb dX0_clear_19 rfl (fun c => ?_) (fun c => ?_)
      · replace h := h.1 c
        exact zK35 M H locs ls hW (lv_sub hl [0] rfl) h
      · replace h := h.2 c
        refine lv_aload_n hx hb dX0_clear_22 rfl (lv_at hl 0 rfl) ?_
        refine zg_Bench_waited X hW h0 zu_185 dX0_clear_23 ?_
        refine lv_iload_n hx hb dX0_clear_26 rfl (lv_at hl 1 rfl) ?_
        refine lv_iconst hx hb dX0_clear_27 zc_i0 ?_
        obtain ⟨g, h⟩ := h
        refine ziast X hW h0.2.2.2.2.2.2.1 g dX0_clear_28 (fun H locs zm4 ezm4 hW => ?_)
        replace h := h zm4 ezm4
        obtain ⟨zx5, ezx5⟩ : ∃ y : Int32, y = x_1 + 1 := ⟨_, rfl⟩
        replace h := h zx5 ezx5
        refine lv_iinc (v := zx5) (lv' := [(1, .int zx5), (0, .ref (zad w k))]) hx hb dX0_clear_29 hl (k := 1) rfl (by rw [ezx5, zc_i1]) (Nat.le_of_ble_eq_true rfl) rfl (fun ls hl => ?_)
        refine lv_goto (tgt := 17) hx hb dX0_clear_32 rfl ?_
        exact zJ zx5 zm4 H locs ls hW (lv_sub hl [1, 0] rfl) h
  have zL_37 : ∀ (K56 : zMem → Prop) (zK56 : ∀ (M : zMem) (H : Heap) (locs : List Loc) (ls : Array Slot), zWo w s.heap M H locs → lv_has ls 2 [(0, .ref (zad w k))] → K56 M → W p l e (zRm 1 21) s m ([.ref (zad w k)] : List Value).toArray below meth c H locs 0 0 (MQ below (va_Qv post (zB w) (zA w)) ([.ref (zad w k)] : List Value).toArray s 0 0 (zA w)) (F0 m 56 ls [])), ∀ (n : Nat) (x_1 : Int32) (M : zMem) (H : Heap) (locs : List Loc) (ls : Array Slot), zWo w s.heap M H locs → lv_has ls 2 [(0, .ref (zad w k)), (1, .int x_1)] → zlp1 (wpB_Bench_clear_37 k  K56 post) n x_1 M → W p l e (zRm 1 21) s m ([.ref (zad w k)] : List Value).toArray below meth c H locs 0 0 (MQ below (va_Qv post (zB w) (zA w)) ([.ref (zad w k)] : List Value).toArray s 0 0 (zA w)) (F0 m 37 ls []) := by
    intro K56 zK56 n
    induction n with
    | zero => intro x_1 M H locs ls hW hl h; exact h.elim
    | succ n zJ =>
      intro x_1 M H locs ls hW hl h
      have h : wpB_Bench_clear_37 k  K56 post (zlp1 (wpB_Bench_clear_37 k  K56 post) n) x_1 M := h
      unfold wpB_Bench_clear_37 at h
      refine lv_iload_n hx hb dX0_clear_37 rfl (lv_at hl 1 rfl) ?_
      refine lv_bipush hx hb dX0_clear_38 zc_b40 ?_
      refine lv_icmp_ge (tgt := 56) hx hb dX0_clear_40 rfl (fun c => ?_) (fun c => ?_)
      · replace h := h.1 c
        exact zK56 M H locs ls hW (lv_sub hl [0] rfl) h
      · replace h := h.2 c
        refine lv_aload_n hx hb dX0_clear_43 rfl (lv_at hl 0 rfl) ?_
        refine zg_Bench_learned X hW h0 zu_187 dX0_clear_44 ?_
        refine lv_iload_n hx hb dX0_clear_47 rfl (lv_at hl 1 rfl) ?_
        refine lv_iconst hx hb dX0_clear_48 zc_i0 ?_
        obtain ⟨g, h⟩ := h
        refine ziast X hW h0.2.2.2.2.2.2.2.1 g dX0_clear_49 (fun H locs zm7 ezm7 hW => ?_)
        replace h := h zm7 ezm7
        obtain ⟨zx8, ezx8⟩ : ∃ y : Int32, y = x_1 + 1 := ⟨_, rfl⟩
        replace h := h zx8 ezx8
        refine lv_iinc (v := zx8) (lv' := [(1, .int zx8), (0, .ref (zad w k))]) hx hb dX0_clear_50 hl (k := 1) rfl (by rw [ezx8, zc_i1]) (Nat.le_of_ble_eq_true rfl) rfl (fun ls hl => ?_)
        refine lv_goto (tgt := 37) hx hb dX0_clear_53 rfl ?_
        exact zJ zx8 zm7 H locs ls hW (lv_sub hl [1, 0] rfl) h
  have zL_58 :  ∀ (n : Nat) (x_1 : Int32) (M : zMem) (H : Heap) (locs : List Loc) (ls : Array Slot), zWo w s.heap M H locs → lv_has ls 2 [(0, .ref (zad w k)), (1, .int x_1)] → zlp1 (wpB_Bench_clear_58 k   post) n x_1 M → W p l e (zRm 1 21) s m ([.ref (zad w k)] : List Value).toArray below meth c H locs 0 0 (MQ below (va_Qv post (zB w) (zA w)) ([.ref (zad w k)] : List Value).toArray s 0 0 (zA w)) (F0 m 58 ls []) := by
    intro n
    induction n with
    | zero => intro x_1 M H locs ls hW hl h; exact h.elim
    | succ n zJ =>
      intro x_1 M H locs ls hW hl h
      have h : wpB_Bench_clear_58 k   post (zlp1 (wpB_Bench_clear_58 k   post) n) x_1 M := h
      unfold wpB_Bench_clear_58 at h
      refine lv_iload_n hx hb dX0_clear_58 rfl (lv_at hl 1 rfl) ?_
      refine lv_bipush hx hb dX0_clear_59 zc_b8 ?_
      refine lv_icmp_ge (tgt := 77) hx hb dX0_clear_61 rfl (fun c => ?_) (fun c => ?_)
      · replace h := h.1 c
        refine lv_aload_n hx hb dX0_clear_77 rfl (lv_at hl 0 rfl) ?_
        refine zcallv (zrunV (As := []) (rest := []) X hml hl hW h0.1 rfl zk_Bench_54 (c_Bench_makeReady h0 h) rfl ⟨Nat.le_of_ble_eq_true rfl, Nat.le_of_ble_eq_true rfl⟩ ⟨Nat.le_refl 0, Nat.le_refl 0⟩ rfl (Nat.le_of_ble_eq_true rfl) dX0_clear_78) hW (fun zm10 H locs h hW => ?_)
        exact zretv X hr hlk hW h dX0_clear_81
      · replace h := h.2 c
        refine lv_aload_n hx hb dX0_clear_64 rfl (lv_at hl 0 rfl) ?_
        refine zg_Bench_stood X hW h0 zu_190 dX0_clear_65 ?_
        refine lv_iload_n hx hb dX0_clear_68 rfl (lv_at hl 1 rfl) ?_
        refine lv_iconst hx hb dX0_clear_69 zc_i0 ?_
        obtain ⟨g, h⟩ := h
        refine ziast X hW h0.2.2.2.2.2.2.2.2.1 g dX0_clear_70 (fun H locs zm12 ezm12 hW => ?_)
        replace h := h zm12 ezm12
        obtain ⟨zx13, ezx13⟩ : ∃ y : Int32, y = x_1 + 1 := ⟨_, rfl⟩
        replace h := h zx13 ezx13
        refine lv_iinc (v := zx13) (lv' := [(1, .int zx13), (0, .ref (zad w k))]) hx hb dX0_clear_71 hl (k := 1) rfl (by rw [ezx13, zc_i1]) (Nat.le_of_ble_eq_true rfl) rfl (fun ls hl => ?_)
        refine lv_goto (tgt := 58) hx hb dX0_clear_74 rfl ?_
        exact zJ zx13 zm12 H locs ls hW (lv_sub hl [1, 0] rfl) h
  unfold wp_Bench_clear at h
  have zMain : ∀ (H : Heap) (locs : List Loc) (ls : Array Slot), zWo w s.heap M H locs → lv_has ls 2 [(0, .ref (zad w k))] → W p l e (zRm 1 21) s m ([.ref (zad w k)] : List Value).toArray below meth c H locs 0 0 (MQ below (va_Qv post (zB w) (zA w)) ([.ref (zad w k)] : List Value).toArray s 0 0 (zA w)) (F0 m 0 ls []) := by
    intro H locs ls hW hl
    refine lv_aload_n hx hb dX0_clear_0 rfl (lv_at hl 0 rfl) ?_
    refine lv_iconst hx hb dX0_clear_1 zc_i0 ?_
    refine zp_Bench_tick X hW h0 zu_163 dX0_clear_2 (fun H locs zm1 ezm1 hW => ?_)
    replace h := h zm1 ezm1
    refine lv_aload_n hx hb dX0_clear_5 rfl (lv_at hl 0 rfl) ?_
    refine lv_iconst hx hb dX0_clear_6 zc_i0 ?_
    refine zp_Bench_done X hW h0 zu_166 dX0_clear_7 (fun H locs zm2 ezm2 hW => ?_)
    replace h := h zm2 ezm2
    refine lv_aload_n hx hb dX0_clear_10 rfl (lv_at hl 0 rfl) ?_
    refine lv_iconst hx hb dX0_clear_11 zc_i0 ?_
    refine zp_Bench_handings X hW h0 zu_170 dX0_clear_12 (fun H locs zm3 ezm3 hW => ?_)
    replace h := h zm3 ezm3
    refine lv_iconst hx hb dX0_clear_15 zc_i0 ?_
    refine lv_istore_n (lv' := [(1, .int 0), (0, .ref (zad w k))]) hx hb dX0_clear_16 rfl hl (Nat.le_of_ble_eq_true rfl) rfl (fun ls hl => ?_)
    obtain ⟨n, h⟩ := h
    refine zL_17  _ (fun  zm6 H locs ls hW hl h => ?_) n 0 zm3 H locs ls hW (lv_sub hl [1, 0] rfl) h
    · skip
      refine lv_iconst hx hb dX0_clear_35 zc_i0 ?_
      refine lv_istore_n (lv' := [(1, .int 0), (0, .ref (zad w k))]) hx hb dX0_clear_36 rfl hl (Nat.le_of_ble_eq_true rfl) rfl (fun ls hl => ?_)
      obtain ⟨n, h⟩ := h
      refine zL_37  _ (fun  zm9 H locs ls hW hl h => ?_) n 0 zm6 H locs ls hW (lv_sub hl [1, 0] rfl) h
      · skip
        refine lv_iconst hx hb dX0_clear_56 zc_i0 ?_
        refine lv_istore_n (lv' := [(1, .int 0), (0, .ref (zad w k))]) hx hb dX0_clear_57 rfl hl (Nat.le_of_ble_eq_true rfl) rfl (fun ls hl => ?_)
        obtain ⟨n, h⟩ := h
        refine zL_58   n 0 zm9 H locs ls hW (lv_sub hl [1, 0] rfl) h
  exact zMain s.heap [] ls hW hl
def wp_Bench_copyFrom (k : Nat) (t1 : Nat) (M : zMem) (Q : zMem → Prop) : Prop :=
  ∀ zm1 : zMem, zm1 = zup M k 2 (M t1 2) → ∀ zm2 : zMem, zm2 = zup zm1 k 3 (zm1 t1 3) → ∀ zm3 : zMem, zm3 = zup zm2 k 4 (zm2 t1 4) → ∀ zm4 : zMem, zm4 = zup zm3 k 5 (zm3 t1 5) → zcpok 0 0 5 5 5 ∧ ∀ zm5 : zMem, zm5 = zcopyM zm4 (t1 + 1) (k + 1) 0 0 5 → zcpok 0 0 5 5 5 ∧ ∀ zm6 : zMem, zm6 = zcopyM zm5 (t1 + 2) (k + 2) 0 0 5 → zcpok 0 0 5 5 5 ∧ ∀ zm7 : zMem, zm7 = zcopyM zm6 (t1 + 3) (k + 3) 0 0 5 → zcpok 0 0 5 5 5 ∧ ∀ zm8 : zMem, zm8 = zcopyM zm7 (t1 + 4) (k + 4) 0 0 5 → zcpok 0 0 5 5 5 ∧ ∀ zm9 : zMem, zm9 = zcopyM zm8 (t1 + 5) (k + 5) 0 0 5 → zcpok 0 0 5 5 5 ∧ ∀ zm10 : zMem, zm10 = zcopyM zm9 (t1 + 6) (k + 6) 0 0 5 → zcpok 0 0 40 40 40 ∧ ∀ zm11 : zMem, zm11 = zcopyM zm10 (t1 + 7) (k + 7) 0 0 40 → Q zm11
set_option maxHeartbeats 4000000 in
set_option maxRecDepth 20000 in
theorem c_Bench_copyFrom {l : Launch} {w : zWd} {k : Nat} {t1 : Nat} {M : zMem} {post : zMem → Prop} (h0 : zI_Bench w k) (h1 : zI_Bench w t1) (h : wp_Bench_copyFrom k t1 M post) : zMv l ⟨"HandToHand$Bench", "copyFrom", "(LHandToHand$Bench;)V"⟩ prog_2_method_4_code 2 none 1 30 w [.ref (zad w k), .ref (zad w t1)] M post := by
  refine zMet (by decide) (Nat.le_of_ble_eq_true rfl) ?_
  intro p e s m below meth c X hr hlk hml hW ls hl
  have hx := X.1
  have hb := X.2.1
  have hl : lv_has ls 2 [(0, .ref (zad w k)), (1, .ref (zad w t1))] := hl
  unfold wp_Bench_copyFrom at h
  have zMain : ∀ (H : Heap) (locs : List Loc) (ls : Array Slot), zWo w s.heap M H locs → lv_has ls 2 [(0, .ref (zad w k)), (1, .ref (zad w t1))] → W p l e (zRm 1 30) s m ([.ref (zad w k), .ref (zad w t1)] : List Value).toArray below meth c H locs 0 0 (MQ below (va_Qv post (zB w) (zA w)) ([.ref (zad w k), .ref (zad w t1)] : List Value).toArray s 0 0 (zA w)) (F0 m 0 ls []) := by
    intro H locs ls hW hl
    refine lv_aload_n hx hb dX0_copyFrom_0 rfl (lv_at hl 0 rfl) ?_
    refine lv_aload_n hx hb dX0_copyFrom_1 rfl (lv_at hl 1 rfl) ?_
    refine zg_Bench_tick X hW h1 zu_163 dX0_copyFrom_2 ?_
    refine zp_Bench_tick X hW h0 zu_163 dX0_copyFrom_5 (fun H locs zm1 ezm1 hW => ?_)
    replace h := h zm1 ezm1
    refine lv_aload_n hx hb dX0_copyFrom_8 rfl (lv_at hl 0 rfl) ?_
    refine lv_aload_n hx hb dX0_copyFrom_9 rfl (lv_at hl 1 rfl) ?_
    refine zg_Bench_done X hW h1 zu_166 dX0_copyFrom_10 ?_
    refine zp_Bench_done X hW h0 zu_166 dX0_copyFrom_13 (fun H locs zm2 ezm2 hW => ?_)
    replace h := h zm2 ezm2
    refine lv_aload_n hx hb dX0_copyFrom_16 rfl (lv_at hl 0 rfl) ?_
    refine lv_aload_n hx hb dX0_copyFrom_17 rfl (lv_at hl 1 rfl) ?_
    refine zg_Bench_handings X hW h1 zu_170 dX0_copyFrom_18 ?_
    refine zp_Bench_handings X hW h0 zu_170 dX0_copyFrom_21 (fun H locs zm3 ezm3 hW => ?_)
    replace h := h zm3 ezm3
    refine lv_aload_n hx hb dX0_copyFrom_24 rfl (lv_at hl 0 rfl) ?_
    refine lv_aload_n hx hb dX0_copyFrom_25 rfl (lv_at hl 1 rfl) ?_
    refine zg_Bench_place X hW h1 zu_172 dX0_copyFrom_26 ?_
    refine zp_Bench_place X hW h0 zu_172 dX0_copyFrom_29 (fun H locs zm4 ezm4 hW => ?_)
    replace h := h zm4 ezm4
    refine lv_aload_n hx hb dX0_copyFrom_32 rfl (lv_at hl 1 rfl) ?_
    refine zg_Bench_doing X hW h1 zu_175 dX0_copyFrom_33 ?_
    refine lv_iconst hx hb dX0_copyFrom_36 zc_i0 ?_
    refine lv_aload_n hx hb dX0_copyFrom_37 rfl (lv_at hl 0 rfl) ?_
    refine zg_Bench_doing X hW h0 zu_175 dX0_copyFrom_38 ?_
    refine lv_iconst hx hb dX0_copyFrom_41 zc_i0 ?_
    refine lv_iconst hx hb dX0_copyFrom_42 zc_i5 ?_
    obtain ⟨g, h⟩ := h
    refine zcopy X hml hl hW h1.2.1 h0.2.1 zu_777 g ⟨Nat.le_of_ble_eq_true rfl, Nat.le_of_ble_eq_true rfl⟩ dX0_copyFrom_43 (fun H locs zm5 ezm5 hW => ?_)
    replace h := h zm5 ezm5
    refine lv_aload_n hx hb dX0_copyFrom_46 rfl (lv_at hl 1 rfl) ?_
    refine zg_Bench_left X hW h1 zu_177 dX0_copyFrom_47 ?_
    refine lv_iconst hx hb dX0_copyFrom_50 zc_i0 ?_
    refine lv_aload_n hx hb dX0_copyFrom_51 rfl (lv_at hl 0 rfl) ?_
    refine zg_Bench_left X hW h0 zu_177 dX0_copyFrom_52 ?_
    refine lv_iconst hx hb dX0_copyFrom_55 zc_i0 ?_
    refine lv_iconst hx hb dX0_copyFrom_56 zc_i5 ?_
    obtain ⟨g, h⟩ := h
    refine zcopy X hml hl hW h1.2.2.1 h0.2.2.1 zu_777 g ⟨Nat.le_of_ble_eq_true rfl, Nat.le_of_ble_eq_true rfl⟩ dX0_copyFrom_57 (fun H locs zm6 ezm6 hW => ?_)
    replace h := h zm6 ezm6
    refine lv_aload_n hx hb dX0_copyFrom_60 rfl (lv_at hl 1 rfl) ?_
    refine zg_Bench_piece X hW h1 zu_179 dX0_copyFrom_61 ?_
    refine lv_iconst hx hb dX0_copyFrom_64 zc_i0 ?_
    refine lv_aload_n hx hb dX0_copyFrom_65 rfl (lv_at hl 0 rfl) ?_
    refine zg_Bench_piece X hW h0 zu_179 dX0_copyFrom_66 ?_
    refine lv_iconst hx hb dX0_copyFrom_69 zc_i0 ?_
    refine lv_iconst hx hb dX0_copyFrom_70 zc_i5 ?_
    obtain ⟨g, h⟩ := h
    refine zcopy X hml hl hW h1.2.2.2.1 h0.2.2.2.1 zu_777 g ⟨Nat.le_of_ble_eq_true rfl, Nat.le_of_ble_eq_true rfl⟩ dX0_copyFrom_71 (fun H locs zm7 ezm7 hW => ?_)
    replace h := h zm7 ezm7
    refine lv_aload_n hx hb dX0_copyFrom_74 rfl (lv_at hl 1 rfl) ?_
    refine zg_Bench_unit X hW h1 zu_181 dX0_copyFrom_75 ?_
    refine lv_iconst hx hb dX0_copyFrom_78 zc_i0 ?_
    refine lv_aload_n hx hb dX0_copyFrom_79 rfl (lv_at hl 0 rfl) ?_
    refine zg_Bench_unit X hW h0 zu_181 dX0_copyFrom_80 ?_
    refine lv_iconst hx hb dX0_copyFrom_83 zc_i0 ?_
    refine lv_iconst hx hb dX0_copyFrom_84 zc_i5 ?_
    obtain ⟨g, h⟩ := h
    refine zcopy X hml hl hW h1.2.2.2.2.1 h0.2.2.2.2.1 zu_777 g ⟨Nat.le_of_ble_eq_true rfl, Nat.le_of_ble_eq_true rfl⟩ dX0_copyFrom_85 (fun H locs zm8 ezm8 hW => ?_)
    replace h := h zm8 ezm8
    refine lv_aload_n hx hb dX0_copyFrom_88 rfl (lv_at hl 1 rfl) ?_
    refine zg_Bench_sort X hW h1 zu_183 dX0_copyFrom_89 ?_
    refine lv_iconst hx hb dX0_copyFrom_92 zc_i0 ?_
    refine lv_aload_n hx hb dX0_copyFrom_93 rfl (lv_at hl 0 rfl) ?_
    refine zg_Bench_sort X hW h0 zu_183 dX0_copyFrom_94 ?_
    refine lv_iconst hx hb dX0_copyFrom_97 zc_i0 ?_
    refine lv_iconst hx hb dX0_copyFrom_98 zc_i5 ?_
    obtain ⟨g, h⟩ := h
    refine zcopy X hml hl hW h1.2.2.2.2.2.1 h0.2.2.2.2.2.1 zu_777 g ⟨Nat.le_of_ble_eq_true rfl, Nat.le_of_ble_eq_true rfl⟩ dX0_copyFrom_99 (fun H locs zm9 ezm9 hW => ?_)
    replace h := h zm9 ezm9
    refine lv_aload_n hx hb dX0_copyFrom_102 rfl (lv_at hl 1 rfl) ?_
    refine zg_Bench_waited X hW h1 zu_185 dX0_copyFrom_103 ?_
    refine lv_iconst hx hb dX0_copyFrom_106 zc_i0 ?_
    refine lv_aload_n hx hb dX0_copyFrom_107 rfl (lv_at hl 0 rfl) ?_
    refine zg_Bench_waited X hW h0 zu_185 dX0_copyFrom_108 ?_
    refine lv_iconst hx hb dX0_copyFrom_111 zc_i0 ?_
    refine lv_iconst hx hb dX0_copyFrom_112 zc_i5 ?_
    obtain ⟨g, h⟩ := h
    refine zcopy X hml hl hW h1.2.2.2.2.2.2.1 h0.2.2.2.2.2.2.1 zu_777 g ⟨Nat.le_of_ble_eq_true rfl, Nat.le_of_ble_eq_true rfl⟩ dX0_copyFrom_113 (fun H locs zm10 ezm10 hW => ?_)
    replace h := h zm10 ezm10
    refine lv_aload_n hx hb dX0_copyFrom_116 rfl (lv_at hl 1 rfl) ?_
    refine zg_Bench_learned X hW h1 zu_187 dX0_copyFrom_117 ?_
    refine lv_iconst hx hb dX0_copyFrom_120 zc_i0 ?_
    refine lv_aload_n hx hb dX0_copyFrom_121 rfl (lv_at hl 0 rfl) ?_
    refine zg_Bench_learned X hW h0 zu_187 dX0_copyFrom_122 ?_
    refine lv_iconst hx hb dX0_copyFrom_125 zc_i0 ?_
    refine lv_bipush hx hb dX0_copyFrom_126 zc_b40 ?_
    obtain ⟨g, h⟩ := h
    refine zcopy X hml hl hW h1.2.2.2.2.2.2.2.1 h0.2.2.2.2.2.2.2.1 zu_777 g ⟨Nat.le_of_ble_eq_true rfl, Nat.le_of_ble_eq_true rfl⟩ dX0_copyFrom_128 (fun H locs zm11 ezm11 hW => ?_)
    replace h := h zm11 ezm11
    exact zretv X hr hlk hW h dX0_copyFrom_131
  exact zMain s.heap [] ls hW hl
def wpJ_Bench_goBack_39 (k : Nat) (a1 : Int32) (a2 : Int32)  (Q : zMem → Prop) (x_3 : Int32)  (M : zMem) : Prop :=
  (x_3 ≤ 0 → vp_in a1 5 ∧ ∀ zm2 : zMem, zm2 = zup M (k + 2) (ix a1) 0 → vp_in a1 5 ∧ ((zm2 (k + 2) (ix a1)) ≤ 0 → vp_in a1 5 ∧ ∀ zm3 : zMem, zm3 = zup zm2 (k + 1) (ix a1) 0 → Q zm3) ∧ (¬ (zm2 (k + 2) (ix a1)) ≤ 0 → vp_in a1 5 ∧ ∀ zm4 : zMem, zm4 = zup zm2 (k + 1) (ix a1) 1 → Q zm4)) ∧ (¬ x_3 ≤ 0 → vp_in a1 5 ∧ ∀ zm5 : zMem, zm5 = zup M (k + 2) (ix a1) ((M (ztc (M k 0)) 2) * x_3) → vp_in a1 5 ∧ ((zm5 (k + 2) (ix a1)) ≤ 0 → vp_in a1 5 ∧ ∀ zm6 : zMem, zm6 = zup zm5 (k + 1) (ix a1) 0 → Q zm6) ∧ (¬ (zm5 (k + 2) (ix a1)) ≤ 0 → vp_in a1 5 ∧ ∀ zm7 : zMem, zm7 = zup zm5 (k + 1) (ix a1) 1 → Q zm7))
def wpJ_Bench_goBack_38 (k : Nat) (a1 : Int32) (a2 : Int32)  (Q : zMem → Prop)  (s_0 : Int32) (M : zMem) : Prop :=
  wpJ_Bench_goBack_39 k a1 a2 Q s_0 M
def wp_Bench_goBack (k : Nat) (a1 : Int32) (a2 : Int32) (M : zMem) (Q : zMem → Prop) : Prop :=
  vp_in a1 5 ∧ ∀ zm1 : zMem, zm1 = zup M (k + 3) (ix a1) ((-1)) → (a1 ≤ 0 → wpJ_Bench_goBack_39 k a1 a2 Q 0 zm1) ∧ (¬ a1 ≤ 0 → vp_in (a1 - 1) 5 ∧ (0 ≤ (zm1 (k + 3) (ix (a1 - 1))) → vp_in (a1 - 1) 5 ∧ wpJ_Bench_goBack_38 k a1 a2 Q (a2 - (zm1 (k + 3) (ix (a1 - 1)))) zm1) ∧ (¬ 0 ≤ (zm1 (k + 3) (ix (a1 - 1))) → wpJ_Bench_goBack_38 k a1 a2 Q a2 zm1))
set_option maxHeartbeats 4000000 in
set_option maxRecDepth 20000 in
theorem c_Bench_goBack {l : Launch} {w : zWd} {k : Nat} {a1 : Int32} {a2 : Int32} {M : zMem} {post : zMem → Prop} (h0 : zI_Bench w k) (h : wp_Bench_goBack k a1 a2 M post) : zMv l ⟨"HandToHand$Bench", "goBack", "(II)V"⟩ prog_2_method_10_code 4 none 0 0 w [.ref (zad w k), .int a1, .int a2] M post := by
  refine zMet (by decide) (Nat.le_of_ble_eq_true rfl) ?_
  intro p e s m below meth c X hr hlk hml hW ls hl
  have hx := X.1
  have hb := X.2.1
  have hl : lv_has ls 4 [(0, .ref (zad w k)), (1, .int a1), (2, .int a2)] := hl
  have zJ_39 : ∀ (x_3 : Int32) (M : zMem) (H : Heap) (locs : List Loc) (ls : Array Slot), zWo w s.heap M H locs → lv_has ls 4 [(0, .ref (zad w k)), (1, .int a1), (3, .int x_3)] → wpJ_Bench_goBack_39 k a1 a2 post x_3 M → W p l e (zRm 0 0) s m ([.ref (zad w k), .int a1, .int a2] : List Value).toArray below meth c H locs 0 0 (MQ below (va_Qv post (zB w) (zA w)) ([.ref (zad w k), .int a1, .int a2] : List Value).toArray s 0 0 (zA w)) (F0 m 39 ls []) := by
    intro x_3 M H locs ls hW hl h
    unfold wpJ_Bench_goBack_39 at h
    refine lv_aload_n hx hb dX0_goBack_39 rfl (lv_at hl 0 rfl) ?_
    refine zg_Bench_left X hW h0 zu_177 dX0_goBack_40 ?_
    refine lv_iload_n hx hb dX0_goBack_43 rfl (lv_at hl 1 rfl) ?_
    refine lv_iload_n hx hb dX0_goBack_44 rfl (lv_at hl 2 rfl) ?_
    refine lv_if_le (tgt := 60) hx hb dX0_goBack_45 rfl (fun c => ?_) (fun c => ?_)
    · replace h := h.1 c
      refine lv_iconst hx hb dX0_goBack_60 zc_i0 ?_
      obtain ⟨g, h⟩ := h
      refine ziast X hW h0.2.2.1 g dX0_goBack_61 (fun H locs zm2 ezm2 hW => ?_)
      replace h := h zm2 ezm2
      refine lv_aload_n hx hb dX0_goBack_62 rfl (lv_at hl 0 rfl) ?_
      refine zg_Bench_doing X hW h0 zu_175 dX0_goBack_63 ?_
      refine lv_iload_n hx hb dX0_goBack_66 rfl (lv_at hl 1 rfl) ?_
      refine lv_aload_n hx hb dX0_goBack_67 rfl (lv_at hl 0 rfl) ?_
      refine zg_Bench_left X hW h0 zu_177 dX0_goBack_68 ?_
      refine lv_iload_n hx hb dX0_goBack_71 rfl (lv_at hl 1 rfl) ?_
      obtain ⟨g, h⟩ := h
      refine ziald X hW h0.2.2.1 g dX0_goBack_72 ?_
      refine lv_if_le (tgt := 80) hx hb dX0_goBack_73 rfl (fun c => ?_) (fun c => ?_)
      · replace h := h.1 c
        refine lv_iconst hx hb dX0_goBack_80 zc_i0 ?_
        obtain ⟨g, h⟩ := h
        refine ziast X hW h0.2.1 g dX0_goBack_81 (fun H locs zm3 ezm3 hW => ?_)
        replace h := h zm3 ezm3
        exact zretv X hr hlk hW h dX0_goBack_82
      · replace h := h.2 c
        refine lv_iconst hx hb dX0_goBack_76 zc_i1 ?_
        refine lv_goto (tgt := 81) hx hb dX0_goBack_77 rfl ?_
        obtain ⟨g, h⟩ := h
        refine ziast X hW h0.2.1 g dX0_goBack_81 (fun H locs zm4 ezm4 hW => ?_)
        replace h := h zm4 ezm4
        exact zretv X hr hlk hW h dX0_goBack_82
    · replace h := h.2 c
      refine lv_aload_n hx hb dX0_goBack_48 rfl (lv_at hl 0 rfl) ?_
      refine zg_Bench_told X hW h0 zu_160 dX0_goBack_49 ?_
      refine zg_Told_walk X hW (h0.2.2.2.2.2.2.2.2.2.1 _) zu_44 dX0_goBack_52 ?_
      refine lv_iload_n hx hb dX0_goBack_55 rfl (lv_at hl 2 rfl) ?_
      refine lv_imul hx hb dX0_goBack_56 ?_
      refine lv_goto (tgt := 61) hx hb dX0_goBack_57 rfl ?_
      obtain ⟨g, h⟩ := h
      refine ziast X hW h0.2.2.1 g dX0_goBack_61 (fun H locs zm5 ezm5 hW => ?_)
      replace h := h zm5 ezm5
      refine lv_aload_n hx hb dX0_goBack_62 rfl (lv_at hl 0 rfl) ?_
      refine zg_Bench_doing X hW h0 zu_175 dX0_goBack_63 ?_
      refine lv_iload_n hx hb dX0_goBack_66 rfl (lv_at hl 1 rfl) ?_
      refine lv_aload_n hx hb dX0_goBack_67 rfl (lv_at hl 0 rfl) ?_
      refine zg_Bench_left X hW h0 zu_177 dX0_goBack_68 ?_
      refine lv_iload_n hx hb dX0_goBack_71 rfl (lv_at hl 1 rfl) ?_
      obtain ⟨g, h⟩ := h
      refine ziald X hW h0.2.2.1 g dX0_goBack_72 ?_
      refine lv_if_le (tgt := 80) hx hb dX0_goBack_73 rfl (fun c => ?_) (fun c => ?_)
      · replace h := h.1 c
        refine lv_iconst hx hb dX0_goBack_80 zc_i0 ?_
        obtain ⟨g, h⟩ := h
        refine ziast X hW h0.2.1 g dX0_goBack_81 (fun H locs zm6 ezm6 hW => ?_)
        replace h := h zm6 ezm6
        exact zretv X hr hlk hW h dX0_goBack_82
      · replace h := h.2 c
        refine lv_iconst hx hb dX0_goBack_76 zc_i1 ?_
        refine lv_goto (tgt := 81) hx hb dX0_goBack_77 rfl ?_
        obtain ⟨g, h⟩ := h
        refine ziast X hW h0.2.1 g dX0_goBack_81 (fun H locs zm7 ezm7 hW => ?_)
        replace h := h zm7 ezm7
        exact zretv X hr hlk hW h dX0_goBack_82
  have zJ_38 : ∀ (s_0 : Int32) (M : zMem) (H : Heap) (locs : List Loc) (ls : Array Slot), zWo w s.heap M H locs → lv_has ls 4 [(0, .ref (zad w k)), (1, .int a1)] → wpJ_Bench_goBack_38 k a1 a2 post s_0 M → W p l e (zRm 0 0) s m ([.ref (zad w k), .int a1, .int a2] : List Value).toArray below meth c H locs 0 0 (MQ below (va_Qv post (zB w) (zA w)) ([.ref (zad w k), .int a1, .int a2] : List Value).toArray s 0 0 (zA w)) (F0 m 38 ls [.int s_0]) := by
    intro s_0 M H locs ls hW hl h
    unfold wpJ_Bench_goBack_38 at h
    refine lv_istore_n (lv' := [(3, .int s_0), (0, .ref (zad w k)), (1, .int a1)]) hx hb dX0_goBack_38 rfl hl (Nat.le_of_ble_eq_true rfl) rfl (fun ls hl => ?_)
    exact zJ_39 s_0 M H locs ls hW (lv_sub hl [1, 2, 0] rfl) h
  unfold wp_Bench_goBack at h
  have zMain : ∀ (H : Heap) (locs : List Loc) (ls : Array Slot), zWo w s.heap M H locs → lv_has ls 4 [(0, .ref (zad w k)), (1, .int a1), (2, .int a2)] → W p l e (zRm 0 0) s m ([.ref (zad w k), .int a1, .int a2] : List Value).toArray below meth c H locs 0 0 (MQ below (va_Qv post (zB w) (zA w)) ([.ref (zad w k), .int a1, .int a2] : List Value).toArray s 0 0 (zA w)) (F0 m 0 ls []) := by
    intro H locs ls hW hl
    refine lv_aload_n hx hb dX0_goBack_0 rfl (lv_at hl 0 rfl) ?_
    refine zg_Bench_piece X hW h0 zu_179 dX0_goBack_1 ?_
    refine lv_iload_n hx hb dX0_goBack_4 rfl (lv_at hl 1 rfl) ?_
    refine lv_iconst hx hb dX0_goBack_5 zc_im1 ?_
    obtain ⟨g, h⟩ := h
    refine ziast X hW h0.2.2.2.1 g dX0_goBack_6 (fun H locs zm1 ezm1 hW => ?_)
    replace h := h zm1 ezm1
    refine lv_iconst hx hb dX0_goBack_7 zc_i0 ?_
    refine lv_istore_n (lv' := [(3, .int 0), (0, .ref (zad w k)), (1, .int a1), (2, .int a2)]) hx hb dX0_goBack_8 rfl hl (Nat.le_of_ble_eq_true rfl) rfl (fun ls hl => ?_)
    refine lv_iload_n hx hb dX0_goBack_9 rfl (lv_at hl 2 rfl) ?_
    refine lv_if_le (tgt := 39) hx hb dX0_goBack_10 rfl (fun c => ?_) (fun c => ?_)
    · replace h := h.1 c
      exact zJ_39 0 zm1 H locs ls hW (lv_sub hl [1, 2, 0] rfl) h
    · replace h := h.2 c
      refine lv_aload_n hx hb dX0_goBack_13 rfl (lv_at hl 1 rfl) ?_
      refine zg_Bench_piece X hW h0 zu_179 dX0_goBack_14 ?_
      refine lv_iload_n hx hb dX0_goBack_17 rfl (lv_at hl 2 rfl) ?_
      refine lv_iconst hx hb dX0_goBack_18 zc_i1 ?_
      refine lv_isub hx hb dX0_goBack_19 ?_
      obtain ⟨g, h⟩ := h
      refine ziald X hW h0.2.2.2.1 g dX0_goBack_20 ?_
      refine lv_if_ge (tgt := 28) hx hb dX0_goBack_21 rfl (fun c => ?_) (fun c => ?_)
      · replace h := h.1 c
        refine lv_iload_n hx hb dX0_goBack_28 rfl (lv_at hl 3 rfl) ?_
        refine lv_aload_n hx hb dX0_goBack_29 rfl (lv_at hl 1 rfl) ?_
        refine zg_Bench_piece X hW h0 zu_179 dX0_goBack_30 ?_
        refine lv_iload_n hx hb dX0_goBack_33 rfl (lv_at hl 2 rfl) ?_
        refine lv_iconst hx hb dX0_goBack_34 zc_i1 ?_
        refine lv_isub hx hb dX0_goBack_35 ?_
        obtain ⟨g, h⟩ := h
        refine ziald X hW h0.2.2.2.1 g dX0_goBack_36 ?_
        refine lv_isub hx hb dX0_goBack_37 ?_
        exact zJ_38 (a2 - (zm1 (k + 3) (ix (a1 - 1)))) zm1 H locs ls hW (lv_sub hl [1, 2] rfl) h
      · replace h := h.2 c
        refine lv_iload_n hx hb dX0_goBack_24 rfl (lv_at hl 3 rfl) ?_
        refine lv_goto (tgt := 38) hx hb dX0_goBack_25 rfl ?_
        exact zJ_38 a2 zm1 H locs ls hW (lv_sub hl [1, 2] rfl) h
  exact zMain s.heap [] ls hW hl
def wp_Bench_takeOver (k : Nat) (a1 : Int32) (M : zMem) (Q : Int32 → zMem → Prop) : Prop :=
  ∀ zx1 : Int32, zx1 = a1 - 1 → vp_in zx1 5 ∧ (¬ (M (k + 1) (ix zx1)) = 2 → Q 0 M) ∧ ((M (k + 1) (ix zx1)) = 2 → vp_in zx1 5 ∧ vp_in zx1 5 ∧ wp_Told_mayBeLeft (ztc (M k 0)) zx1 (M (k + 3) (ix zx1)) (M (k + 4) (ix zx1)) M (fun zr3 zm2 => (¬ zr3 = 0 → vp_in a1 5 ∧ ∀ zm4 : zMem, zm4 = zup zm2 (k + 1) (ix a1) 2 → vp_in zx1 5 ∧ vp_in a1 5 ∧ ∀ zm5 : zMem, zm5 = zup zm4 (k + 3) (ix a1) (zm4 (k + 3) (ix zx1)) → vp_in zx1 5 ∧ vp_in a1 5 ∧ ∀ zm6 : zMem, zm6 = zup zm5 (k + 4) (ix a1) (zm5 (k + 4) (ix zx1)) → vp_in zx1 5 ∧ vp_in a1 5 ∧ ∀ zm7 : zMem, zm7 = zup zm6 (k + 5) (ix a1) (zm6 (k + 5) (ix zx1)) → ∀ zm8 : zMem, zm8 = zup zm7 k 4 ((zm7 k 4) + 1) → (zlg k = none → vp_in zx1 5 ∧ wp_Bench_goBack k zx1 (zm8 (k + 3) (ix zx1)) zm8 (fun zm10 => Q 1 zm10)) ∧ (∀ zg9 : Nat, zlg k = some zg9 → vp_in a1 5 ∧ vp_in a1 5 ∧ vp_in a1 5 ∧ wp_Handings_note zg9 (zm8 k 2) a1 (zm8 (k + 3) (ix a1)) (zm8 (k + 4) (ix a1)) (zm8 (k + 5) (ix a1)) zm8 (fun zm12 => vp_in zx1 5 ∧ wp_Bench_goBack k zx1 (zm12 (k + 3) (ix zx1)) zm12 (fun zm14 => Q 1 zm14)))) ∧ (zr3 = 0 → Q 0 zm2)))
set_option maxHeartbeats 4000000 in
set_option maxRecDepth 20000 in
theorem c_Bench_takeOver {l : Launch} {w : zWd} {k : Nat} {a1 : Int32} {M : zMem} {post : Int32 → zMem → Prop} (h0 : zI_Bench w k) (h : wp_Bench_takeOver k a1 M post) : zMi l ⟨"HandToHand$Bench", "takeOver", "(I)Z"⟩ prog_2_method_9_code 3 (Option.some .boolean) 1 26 w [.ref (zad w k), .int a1] M post := by
  refine zMet (by decide) (Nat.le_of_ble_eq_true rfl) ?_
  intro p e s m below meth c X hr hlk hml hW ls hl
  have hx := X.1
  have hb := X.2.1
  have hl : lv_has ls 3 [(0, .ref (zad w k)), (1, .int a1)] := hl
  unfold wp_Bench_takeOver at h
  have zMain : ∀ (H : Heap) (locs : List Loc) (ls : Array Slot), zWo w s.heap M H locs → lv_has ls 3 [(0, .ref (zad w k)), (1, .int a1)] → W p l e (zRm 1 26) s m ([.ref (zad w k), .int a1] : List Value).toArray below meth c H locs 0 0 (MQ below (va_Qi post (zB w) (zA w)) ([.ref (zad w k), .int a1] : List Value).toArray s 0 0 (zA w)) (F0 m 0 ls []) := by
    intro H locs ls hW hl
    refine lv_iload_n hx hb dX0_takeOver_0 rfl (lv_at hl 1 rfl) ?_
    refine lv_iconst hx hb dX0_takeOver_1 zc_i1 ?_
    refine lv_isub hx hb dX0_takeOver_2 ?_
    refine lv_topi (fun zx1 ezx1 => ?_)
    replace h := h zx1 ezx1
    refine lv_istore_n (lv' := [(2, .int zx1), (0, .ref (zad w k)), (1, .int a1)]) hx hb dX0_takeOver_3 rfl hl (Nat.le_of_ble_eq_true rfl) rfl (fun ls hl => ?_)
    refine lv_aload_n hx hb dX0_takeOver_4 rfl (lv_at hl 1 rfl) ?_
    refine zg_Bench_doing X hW h0 zu_175 dX0_takeOver_5 ?_
    refine lv_iload_n hx hb dX0_takeOver_8 rfl (lv_at hl 0 rfl) ?_
    obtain ⟨g, h⟩ := h
    refine ziald X hW h0.2.1 g dX0_takeOver_9 ?_
    refine lv_iconst hx hb dX0_takeOver_10 zc_i2 ?_
    refine lv_icmp_ne (tgt := 37) hx hb dX0_takeOver_11 rfl (fun c => ?_) (fun c => ?_)
    · replace h := h.1 c
      refine lv_iconst hx hb dX0_takeOver_37 zc_i0 ?_
      exact zretz X hr hlk hW rfl h dX0_takeOver_38
    · replace h := h.2 c
      refine lv_aload_n hx hb dX0_takeOver_14 rfl (lv_at hl 1 rfl) ?_
      refine zg_Bench_told X hW h0 zu_160 dX0_takeOver_15 ?_
      refine lv_iload_n hx hb dX0_takeOver_18 rfl (lv_at hl 0 rfl) ?_
      refine lv_aload_n hx hb dX0_takeOver_19 rfl (lv_at hl 1 rfl) ?_
      refine zg_Bench_piece X hW h0 zu_179 dX0_takeOver_20 ?_
      refine lv_iload_n hx hb dX0_takeOver_23 rfl (lv_at hl 0 rfl) ?_
      obtain ⟨g, h⟩ := h
      refine ziald X hW h0.2.2.2.1 g dX0_takeOver_24 ?_
      refine lv_aload_n hx hb dX0_takeOver_25 rfl (lv_at hl 1 rfl) ?_
      refine zg_Bench_unit X hW h0 zu_181 dX0_takeOver_26 ?_
      refine lv_iload_n hx hb dX0_takeOver_29 rfl (lv_at hl 0 rfl) ?_
      obtain ⟨g, h⟩ := h
      refine ziald X hW h0.2.2.2.2.1 g dX0_takeOver_30 ?_
      refine zcalli (zrunV (As := [.int zx1, .int (M (k + 3) (ix zx1)), .int (M (k + 4) (ix zx1))]) (rest := []) X hml hl hW (h0.2.2.2.2.2.2.2.2.2.1 _).1 rfl zk_Bench_109 (c_Told_mayBeLeft (h0.2.2.2.2.2.2.2.2.2.1 _) h) rfl ⟨Nat.le_of_ble_eq_true rfl, Nat.le_of_ble_eq_true rfl⟩ ⟨Nat.le_refl 0, Nat.le_refl 0⟩ rfl (Nat.le_of_ble_eq_true rfl) dX0_takeOver_31) hW (fun zr3 zm2 H locs h hW => ?_)
      refine lv_if_ne (tgt := 39) hx hb dX0_takeOver_34 rfl (fun c => ?_) (fun c => ?_)
      · replace h := h.1 c
        refine lv_aload_n hx hb dX0_takeOver_39 rfl (lv_at hl 1 rfl) ?_
        refine zg_Bench_doing X hW h0 zu_175 dX0_takeOver_40 ?_
        refine lv_iload_n hx hb dX0_takeOver_43 rfl (lv_at hl 2 rfl) ?_
        refine lv_iconst hx hb dX0_takeOver_44 zc_i2 ?_
        obtain ⟨g, h⟩ := h
        refine ziast X hW h0.2.1 g dX0_takeOver_45 (fun H locs zm4 ezm4 hW => ?_)
        replace h := h zm4 ezm4
        refine lv_aload_n hx hb dX0_takeOver_46 rfl (lv_at hl 1 rfl) ?_
        refine zg_Bench_piece X hW h0 zu_179 dX0_takeOver_47 ?_
        refine lv_iload_n hx hb dX0_takeOver_50 rfl (lv_at hl 2 rfl) ?_
        refine lv_aload_n hx hb dX0_takeOver_51 rfl (lv_at hl 1 rfl) ?_
        refine zg_Bench_piece X hW h0 zu_179 dX0_takeOver_52 ?_
        refine lv_iload_n hx hb dX0_takeOver_55 rfl (lv_at hl 0 rfl) ?_
        obtain ⟨g, h⟩ := h
        refine ziald X hW h0.2.2.2.1 g dX0_takeOver_56 ?_
        obtain ⟨g, h⟩ := h
        refine ziast X hW h0.2.2.2.1 g dX0_takeOver_57 (fun H locs zm5 ezm5 hW => ?_)
        replace h := h zm5 ezm5
        refine lv_aload_n hx hb dX0_takeOver_58 rfl (lv_at hl 1 rfl) ?_
        refine zg_Bench_unit X hW h0 zu_181 dX0_takeOver_59 ?_
        refine lv_iload_n hx hb dX0_takeOver_62 rfl (lv_at hl 2 rfl) ?_
        refine lv_aload_n hx hb dX0_takeOver_63 rfl (lv_at hl 1 rfl) ?_
        refine zg_Bench_unit X hW h0 zu_181 dX0_takeOver_64 ?_
        refine lv_iload_n hx hb dX0_takeOver_67 rfl (lv_at hl 0 rfl) ?_
        obtain ⟨g, h⟩ := h
        refine ziald X hW h0.2.2.2.2.1 g dX0_takeOver_68 ?_
        obtain ⟨g, h⟩ := h
        refine ziast X hW h0.2.2.2.2.1 g dX0_takeOver_69 (fun H locs zm6 ezm6 hW => ?_)
        replace h := h zm6 ezm6
        refine lv_aload_n hx hb dX0_takeOver_70 rfl (lv_at hl 1 rfl) ?_
        refine zg_Bench_sort X hW h0 zu_183 dX0_takeOver_71 ?_
        refine lv_iload_n hx hb dX0_takeOver_74 rfl (lv_at hl 2 rfl) ?_
        refine lv_aload_n hx hb dX0_takeOver_75 rfl (lv_at hl 1 rfl) ?_
        refine zg_Bench_sort X hW h0 zu_183 dX0_takeOver_76 ?_
        refine lv_iload_n hx hb dX0_takeOver_79 rfl (lv_at hl 0 rfl) ?_
        obtain ⟨g, h⟩ := h
        refine ziald X hW h0.2.2.2.2.2.1 g dX0_takeOver_80 ?_
        obtain ⟨g, h⟩ := h
        refine ziast X hW h0.2.2.2.2.2.1 g dX0_takeOver_81 (fun H locs zm7 ezm7 hW => ?_)
        replace h := h zm7 ezm7
        refine lv_aload_n hx hb dX0_takeOver_82 rfl (lv_at hl 1 rfl) ?_
        refine lv_dup hx hb dX0_takeOver_83 rfl ?_
        refine zg_Bench_handings X hW h0 zu_170 dX0_takeOver_84 ?_
        refine lv_iconst hx hb dX0_takeOver_87 zc_i1 ?_
        refine lv_iadd hx hb dX0_takeOver_88 ?_
        refine zp_Bench_handings X hW h0 zu_170 dX0_takeOver_89 (fun H locs zm8 ezm8 hW => ?_)
        replace h := h zm8 ezm8
        refine lv_aload_n hx hb dX0_takeOver_92 rfl (lv_at hl 1 rfl) ?_
        rcases hq : zlg k with _ | zg9
        · replace h := h.1 hq
          refine zg_Bench_logN X hW h0 hq zu_162 dX0_takeOver_93 ?_
          refine lv_ifnullN (tgt := 129) hx hb dX0_takeOver_96 rfl ?_
          refine lv_aload_n hx hb dX0_takeOver_129 rfl (lv_at hl 1 rfl) ?_
          refine lv_iload_n hx hb dX0_takeOver_130 rfl (lv_at hl 0 rfl) ?_
          refine lv_aload_n hx hb dX0_takeOver_131 rfl (lv_at hl 1 rfl) ?_
          refine zg_Bench_piece X hW h0 zu_179 dX0_takeOver_132 ?_
          refine lv_iload_n hx hb dX0_takeOver_135 rfl (lv_at hl 0 rfl) ?_
          obtain ⟨g, h⟩ := h
          refine ziald X hW h0.2.2.2.1 g dX0_takeOver_136 ?_
          refine zcallv (zrunV (As := [.int zx1, .int (zm8 (k + 3) (ix zx1))]) (rest := []) X hml hl hW h0.1 rfl zk_Bench_99 (c_Bench_goBack h0 h) rfl ⟨Nat.le_of_ble_eq_true rfl, Nat.le_of_ble_eq_true rfl⟩ ⟨Nat.le_refl 0, Nat.le_refl 0⟩ rfl (Nat.le_of_ble_eq_true rfl) dX0_takeOver_137) hW (fun zm10 H locs h hW => ?_)
          refine lv_iconst hx hb dX0_takeOver_140 zc_i1 ?_
          exact zretz X hr hlk hW rfl h dX0_takeOver_141
        · have cgzg9 := hq
          replace h := h.2 zg9 hq
          refine zg_Bench_logS X hW h0 hq zu_162 dX0_takeOver_93 ?_
          refine lv_ifnull hx hb dX0_takeOver_96 ?_
          refine lv_aload_n hx hb dX0_takeOver_99 rfl (lv_at hl 1 rfl) ?_
          refine zg_Bench_logS X hW h0 cgzg9 zu_162 dX0_takeOver_100 ?_
          refine lv_aload_n hx hb dX0_takeOver_103 rfl (lv_at hl 1 rfl) ?_
          refine zg_Bench_tick X hW h0 zu_163 dX0_takeOver_104 ?_
          refine lv_iload_n hx hb dX0_takeOver_107 rfl (lv_at hl 2 rfl) ?_
          refine lv_aload_n hx hb dX0_takeOver_108 rfl (lv_at hl 1 rfl) ?_
          refine zg_Bench_piece X hW h0 zu_179 dX0_takeOver_109 ?_
          refine lv_iload_n hx hb dX0_takeOver_112 rfl (lv_at hl 2 rfl) ?_
          obtain ⟨g, h⟩ := h
          refine ziald X hW h0.2.2.2.1 g dX0_takeOver_113 ?_
          refine lv_aload_n hx hb dX0_takeOver_114 rfl (lv_at hl 1 rfl) ?_
          refine zg_Bench_unit X hW h0 zu_181 dX0_takeOver_115 ?_
          refine lv_iload_n hx hb dX0_takeOver_118 rfl (lv_at hl 2 rfl) ?_
          obtain ⟨g, h⟩ := h
          refine ziald X hW h0.2.2.2.2.1 g dX0_takeOver_119 ?_
          refine lv_aload_n hx hb dX0_takeOver_120 rfl (lv_at hl 1 rfl) ?_
          refine zg_Bench_sort X hW h0 zu_183 dX0_takeOver_121 ?_
          refine lv_iload_n hx hb dX0_takeOver_124 rfl (lv_at hl 2 rfl) ?_
          obtain ⟨g, h⟩ := h
          refine ziald X hW h0.2.2.2.2.2.1 g dX0_takeOver_125 ?_
          refine zcallv (zrunV (As := [.int (zm8 k 2), .int a1, .int (zm8 (k + 3) (ix a1)), .int (zm8 (k + 4) (ix a1)), .int (zm8 (k + 5) (ix a1))]) (rest := []) X hml hl hW (h0.2.2.2.2.2.2.2.2.2.2 _ cgzg9).1 rfl zk_Bench_113 (c_Handings_note (h0.2.2.2.2.2.2.2.2.2.2 _ cgzg9) h) rfl ⟨Nat.le_of_ble_eq_true rfl, Nat.le_of_ble_eq_true rfl⟩ ⟨Nat.le_refl 0, Nat.le_refl 0⟩ rfl (Nat.le_of_ble_eq_true rfl) dX0_takeOver_126) hW (fun zm12 H locs h hW => ?_)
          refine lv_aload_n hx hb dX0_takeOver_129 rfl (lv_at hl 1 rfl) ?_
          refine lv_iload_n hx hb dX0_takeOver_130 rfl (lv_at hl 0 rfl) ?_
          refine lv_aload_n hx hb dX0_takeOver_131 rfl (lv_at hl 1 rfl) ?_
          refine zg_Bench_piece X hW h0 zu_179 dX0_takeOver_132 ?_
          refine lv_iload_n hx hb dX0_takeOver_135 rfl (lv_at hl 0 rfl) ?_
          obtain ⟨g, h⟩ := h
          refine ziald X hW h0.2.2.2.1 g dX0_takeOver_136 ?_
          refine zcallv (zrunV (As := [.int zx1, .int (zm12 (k + 3) (ix zx1))]) (rest := []) X hml hl hW h0.1 rfl zk_Bench_99 (c_Bench_goBack h0 h) rfl ⟨Nat.le_of_ble_eq_true rfl, Nat.le_of_ble_eq_true rfl⟩ ⟨Nat.le_refl 0, Nat.le_refl 0⟩ rfl (Nat.le_of_ble_eq_true rfl) dX0_takeOver_137) hW (fun zm14 H locs h hW => ?_)
          refine lv_iconst hx hb dX0_takeOver_140 zc_i1 ?_
          exact zretz X hr hlk hW rfl h dX0_takeOver_141
      · replace h := h.2 c
        refine lv_iconst hx hb dX0_takeOver_37 zc_i0 ?_
        exact zretz X hr hlk hW rfl h dX0_takeOver_38
  exact zMain s.heap [] ls hW hl
def wp_Bench_takeNewCoat (k : Nat) (M : zMem) (Q : Int32 → zMem → Prop) : Prop :=
  vp_in (M k 5) 6 ∧ ∀ zx1 : Int32, zx1 = M ((ztc (M k 0)) + 1) (ix (M k 5)) → wp_Told_pieceFrom (ztc (M k 0)) 0 zx1 M (fun zr3 zm2 => (zr3 < (zm2 (ztc (zm2 k 0)) 0) → ((zm2 (ztc (zm2 k 0)) 6) ≤ ((zm2 k 5) + 1) → ∀ zm4 : zMem, zm4 = zup zm2 k 5 0 → vp_in 0 5 ∧ ∀ zm5 : zMem, zm5 = zup zm4 (k + 1) (ix 0) 2 → vp_in 0 5 ∧ ∀ zm6 : zMem, zm6 = zup zm5 (k + 3) (ix 0) zr3 → vp_in 0 5 ∧ ∀ zm7 : zMem, zm7 = zup zm6 (k + 4) (ix 0) 0 → vp_in 0 5 ∧ ∀ zm8 : zMem, zm8 = zup zm7 (k + 5) (ix 0) zx1 → Q 1 zm8) ∧ (¬ (zm2 (ztc (zm2 k 0)) 6) ≤ ((zm2 k 5) + 1) → ∀ zm9 : zMem, zm9 = zup zm2 k 5 ((zm2 k 5) + 1) → vp_in 0 5 ∧ ∀ zm10 : zMem, zm10 = zup zm9 (k + 1) (ix 0) 2 → vp_in 0 5 ∧ ∀ zm11 : zMem, zm11 = zup zm10 (k + 3) (ix 0) zr3 → vp_in 0 5 ∧ ∀ zm12 : zMem, zm12 = zup zm11 (k + 4) (ix 0) 0 → vp_in 0 5 ∧ ∀ zm13 : zMem, zm13 = zup zm12 (k + 5) (ix 0) zx1 → Q 1 zm13)) ∧ (¬ zr3 < (zm2 (ztc (zm2 k 0)) 0) → Q 0 zm2))
set_option maxHeartbeats 4000000 in
set_option maxRecDepth 20000 in
theorem c_Bench_takeNewCoat {l : Launch} {w : zWd} {k : Nat} {M : zMem} {post : Int32 → zMem → Prop} (h0 : zI_Bench w k) (h : wp_Bench_takeNewCoat k M post) : zMi l ⟨"HandToHand$Bench", "takeNewCoat", "()Z"⟩ prog_2_method_8_code 3 (Option.some .boolean) 1 23 w [.ref (zad w k)] M post := by
  refine zMet (by decide) (Nat.le_of_ble_eq_true rfl) ?_
  intro p e s m below meth c X hr hlk hml hW ls hl
  have hx := X.1
  have hb := X.2.1
  have hl : lv_has ls 3 [(0, .ref (zad w k))] := hl
  unfold wp_Bench_takeNewCoat at h
  have zMain : ∀ (H : Heap) (locs : List Loc) (ls : Array Slot), zWo w s.heap M H locs → lv_has ls 3 [(0, .ref (zad w k))] → W p l e (zRm 1 23) s m ([.ref (zad w k)] : List Value).toArray below meth c H locs 0 0 (MQ below (va_Qi post (zB w) (zA w)) ([.ref (zad w k)] : List Value).toArray s 0 0 (zA w)) (F0 m 0 ls []) := by
    intro H locs ls hW hl
    refine lv_aload_n hx hb dX0_takeNewCoat_0 rfl (lv_at hl 0 rfl) ?_
    refine zg_Bench_told X hW h0 zu_160 dX0_takeNewCoat_1 ?_
    refine zg_Told_row X hW (h0.2.2.2.2.2.2.2.2.2.1 _) zu_61 dX0_takeNewCoat_4 ?_
    refine lv_aload_n hx hb dX0_takeNewCoat_7 rfl (lv_at hl 0 rfl) ?_
    refine zg_Bench_place X hW h0 zu_172 dX0_takeNewCoat_8 ?_
    obtain ⟨g, h⟩ := h
    refine ziald X hW (h0.2.2.2.2.2.2.2.2.2.1 _).2.1 g dX0_takeNewCoat_11 ?_
    refine lv_topi (fun zx1 ezx1 => ?_)
    replace h := h zx1 ezx1
    refine lv_istore_n (lv' := [(1, .int zx1), (0, .ref (zad w k))]) hx hb dX0_takeNewCoat_12 rfl hl (Nat.le_of_ble_eq_true rfl) rfl (fun ls hl => ?_)
    refine lv_aload_n hx hb dX0_takeNewCoat_13 rfl (lv_at hl 1 rfl) ?_
    refine zg_Bench_told X hW h0 zu_160 dX0_takeNewCoat_14 ?_
    refine lv_iconst hx hb dX0_takeNewCoat_17 zc_i0 ?_
    refine lv_iload_n hx hb dX0_takeNewCoat_18 rfl (lv_at hl 0 rfl) ?_
    refine zcalli (zrunV (As := [.int 0, .int zx1]) (rest := []) X hml hl hW (h0.2.2.2.2.2.2.2.2.2.1 _).1 rfl zk_Bench_93 (c_Told_pieceFrom (h0.2.2.2.2.2.2.2.2.2.1 _) h) rfl ⟨Nat.le_of_ble_eq_true rfl, Nat.le_of_ble_eq_true rfl⟩ ⟨Nat.le_refl 0, Nat.le_refl 0⟩ rfl (Nat.le_of_ble_eq_true rfl) dX0_takeNewCoat_19) hW (fun zr3 zm2 H locs h hW => ?_)
    refine lv_istore_n (lv' := [(2, .int zr3), (1, .int zx1), (0, .ref (zad w k))]) hx hb dX0_takeNewCoat_22 rfl hl (Nat.le_of_ble_eq_true rfl) rfl (fun ls hl => ?_)
    refine lv_iload_n hx hb dX0_takeNewCoat_23 rfl (lv_at hl 0 rfl) ?_
    refine lv_aload_n hx hb dX0_takeNewCoat_24 rfl (lv_at hl 2 rfl) ?_
    refine zg_Bench_told X hW h0 zu_160 dX0_takeNewCoat_25 ?_
    refine zg_Told_pieces X hW (h0.2.2.2.2.2.2.2.2.2.1 _) zu_36 dX0_takeNewCoat_28 ?_
    refine lv_icmp_lt (tgt := 36) hx hb dX0_takeNewCoat_31 rfl (fun c => ?_) (fun c => ?_)
    · replace h := h.1 c
      refine lv_aload_n hx hb dX0_takeNewCoat_36 rfl (lv_at hl 2 rfl) ?_
      refine lv_aload_n hx hb dX0_takeNewCoat_37 rfl (lv_at hl 2 rfl) ?_
      refine zg_Bench_place X hW h0 zu_172 dX0_takeNewCoat_38 ?_
      refine lv_iconst hx hb dX0_takeNewCoat_41 zc_i1 ?_
      refine lv_iadd hx hb dX0_takeNewCoat_42 ?_
      refine lv_aload_n hx hb dX0_takeNewCoat_43 rfl (lv_at hl 2 rfl) ?_
      refine zg_Bench_told X hW h0 zu_160 dX0_takeNewCoat_44 ?_
      refine zg_Told_rowLength X hW (h0.2.2.2.2.2.2.2.2.2.1 _) zu_57 dX0_takeNewCoat_47 ?_
      refine lv_icmp_ge (tgt := 62) hx hb dX0_takeNewCoat_50 rfl (fun c => ?_) (fun c => ?_)
      · replace h := h.1 c
        refine lv_iconst hx hb dX0_takeNewCoat_62 zc_i0 ?_
        refine zp_Bench_place X hW h0 zu_172 dX0_takeNewCoat_63 (fun H locs zm4 ezm4 hW => ?_)
        replace h := h zm4 ezm4
        refine lv_aload_n hx hb dX0_takeNewCoat_66 rfl (lv_at hl 2 rfl) ?_
        refine zg_Bench_doing X hW h0 zu_175 dX0_takeNewCoat_67 ?_
        refine lv_iconst hx hb dX0_takeNewCoat_70 zc_i0 ?_
        refine lv_iconst hx hb dX0_takeNewCoat_71 zc_i2 ?_
        obtain ⟨g, h⟩ := h
        refine ziast X hW h0.2.1 g dX0_takeNewCoat_72 (fun H locs zm5 ezm5 hW => ?_)
        replace h := h zm5 ezm5
        refine lv_aload_n hx hb dX0_takeNewCoat_73 rfl (lv_at hl 2 rfl) ?_
        refine zg_Bench_piece X hW h0 zu_179 dX0_takeNewCoat_74 ?_
        refine lv_iconst hx hb dX0_takeNewCoat_77 zc_i0 ?_
        refine lv_iload_n hx hb dX0_takeNewCoat_78 rfl (lv_at hl 0 rfl) ?_
        obtain ⟨g, h⟩ := h
        refine ziast X hW h0.2.2.2.1 g dX0_takeNewCoat_79 (fun H locs zm6 ezm6 hW => ?_)
        replace h := h zm6 ezm6
        refine lv_aload_n hx hb dX0_takeNewCoat_80 rfl (lv_at hl 2 rfl) ?_
        refine zg_Bench_unit X hW h0 zu_181 dX0_takeNewCoat_81 ?_
        refine lv_iconst hx hb dX0_takeNewCoat_84 zc_i0 ?_
        refine lv_iconst hx hb dX0_takeNewCoat_85 zc_i0 ?_
        obtain ⟨g, h⟩ := h
        refine ziast X hW h0.2.2.2.2.1 g dX0_takeNewCoat_86 (fun H locs zm7 ezm7 hW => ?_)
        replace h := h zm7 ezm7
        refine lv_aload_n hx hb dX0_takeNewCoat_87 rfl (lv_at hl 2 rfl) ?_
        refine zg_Bench_sort X hW h0 zu_183 dX0_takeNewCoat_88 ?_
        refine lv_iconst hx hb dX0_takeNewCoat_91 zc_i0 ?_
        refine lv_iload_n hx hb dX0_takeNewCoat_92 rfl (lv_at hl 1 rfl) ?_
        obtain ⟨g, h⟩ := h
        refine ziast X hW h0.2.2.2.2.2.1 g dX0_takeNewCoat_93 (fun H locs zm8 ezm8 hW => ?_)
        replace h := h zm8 ezm8
        refine lv_iconst hx hb dX0_takeNewCoat_94 zc_i1 ?_
        exact zretz X hr hlk hW rfl h dX0_takeNewCoat_95
      · replace h := h.2 c
        refine lv_aload_n hx hb dX0_takeNewCoat_53 rfl (lv_at hl 2 rfl) ?_
        refine zg_Bench_place X hW h0 zu_172 dX0_takeNewCoat_54 ?_
        refine lv_iconst hx hb dX0_takeNewCoat_57 zc_i1 ?_
        refine lv_iadd hx hb dX0_takeNewCoat_58 ?_
        refine lv_goto (tgt := 63) hx hb dX0_takeNewCoat_59 rfl ?_
        refine zp_Bench_place X hW h0 zu_172 dX0_takeNewCoat_63 (fun H locs zm9 ezm9 hW => ?_)
        replace h := h zm9 ezm9
        refine lv_aload_n hx hb dX0_takeNewCoat_66 rfl (lv_at hl 2 rfl) ?_
        refine zg_Bench_doing X hW h0 zu_175 dX0_takeNewCoat_67 ?_
        refine lv_iconst hx hb dX0_takeNewCoat_70 zc_i0 ?_
        refine lv_iconst hx hb dX0_takeNewCoat_71 zc_i2 ?_
        obtain ⟨g, h⟩ := h
        refine ziast X hW h0.2.1 g dX0_takeNewCoat_72 (fun H locs zm10 ezm10 hW => ?_)
        replace h := h zm10 ezm10
        refine lv_aload_n hx hb dX0_takeNewCoat_73 rfl (lv_at hl 2 rfl) ?_
        refine zg_Bench_piece X hW h0 zu_179 dX0_takeNewCoat_74 ?_
        refine lv_iconst hx hb dX0_takeNewCoat_77 zc_i0 ?_
        refine lv_iload_n hx hb dX0_takeNewCoat_78 rfl (lv_at hl 0 rfl) ?_
        obtain ⟨g, h⟩ := h
        refine ziast X hW h0.2.2.2.1 g dX0_takeNewCoat_79 (fun H locs zm11 ezm11 hW => ?_)
        replace h := h zm11 ezm11
        refine lv_aload_n hx hb dX0_takeNewCoat_80 rfl (lv_at hl 2 rfl) ?_
        refine zg_Bench_unit X hW h0 zu_181 dX0_takeNewCoat_81 ?_
        refine lv_iconst hx hb dX0_takeNewCoat_84 zc_i0 ?_
        refine lv_iconst hx hb dX0_takeNewCoat_85 zc_i0 ?_
        obtain ⟨g, h⟩ := h
        refine ziast X hW h0.2.2.2.2.1 g dX0_takeNewCoat_86 (fun H locs zm12 ezm12 hW => ?_)
        replace h := h zm12 ezm12
        refine lv_aload_n hx hb dX0_takeNewCoat_87 rfl (lv_at hl 2 rfl) ?_
        refine zg_Bench_sort X hW h0 zu_183 dX0_takeNewCoat_88 ?_
        refine lv_iconst hx hb dX0_takeNewCoat_91 zc_i0 ?_
        refine lv_iload_n hx hb dX0_takeNewCoat_92 rfl (lv_at hl 1 rfl) ?_
        obtain ⟨g, h⟩ := h
        refine ziast X hW h0.2.2.2.2.2.1 g dX0_takeNewCoat_93 (fun H locs zm13 ezm13 hW => ?_)
        replace h := h zm13 ezm13
        refine lv_iconst hx hb dX0_takeNewCoat_94 zc_i1 ?_
        exact zretz X hr hlk hW rfl h dX0_takeNewCoat_95
    · replace h := h.2 c
      refine lv_iconst hx hb dX0_takeNewCoat_34 zc_i0 ?_
      exact zretz X hr hlk hW rfl h dX0_takeNewCoat_35
  exact zMain s.heap [] ls hW hl
def wp_Bench_isHeldBy (k : Nat) (a1 : Int32) (a2 : Int32) (M : zMem) (Q : Int32 → zMem → Prop) : Prop :=
  ((M (ztc (M k 0)) 1) ≤ a2 → Q 0 M) ∧ (¬ (M (ztc (M k 0)) 1) ≤ a2 → vp_in a2 5 ∧ ((M (k + 3) (ix a2)) < 0 → Q 0 M) ∧ (¬ (M (k + 3) (ix a2)) < 0 → vp_in a2 5 ∧ vp_in a1 5 ∧ ((M (k + 3) (ix a2)) ≤ (M (k + 3) (ix a1)) → vp_in a2 5 ∧ vp_in a1 5 ∧ ((M (k + 3) (ix a2)) < (M (k + 3) (ix a1)) → Q 1 M) ∧ (¬ (M (k + 3) (ix a2)) < (M (k + 3) (ix a1)) → vp_in a2 5 ∧ vp_in a1 5 ∧ ((M (k + 4) (ix a1)) < (M (k + 4) (ix a2)) → Q 0 M) ∧ (¬ (M (k + 4) (ix a1)) < (M (k + 4) (ix a2)) → Q 1 M))) ∧ (¬ (M (k + 3) (ix a2)) ≤ (M (k + 3) (ix a1)) → Q 0 M)))
set_option maxHeartbeats 4000000 in
set_option maxRecDepth 20000 in
theorem c_Bench_isHeldBy {l : Launch} {w : zWd} {k : Nat} {a1 : Int32} {a2 : Int32} {M : zMem} {post : Int32 → zMem → Prop} (h0 : zI_Bench w k) (h : wp_Bench_isHeldBy k a1 a2 M post) : zMi l ⟨"HandToHand$Bench", "isHeldBy", "(II)Z"⟩ prog_2_method_12_code 3 (Option.some .boolean) 0 0 w [.ref (zad w k), .int a1, .int a2] M post := by
  refine zMet (by decide) (Nat.le_of_ble_eq_true rfl) ?_
  intro p e s m below meth c X hr hlk hml hW ls hl
  have hx := X.1
  have hb := X.2.1
  have hl : lv_has ls 3 [(0, .ref (zad w k)), (1, .int a1), (2, .int a2)] := hl
  unfold wp_Bench_isHeldBy at h
  have zMain : ∀ (H : Heap) (locs : List Loc) (ls : Array Slot), zWo w s.heap M H locs → lv_has ls 3 [(0, .ref (zad w k)), (1, .int a1), (2, .int a2)] → W p l e (zRm 0 0) s m ([.ref (zad w k), .int a1, .int a2] : List Value).toArray below meth c H locs 0 0 (MQ below (va_Qi post (zB w) (zA w)) ([.ref (zad w k), .int a1, .int a2] : List Value).toArray s 0 0 (zA w)) (F0 m 0 ls []) := by
    intro H locs ls hW hl
    refine lv_iload_n hx hb dX0_isHeldBy_0 rfl (lv_at hl 2 rfl) ?_
    refine lv_aload_n hx hb dX0_isHeldBy_1 rfl (lv_at hl 0 rfl) ?_
    refine zg_Bench_told X hW h0 zu_160 dX0_isHeldBy_2 ?_
    refine zg_Told_hands X hW (h0.2.2.2.2.2.2.2.2.2.1 _) zu_40 dX0_isHeldBy_5 ?_
    refine lv_icmp_ge (tgt := 35) hx hb dX0_isHeldBy_8 rfl (fun c => ?_) (fun c => ?_)
    · replace h := h.1 c
      refine lv_iconst hx hb dX0_isHeldBy_35 zc_i0 ?_
      exact zretz X hr hlk hW rfl h dX0_isHeldBy_36
    · replace h := h.2 c
      refine lv_aload_n hx hb dX0_isHeldBy_11 rfl (lv_at hl 0 rfl) ?_
      refine zg_Bench_piece X hW h0 zu_179 dX0_isHeldBy_12 ?_
      refine lv_iload_n hx hb dX0_isHeldBy_15 rfl (lv_at hl 2 rfl) ?_
      obtain ⟨g, h⟩ := h
      refine ziald X hW h0.2.2.2.1 g dX0_isHeldBy_16 ?_
      refine lv_if_lt (tgt := 35) hx hb dX0_isHeldBy_17 rfl (fun c => ?_) (fun c => ?_)
      · replace h := h.1 c
        refine lv_iconst hx hb dX0_isHeldBy_35 zc_i0 ?_
        exact zretz X hr hlk hW rfl h dX0_isHeldBy_36
      · replace h := h.2 c
        refine lv_aload_n hx hb dX0_isHeldBy_20 rfl (lv_at hl 0 rfl) ?_
        refine zg_Bench_piece X hW h0 zu_179 dX0_isHeldBy_21 ?_
        refine lv_iload_n hx hb dX0_isHeldBy_24 rfl (lv_at hl 2 rfl) ?_
        obtain ⟨g, h⟩ := h
        refine ziald X hW h0.2.2.2.1 g dX0_isHeldBy_25 ?_
        refine lv_aload_n hx hb dX0_isHeldBy_26 rfl (lv_at hl 0 rfl) ?_
        refine zg_Bench_piece X hW h0 zu_179 dX0_isHeldBy_27 ?_
        refine lv_iload_n hx hb dX0_isHeldBy_30 rfl (lv_at hl 1 rfl) ?_
        obtain ⟨g, h⟩ := h
        refine ziald X hW h0.2.2.2.1 g dX0_isHeldBy_31 ?_
        refine lv_icmp_le (tgt := 37) hx hb dX0_isHeldBy_32 rfl (fun c => ?_) (fun c => ?_)
        · replace h := h.1 c
          refine lv_aload_n hx hb dX0_isHeldBy_37 rfl (lv_at hl 0 rfl) ?_
          refine zg_Bench_piece X hW h0 zu_179 dX0_isHeldBy_38 ?_
          refine lv_iload_n hx hb dX0_isHeldBy_41 rfl (lv_at hl 2 rfl) ?_
          obtain ⟨g, h⟩ := h
          refine ziald X hW h0.2.2.2.1 g dX0_isHeldBy_42 ?_
          refine lv_aload_n hx hb dX0_isHeldBy_43 rfl (lv_at hl 0 rfl) ?_
          refine zg_Bench_piece X hW h0 zu_179 dX0_isHeldBy_44 ?_
          refine lv_iload_n hx hb dX0_isHeldBy_47 rfl (lv_at hl 1 rfl) ?_
          obtain ⟨g, h⟩ := h
          refine ziald X hW h0.2.2.2.1 g dX0_isHeldBy_48 ?_
          refine lv_icmp_lt (tgt := 67) hx hb dX0_isHeldBy_49 rfl (fun c => ?_) (fun c => ?_)
          · replace h := h.1 c
            refine lv_iconst hx hb dX0_isHeldBy_67 zc_i1 ?_
            refine lv_goto (tgt := 72) hx hb dX0_isHeldBy_68 rfl ?_
            exact zretz X hr hlk hW rfl h dX0_isHeldBy_72
          · replace h := h.2 c
            refine lv_aload_n hx hb dX0_isHeldBy_52 rfl (lv_at hl 0 rfl) ?_
            refine zg_Bench_unit X hW h0 zu_181 dX0_isHeldBy_53 ?_
            refine lv_iload_n hx hb dX0_isHeldBy_56 rfl (lv_at hl 2 rfl) ?_
            obtain ⟨g, h⟩ := h
            refine ziald X hW h0.2.2.2.2.1 g dX0_isHeldBy_57 ?_
            refine lv_aload_n hx hb dX0_isHeldBy_58 rfl (lv_at hl 0 rfl) ?_
            refine zg_Bench_unit X hW h0 zu_181 dX0_isHeldBy_59 ?_
            refine lv_iload_n hx hb dX0_isHeldBy_62 rfl (lv_at hl 1 rfl) ?_
            obtain ⟨g, h⟩ := h
            refine ziald X hW h0.2.2.2.2.1 g dX0_isHeldBy_63 ?_
            refine lv_icmp_gt (tgt := 71) hx hb dX0_isHeldBy_64 rfl (fun c => ?_) (fun c => ?_)
            · replace h := h.1 c
              refine lv_iconst hx hb dX0_isHeldBy_71 zc_i0 ?_
              exact zretz X hr hlk hW rfl h dX0_isHeldBy_72
            · replace h := h.2 c
              refine lv_iconst hx hb dX0_isHeldBy_67 zc_i1 ?_
              refine lv_goto (tgt := 72) hx hb dX0_isHeldBy_68 rfl ?_
              exact zretz X hr hlk hW rfl h dX0_isHeldBy_72
        · replace h := h.2 c
          refine lv_iconst hx hb dX0_isHeldBy_35 zc_i0 ?_
          exact zretz X hr hlk hW rfl h dX0_isHeldBy_36
  exact zMain s.heap [] ls hW hl
def wp_Bench_startUnit (k : Nat) (a1 : Int32) (M : zMem) (Q : Int32 → zMem → Prop) : Prop :=
  vp_in a1 5 ∧ wp_Told_mayBegin (ztc (M k 0)) a1 (M (k + 3) (ix a1)) M (fun zr2 zm1 => (zr2 = 0 → Q 0 zm1) ∧ (¬ zr2 = 0 → wp_Bench_isHeldBy k a1 (a1 + 1) zm1 (fun zr4 zm3 => (zr4 = 0 → vp_in a1 5 ∧ ∀ zm5 : zMem, zm5 = zup zm3 (k + 1) (ix a1) 3 → vp_in a1 5 ∧ vp_in a1 5 ∧ vp_in ((a1 * 8) + (zm5 (k + 3) (ix a1))) 40 ∧ wp_Told_ticksOf (ztc (zm5 k 0)) a1 (zm5 (k + 3) (ix a1)) (zm5 (k + 7) (ix ((a1 * 8) + (zm5 (k + 3) (ix a1))))) zm5 (fun zr7 zm6 => vp_in a1 5 ∧ ∀ zm8 : zMem, zm8 = zup zm6 (k + 2) (ix a1) zr7 → Q 1 zm8)) ∧ (¬ zr4 = 0 → Q 0 zm3))))
set_option maxHeartbeats 4000000 in
set_option maxRecDepth 20000 in
theorem c_Bench_startUnit {l : Launch} {w : zWd} {k : Nat} {a1 : Int32} {M : zMem} {post : Int32 → zMem → Prop} (h0 : zI_Bench w k) (h : wp_Bench_startUnit k a1 M post) : zMi l ⟨"HandToHand$Bench", "startUnit", "(I)Z"⟩ prog_2_method_11_code 2 (Option.some .boolean) 1 24 w [.ref (zad w k), .int a1] M post := by
  refine zMet (by decide) (Nat.le_of_ble_eq_true rfl) ?_
  intro p e s m below meth c X hr hlk hml hW ls hl
  have hx := X.1
  have hb := X.2.1
  have hl : lv_has ls 2 [(0, .ref (zad w k)), (1, .int a1)] := hl
  unfold wp_Bench_startUnit at h
  have zMain : ∀ (H : Heap) (locs : List Loc) (ls : Array Slot), zWo w s.heap M H locs → lv_has ls 2 [(0, .ref (zad w k)), (1, .int a1)] → W p l e (zRm 1 24) s m ([.ref (zad w k), .int a1] : List Value).toArray below meth c H locs 0 0 (MQ below (va_Qi post (zB w) (zA w)) ([.ref (zad w k), .int a1] : List Value).toArray s 0 0 (zA w)) (F0 m 0 ls []) := by
    intro H locs ls hW hl
    refine lv_aload_n hx hb dX0_startUnit_0 rfl (lv_at hl 0 rfl) ?_
    refine zg_Bench_told X hW h0 zu_160 dX0_startUnit_1 ?_
    refine lv_iload_n hx hb dX0_startUnit_4 rfl (lv_at hl 1 rfl) ?_
    refine lv_aload_n hx hb dX0_startUnit_5 rfl (lv_at hl 0 rfl) ?_
    refine zg_Bench_piece X hW h0 zu_179 dX0_startUnit_6 ?_
    refine lv_iload_n hx hb dX0_startUnit_9 rfl (lv_at hl 1 rfl) ?_
    obtain ⟨g, h⟩ := h
    refine ziald X hW h0.2.2.2.1 g dX0_startUnit_10 ?_
    refine zcalli (zrunV (As := [.int a1, .int (M (k + 3) (ix a1))]) (rest := []) X hml hl hW (h0.2.2.2.2.2.2.2.2.2.1 _).1 rfl zk_Bench_122 (c_Told_mayBegin (h0.2.2.2.2.2.2.2.2.2.1 _) h) rfl ⟨Nat.le_of_ble_eq_true rfl, Nat.le_of_ble_eq_true rfl⟩ ⟨Nat.le_refl 0, Nat.le_refl 0⟩ rfl (Nat.le_of_ble_eq_true rfl) dX0_startUnit_11) hW (fun zr2 zm1 H locs h hW => ?_)
    refine lv_if_eq (tgt := 28) hx hb dX0_startUnit_14 rfl (fun c => ?_) (fun c => ?_)
    · replace h := h.1 c
      refine lv_iconst hx hb dX0_startUnit_28 zc_i0 ?_
      exact zretz X hr hlk hW rfl h dX0_startUnit_29
    · replace h := h.2 c
      refine lv_aload_n hx hb dX0_startUnit_17 rfl (lv_at hl 0 rfl) ?_
      refine lv_iload_n hx hb dX0_startUnit_18 rfl (lv_at hl 1 rfl) ?_
      refine lv_iload_n hx hb dX0_startUnit_19 rfl (lv_at hl 1 rfl) ?_
      refine lv_iconst hx hb dX0_startUnit_20 zc_i1 ?_
      refine lv_iadd hx hb dX0_startUnit_21 ?_
      refine zcalli (zrunV (As := [.int a1, .int (a1 + 1)]) (rest := []) X hml hl hW h0.1 rfl zk_Bench_126 (c_Bench_isHeldBy h0 h) rfl ⟨Nat.le_of_ble_eq_true rfl, Nat.le_of_ble_eq_true rfl⟩ ⟨Nat.le_refl 0, Nat.le_refl 0⟩ rfl (Nat.le_of_ble_eq_true rfl) dX0_startUnit_22) hW (fun zr4 zm3 H locs h hW => ?_)
      refine lv_if_eq (tgt := 30) hx hb dX0_startUnit_25 rfl (fun c => ?_) (fun c => ?_)
      · replace h := h.1 c
        refine lv_aload_n hx hb dX0_startUnit_30 rfl (lv_at hl 0 rfl) ?_
        refine zg_Bench_doing X hW h0 zu_175 dX0_startUnit_31 ?_
        refine lv_iload_n hx hb dX0_startUnit_34 rfl (lv_at hl 1 rfl) ?_
        refine lv_iconst hx hb dX0_startUnit_35 zc_i3 ?_
        obtain ⟨g, h⟩ := h
        refine ziast X hW h0.2.1 g dX0_startUnit_36 (fun H locs zm5 ezm5 hW => ?_)
        replace h := h zm5 ezm5
        refine lv_aload_n hx hb dX0_startUnit_37 rfl (lv_at hl 0 rfl) ?_
        refine zg_Bench_left X hW h0 zu_177 dX0_startUnit_38 ?_
        refine lv_iload_n hx hb dX0_startUnit_41 rfl (lv_at hl 1 rfl) ?_
        refine lv_aload_n hx hb dX0_startUnit_42 rfl (lv_at hl 0 rfl) ?_
        refine zg_Bench_told X hW h0 zu_160 dX0_startUnit_43 ?_
        refine lv_iload_n hx hb dX0_startUnit_46 rfl (lv_at hl 1 rfl) ?_
        refine lv_aload_n hx hb dX0_startUnit_47 rfl (lv_at hl 0 rfl) ?_
        refine zg_Bench_piece X hW h0 zu_179 dX0_startUnit_48 ?_
        refine lv_iload_n hx hb dX0_startUnit_51 rfl (lv_at hl 1 rfl) ?_
        obtain ⟨g, h⟩ := h
        refine ziald X hW h0.2.2.2.1 g dX0_startUnit_52 ?_
        refine lv_aload_n hx hb dX0_startUnit_53 rfl (lv_at hl 0 rfl) ?_
        refine zg_Bench_learned X hW h0 zu_187 dX0_startUnit_54 ?_
        refine lv_iload_n hx hb dX0_startUnit_57 rfl (lv_at hl 1 rfl) ?_
        refine lv_bipush hx hb dX0_startUnit_58 zc_b8 ?_
        refine lv_imul hx hb dX0_startUnit_60 ?_
        refine lv_aload_n hx hb dX0_startUnit_61 rfl (lv_at hl 0 rfl) ?_
        refine zg_Bench_piece X hW h0 zu_179 dX0_startUnit_62 ?_
        refine lv_iload_n hx hb dX0_startUnit_65 rfl (lv_at hl 1 rfl) ?_
        obtain ⟨g, h⟩ := h
        refine ziald X hW h0.2.2.2.1 g dX0_startUnit_66 ?_
        refine lv_iadd hx hb dX0_startUnit_67 ?_
        obtain ⟨g, h⟩ := h
        refine ziald X hW h0.2.2.2.2.2.2.2.1 g dX0_startUnit_68 ?_
        refine zcalli (zrunV (As := [.int a1, .int (zm5 (k + 3) (ix a1)), .int (zm5 (k + 7) (ix ((a1 * 8) + (zm5 (k + 3) (ix a1)))))]) (rest := [.int a1, .ref (zad w (k + 2))]) X hml hl hW (h0.2.2.2.2.2.2.2.2.2.1 _).1 rfl zk_Bench_129 (c_Told_ticksOf (h0.2.2.2.2.2.2.2.2.2.1 _) h) rfl ⟨Nat.le_of_ble_eq_true rfl, Nat.le_of_ble_eq_true rfl⟩ ⟨Nat.le_refl 0, Nat.le_refl 0⟩ rfl (Nat.le_of_ble_eq_true rfl) dX0_startUnit_69) hW (fun zr7 zm6 H locs h hW => ?_)
        obtain ⟨g, h⟩ := h
        refine ziast X hW h0.2.2.1 g dX0_startUnit_72 (fun H locs zm8 ezm8 hW => ?_)
        replace h := h zm8 ezm8
        refine lv_iconst hx hb dX0_startUnit_73 zc_i1 ?_
        exact zretz X hr hlk hW rfl h dX0_startUnit_74
      · replace h := h.2 c
        refine lv_iconst hx hb dX0_startUnit_28 zc_i0 ?_
        exact zretz X hr hlk hW rfl h dX0_startUnit_29
  exact zMain s.heap [] ls hW hl
