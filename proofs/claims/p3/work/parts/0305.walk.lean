def wpB_Settling_earlierAlike_20 (k : Nat) (x_1 : Int32) (x_2 : Int32) (K54 : Int32 → zMem → Prop) (Q : Int32 → zMem → Prop) (J : Int32 → zMem → Prop) (x_3 : Int32) (M : zMem) : Prop :=
  (46 ≤ x_3 → K54 x_3 M) ∧ (¬ 46 ≤ x_3 → vp_in ((x_2 * 46) + x_3) 5520 ∧ vp_in (x_1 + x_3) 5520 ∧ (¬ (M (k + 1) (ix ((x_2 * 46) + x_3))) = (M (k + 1) (ix (x_1 + x_3))) → K54 x_3 M) ∧ ((M (k + 1) (ix ((x_2 * 46) + x_3))) = (M (k + 1) (ix (x_1 + x_3))) → ∀ zx2 : Int32, zx2 = x_3 + 1 → J zx2 M))
def wpB_Settling_earlierAlike_10 (k : Nat) (x_1 : Int32)  (Q : Int32 → zMem → Prop) (J : Int32 → zMem → Prop) (x_2 : Int32) (M : zMem) : Prop :=
  ((M k 1) ≤ x_2 → Q ((-1)) M) ∧ (¬ (M k 1) ≤ x_2 → ∃ n : Nat, zlp1 (wpB_Settling_earlierAlike_20 k x_1 x_2 (fun (zx4 : Int32) (zm3 : zMem) => (¬ zx4 = 46 → ∀ zx5 : Int32, zx5 = x_2 + 1 → J zx5 zm3) ∧ (zx4 = 46 → Q x_2 zm3)) Q) n 0 M)
def wp_Settling_earlierAlike (k : Nat) (M : zMem) (Q : Int32 → zMem → Prop) : Prop :=
  ∀ zx1 : Int32, zx1 = (M k 1) * 46 → ∃ n : Nat, zlp1 (wpB_Settling_earlierAlike_10 k zx1  Q) n 0 M
set_option maxHeartbeats 4000000 in
set_option maxRecDepth 20000 in
theorem c_Settling_earlierAlike {l : Launch} {w : zWd} {k : Nat} {M : zMem} {post : Int32 → zMem → Prop} (h0 : zI_Settling w k) (h : wp_Settling_earlierAlike k M post) : zMi l ⟨"HandToHand$Settling", "earlierAlike", "()I"⟩ prog_9_method_5_code 4 (Option.some .int) 0 0 w [.ref (zad w k)] M post := by
  refine zMet (by decide) (Nat.le_of_ble_eq_true rfl) ?_
  intro p e s m below meth c X hr hlk hml hW ls hl
  have hx := X.1
  have hb := X.2.1
  have hl : lv_has ls 4 [(0, .ref (zad w k))] := hl
  have zL_20 : ∀ (x_1 : Int32) (x_2 : Int32) (K54 : Int32 → zMem → Prop) (zK54 : ∀ (y_3 : Int32) (M : zMem) (H : Heap) (locs : List Loc) (ls : Array Slot), zWo w s.heap M H locs → lv_has ls 4 [(0, .ref (zad w k)), (1, .int x_1), (2, .int x_2), (3, .int y_3)] → K54 y_3 M → W p l e (zRm 0 0) s m ([.ref (zad w k)] : List Value).toArray below meth c H locs 0 0 (MQ below (va_Qi post (zB w) (zA w)) ([.ref (zad w k)] : List Value).toArray s 0 0 (zA w)) (F0 m 54 ls [])), ∀ (n : Nat) (x_3 : Int32) (M : zMem) (H : Heap) (locs : List Loc) (ls : Array Slot), zWo w s.heap M H locs → lv_has ls 4 [(0, .ref (zad w k)), (1, .int x_1), (2, .int x_2), (3, .int x_3)] → zlp1 (wpB_Settling_earlierAlike_20 k x_1 x_2 K54 post) n x_3 M → W p l e (zRm 0 0) s m ([.ref (zad w k)] : List Value).toArray below meth c H locs 0 0 (MQ below (va_Qi post (zB w) (zA w)) ([.ref (zad w k)] : List Value).toArray s 0 0 (zA w)) (F0 m 20 ls []) := by
    intro x_1 x_2 K54 zK54 n
    induction n with
    | zero => intro x_3 M H locs ls hW hl h; exact h.elim
    | succ n zJ =>
      intro x_3 M H locs ls hW hl h
      have h : wpB_Settling_earlierAlike_20 k x_1 x_2 K54 post (zlp1 (wpB_Settling_earlierAlike_20 k x_1 x_2 K54 post) n) x_3 M := h
      unfold wpB_Settling_earlierAlike_20 at h
      refine lv_iload_n hx hb dX7_earlierAlike_20 rfl (lv_at hl 3 rfl) ?_
      refine lv_bipush hx hb dX7_earlierAlike_21 zc_b46 ?_
      refine lv_icmp_ge (tgt := 54) hx hb dX7_earlierAlike_23 rfl (fun c => ?_) (fun c => ?_)
      · replace h := h.1 c
        exact zK54 x_3 M H locs ls hW (lv_sub hl [0, 1, 2, 3] rfl) h
      · replace h := h.2 c
        refine lv_aload_n hx hb dX7_earlierAlike_26 rfl (lv_at hl 0 rfl) ?_
        refine zg_Settling_rows X hW h0 zu_272 dX7_earlierAlike_27 ?_
        refine lv_iload_n hx hb dX7_earlierAlike_30 rfl (lv_at hl 2 rfl) ?_
        refine lv_bipush hx hb dX7_earlierAlike_31 zc_b46 ?_
        refine lv_imul hx hb dX7_earlierAlike_33 ?_
        refine lv_iload_n hx hb dX7_earlierAlike_34 rfl (lv_at hl 3 rfl) ?_
        refine lv_iadd hx hb dX7_earlierAlike_35 ?_
        obtain ⟨g, h⟩ := h
        refine ziald X hW h0.2.1 g dX7_earlierAlike_36 ?_
        refine lv_aload_n hx hb dX7_earlierAlike_37 rfl (lv_at hl 0 rfl) ?_
        refine zg_Settling_rows X hW h0 zu_272 dX7_earlierAlike_38 ?_
        refine lv_iload_n hx hb dX7_earlierAlike_41 rfl (lv_at hl 1 rfl) ?_
        refine lv_iload_n hx hb dX7_earlierAlike_42 rfl (lv_at hl 3 rfl) ?_
        refine lv_iadd hx hb dX7_earlierAlike_43 ?_
        obtain ⟨g, h⟩ := h
        refine ziald X hW h0.2.1 g dX7_earlierAlike_44 ?_
        refine lv_icmp_ne (tgt := 54) hx hb dX7_earlierAlike_45 rfl (fun c => ?_) (fun c => ?_)
        · replace h := h.1 c
          exact zK54 x_3 M H locs ls hW (lv_sub hl [0, 1, 2, 3] rfl) h
        · replace h := h.2 c
          obtain ⟨zx2, ezx2⟩ : ∃ y : Int32, y = x_3 + 1 := ⟨_, rfl⟩
          replace h := h zx2 ezx2
          refine lv_iinc (v := zx2) (lv' := [(3, .int zx2), (0, .ref (zad w k)), (1, .int x_1), (2, .int x_2)]) hx hb dX7_earlierAlike_48 hl (k := 3) rfl (by rw [ezx2, zc_i1]) (Nat.le_of_ble_eq_true rfl) rfl (fun ls hl => ?_)
          refine lv_goto (tgt := 20) hx hb dX7_earlierAlike_51 rfl ?_
          exact zJ zx2 M H locs ls hW (lv_sub hl [1, 2, 3, 0] rfl) h
  have zL_10 : ∀ (x_1 : Int32), ∀ (n : Nat) (x_2 : Int32) (M : zMem) (H : Heap) (locs : List Loc) (ls : Array Slot), zWo w s.heap M H locs → lv_has ls 4 [(0, .ref (zad w k)), (1, .int x_1), (2, .int x_2)] → zlp1 (wpB_Settling_earlierAlike_10 k x_1  post) n x_2 M → W p l e (zRm 0 0) s m ([.ref (zad w k)] : List Value).toArray below meth c H locs 0 0 (MQ below (va_Qi post (zB w) (zA w)) ([.ref (zad w k)] : List Value).toArray s 0 0 (zA w)) (F0 m 10 ls []) := by
    intro x_1 n
    induction n with
    | zero => intro x_2 M H locs ls hW hl h; exact h.elim
    | succ n zJ =>
      intro x_2 M H locs ls hW hl h
      have h : wpB_Settling_earlierAlike_10 k x_1  post (zlp1 (wpB_Settling_earlierAlike_10 k x_1  post) n) x_2 M := h
      unfold wpB_Settling_earlierAlike_10 at h
      refine lv_iload_n hx hb dX7_earlierAlike_10 rfl (lv_at hl 2 rfl) ?_
      refine lv_aload_n hx hb dX7_earlierAlike_11 rfl (lv_at hl 0 rfl) ?_
      refine zg_Settling_records X hW h0 zu_271 dX7_earlierAlike_12 ?_
      refine lv_icmp_ge (tgt := 68) hx hb dX7_earlierAlike_15 rfl (fun c => ?_) (fun c => ?_)
      · replace h := h.1 c
        refine lv_iconst hx hb dX7_earlierAlike_68 zc_im1 ?_
        exact zreti X hr hlk hW h dX7_earlierAlike_69
      · replace h := h.2 c
        refine lv_iconst hx hb dX7_earlierAlike_18 zc_i0 ?_
        refine lv_istore_n (lv' := [(3, .int 0), (0, .ref (zad w k)), (1, .int x_1), (2, .int x_2)]) hx hb dX7_earlierAlike_19 rfl hl (Nat.le_of_ble_eq_true rfl) rfl (fun ls hl => ?_)
        obtain ⟨n, h⟩ := h
        refine zL_20 x_1 x_2 _ (fun zx4 zm3 H locs ls hW hl h => ?_) n 0 M H locs ls hW (lv_sub hl [1, 2, 3, 0] rfl) h
        · skip
          refine lv_iload_n hx hb dX7_earlierAlike_54 rfl (lv_at hl 3 rfl) ?_
          refine lv_bipush hx hb dX7_earlierAlike_55 zc_b46 ?_
          refine lv_icmp_ne (tgt := 62) hx hb dX7_earlierAlike_57 rfl (fun c => ?_) (fun c => ?_)
          · replace h := h.1 c
            obtain ⟨zx5, ezx5⟩ : ∃ y : Int32, y = x_2 + 1 := ⟨_, rfl⟩
            replace h := h zx5 ezx5
            refine lv_iinc (v := zx5) (lv' := [(2, .int zx5), (0, .ref (zad w k)), (1, .int x_1), (3, .int zx4)]) hx hb dX7_earlierAlike_62 hl (k := 2) rfl (by rw [ezx5, zc_i1]) (Nat.le_of_ble_eq_true rfl) rfl (fun ls hl => ?_)
            refine lv_goto (tgt := 10) hx hb dX7_earlierAlike_65 rfl ?_
            exact zJ zx5 zm3 H locs ls hW (lv_sub hl [1, 2, 0] rfl) h
          · replace h := h.2 c
            refine lv_iload_n hx hb dX7_earlierAlike_60 rfl (lv_at hl 2 rfl) ?_
            exact zreti X hr hlk hW h dX7_earlierAlike_61
  unfold wp_Settling_earlierAlike at h
  have zMain : ∀ (H : Heap) (locs : List Loc) (ls : Array Slot), zWo w s.heap M H locs → lv_has ls 4 [(0, .ref (zad w k))] → W p l e (zRm 0 0) s m ([.ref (zad w k)] : List Value).toArray below meth c H locs 0 0 (MQ below (va_Qi post (zB w) (zA w)) ([.ref (zad w k)] : List Value).toArray s 0 0 (zA w)) (F0 m 0 ls []) := by
    intro H locs ls hW hl
    refine lv_aload_n hx hb dX7_earlierAlike_0 rfl (lv_at hl 0 rfl) ?_
    refine zg_Settling_records X hW h0 zu_271 dX7_earlierAlike_1 ?_
    refine lv_bipush hx hb dX7_earlierAlike_4 zc_b46 ?_
    refine lv_imul hx hb dX7_earlierAlike_6 ?_
    refine lv_topi (fun zx1 ezx1 => ?_)
    replace h := h zx1 ezx1
    refine lv_istore_n (lv' := [(1, .int zx1), (0, .ref (zad w k))]) hx hb dX7_earlierAlike_7 rfl hl (Nat.le_of_ble_eq_true rfl) rfl (fun ls hl => ?_)
    refine lv_iconst hx hb dX7_earlierAlike_8 zc_i0 ?_
    refine lv_istore_n (lv' := [(2, .int 0), (1, .int zx1), (0, .ref (zad w k))]) hx hb dX7_earlierAlike_9 rfl hl (Nat.le_of_ble_eq_true rfl) rfl (fun ls hl => ?_)
    obtain ⟨n, h⟩ := h
    refine zL_10 zx1  n 0 M H locs ls hW (lv_sub hl [2, 1, 0] rfl) h
  exact zMain s.heap [] ls hW hl
def wpJ_Settling_settle_165 (k : Nat) (t1 : Nat) (t2 : Nat)  (J : Int32 → Int32 → zMem → Prop) (Q : zMem → Prop) (x_4 : Int32)  (M : zMem) : Prop :=
  ∀ zm26 : zMem, zm26 = zup M k 1 ((M k 1) + 1) → wp_Bench_leastLeft (k + 4) zm26 (fun zr28 zm27 => ∀ zx29 : Int32, zx29 = x_4 + 1 → J zr28 zx29 zm27)
def wpB_Settling_settle_42 (k : Nat) (t1 : Nat) (t2 : Nat)   (Q : zMem → Prop) (J : Int32 → Int32 → zMem → Prop) (x_3 : Int32) (x_4 : Int32) (M : zMem) : Prop :=
  (1000000 ≤ x_4 → Q M) ∧ (¬ 1000000 ≤ x_4 → (x_3 ≤ 0 → Q M) ∧ (¬ x_3 ≤ 0 → (120 ≤ (M (k + 4) 3) → Q M) ∧ (¬ 120 ≤ (M (k + 4) 3) → (¬ (M t2 1) = 0 → Q M) ∧ ((M t2 1) = 0 → ∀ zx11 : Int32, zx11 = M (k + 4) 3 → wp_Bench_letPass (k + 4) x_3 M (fun zm12 => wp_Bench_doAll (k + 4) zm12 (fun zm14 => ((zm14 (k + 4) 3) ≤ zx11 → wp_Bench_leastLeft (k + 4) zm14 (fun zr17 zm16 => ∀ zx18 : Int32, zx18 = x_4 + 1 → J zr17 zx18 zm16)) ∧ (¬ (zm14 (k + 4) 3) ≤ zx11 → (120 ≤ (zm14 k 1) → wp_Bench_leastLeft (k + 4) zm14 (fun zr20 zm19 => ∀ zx21 : Int32, zx21 = x_4 + 1 → J zr20 zx21 zm19)) ∧ (¬ 120 ≤ (zm14 k 1) → wp_Settling_writeDown k t1 zm14 (fun zm22 => wp_Settling_earlierAlike k zm22 (fun zr25 zm24 => (zr25 < 0 → wpJ_Settling_settle_165 k t1 t2 J Q x_4 zm24) ∧ (¬ zr25 < 0 → vp_in zr25 120 ∧ vp_in zr25 120 ∧ wp_Ring_close t2 (zm24 (k + 2) (ix zr25)) (zm24 (k + 3) (ix zr25)) (zm24 (k + 4) 3) (zm24 (k + 4) 2) zm24 (fun zm30 => wpJ_Settling_settle_165 k t1 t2 J Q x_4 zm30))))))))))))
def wp_Settling_settle (k : Nat) (t1 : Nat) (t2 : Nat) (M : zMem) (Q : zMem → Prop) : Prop :=
  wp_Ring_lose t2 M (fun zm1 => ∀ zm3 : zMem, zm3 = zup zm1 k 1 0 → (t1 = 1 ∨ t1 = 6) ∧ ∀ zm4 : zMem, zm4 = zup zm3 (k + 4) 0 (zcd t1) → wp_Bench_clear (k + 4) zm4 (fun zm5 => wp_Bench_doAll (k + 4) zm5 (fun zm7 => wp_Bench_leastLeft (k + 4) zm7 (fun zr10 zm9 => ∃ n : Nat, zlp2 (wpB_Settling_settle_42 k t1 t2   Q) n zr10 0 zm9))))
set_option maxHeartbeats 4000000 in
set_option maxRecDepth 20000 in
theorem c_Settling_settle {l : Launch} {w : zWd} {k : Nat} {t1 : Nat} {t2 : Nat} {M : zMem} {post : zMem → Prop} (h0 : zI_Settling w k) (h1 : zI_Told w t1) (h2 : zI_Ring w t2) (h : wp_Settling_settle k t1 t2 M post) : zMv l ⟨"HandToHand$Settling", "settle", "(LHandToHand$Told;LHandToHand$Ring;)V"⟩ prog_9_method_2_code 7 none 4 92 w [.ref (zad w k), .ref (zad w t1), .ref (zad w t2)] M post := by
  refine zMet (by decide) (Nat.le_of_ble_eq_true rfl) ?_
  intro p e s m below meth c X hr hlk hml hW ls hl
  have hx := X.1
  have hb := X.2.1
  have hl : lv_has ls 7 [(0, .ref (zad w k)), (1, .ref (zad w t1)), (2, .ref (zad w t2))] := hl
  have zJ_165 : ∀ (x_4 : Int32) (J : Int32 → Int32 → zMem → Prop) (zJ : ∀ (y_3 : Int32) (y_4 : Int32) (M : zMem) (H : Heap) (locs : List Loc) (ls : Array Slot), zWo w s.heap M H locs → lv_has ls 7 [(0, .ref (zad w k)), (1, .ref (zad w t1)), (2, .ref (zad w t2)), (3, .int y_3), (4, .int y_4)] → J y_3 y_4 M → W p l e (zRm 4 92) s m ([.ref (zad w k), .ref (zad w t1), .ref (zad w t2)] : List Value).toArray below meth c H locs 0 0 (MQ below (va_Qv post (zB w) (zA w)) ([.ref (zad w k), .ref (zad w t1), .ref (zad w t2)] : List Value).toArray s 0 0 (zA w)) (F0 m 42 ls [])) (M : zMem) (H : Heap) (locs : List Loc) (ls : Array Slot), zWo w s.heap M H locs → lv_has ls 7 [(0, .ref (zad w k)), (1, .ref (zad w t1)), (2, .ref (zad w t2)), (4, .int x_4)] → wpJ_Settling_settle_165 k t1 t2 J post x_4 M → W p l e (zRm 4 92) s m ([.ref (zad w k), .ref (zad w t1), .ref (zad w t2)] : List Value).toArray below meth c H locs 0 0 (MQ below (va_Qv post (zB w) (zA w)) ([.ref (zad w k), .ref (zad w t1), .ref (zad w t2)] : List Value).toArray s 0 0 (zA w)) (F0 m 165 ls []) := by
    intro x_4 J zJ M H locs ls hW hl h
    unfold wpJ_Settling_settle_165 at h
    refine lv_aload_n hx hb dX7_settle_165 rfl (lv_at hl 0 rfl) ?_
    refine lv_dup hx hb dX7_settle_166 rfl ?_
    refine zg_Settling_records X hW h0 zu_271 dX7_settle_167 ?_
    refine lv_iconst hx hb dX7_settle_170 zc_i1 ?_
    refine lv_iadd hx hb dX7_settle_171 ?_
    refine zp_Settling_records X hW h0 zu_271 dX7_settle_172 (fun H locs zm26 ezm26 hW => ?_)
    replace h := h zm26 ezm26
    refine lv_aload_n hx hb dX7_settle_175 rfl (lv_at hl 0 rfl) ?_
    refine zg_Settling_bench X hW h0 zu_270 dX7_settle_176 ?_
    refine zcalli (zrunV (As := []) (rest := []) X hml hl hW h0.2.2.2.2.1 rfl zk_Settling_49 (c_Bench_leastLeft h0.2.2.2.2 h) rfl ⟨Nat.le_of_ble_eq_true rfl, Nat.le_of_ble_eq_true rfl⟩ ⟨Nat.le_refl 0, Nat.le_refl 0⟩ rfl (Nat.le_of_ble_eq_true rfl) dX7_settle_179) hW (fun zr28 zm27 H locs h hW => ?_)
    refine lv_istore_n (lv' := [(3, .int zr28), (0, .ref (zad w k)), (1, .ref (zad w t1)), (2, .ref (zad w t2)), (4, .int x_4)]) hx hb dX7_settle_182 rfl hl (Nat.le_of_ble_eq_true rfl) rfl (fun ls hl => ?_)
    obtain ⟨zx29, ezx29⟩ : ∃ y : Int32, y = x_4 + 1 := ⟨_, rfl⟩
    replace h := h zx29 ezx29
    refine lv_iinc (v := zx29) (lv' := [(4, .int zx29), (3, .int zr28), (0, .ref (zad w k)), (1, .ref (zad w t1)), (2, .ref (zad w t2))]) hx hb dX7_settle_183 hl (k := 4) rfl (by rw [ezx29, zc_i1]) (Nat.le_of_ble_eq_true rfl) rfl (fun ls hl => ?_)
    refine lv_goto (tgt := 42) hx hb dX7_settle_186 rfl ?_
    exact zJ zr28 zx29 zm27 H locs ls hW (lv_sub hl [2, 3, 4, 1, 0] rfl) h
  have zL_42 :  ∀ (n : Nat) (x_3 : Int32) (x_4 : Int32) (M : zMem) (H : Heap) (locs : List Loc) (ls : Array Slot), zWo w s.heap M H locs → lv_has ls 7 [(0, .ref (zad w k)), (1, .ref (zad w t1)), (2, .ref (zad w t2)), (3, .int x_3), (4, .int x_4)] → zlp2 (wpB_Settling_settle_42 k t1 t2   post) n x_3 x_4 M → W p l e (zRm 4 92) s m ([.ref (zad w k), .ref (zad w t1), .ref (zad w t2)] : List Value).toArray below meth c H locs 0 0 (MQ below (va_Qv post (zB w) (zA w)) ([.ref (zad w k), .ref (zad w t1), .ref (zad w t2)] : List Value).toArray s 0 0 (zA w)) (F0 m 42 ls []) := by
    intro n
    induction n with
    | zero => intro x_3 x_4 M H locs ls hW hl h; exact h.elim
    | succ n zJ =>
      intro x_3 x_4 M H locs ls hW hl h
      have h : wpB_Settling_settle_42 k t1 t2   post (zlp2 (wpB_Settling_settle_42 k t1 t2   post) n) x_3 x_4 M := h
      unfold wpB_Settling_settle_42 at h
      refine lv_iload hx hb dX7_settle_42 (lv_at hl 4 rfl) ?_
      refine lv_ldc hx hb X.2.2.1 (X.2.2.2.1 _ zu_841) dX7_settle_44 ?_
      refine lv_icmp_ge (tgt := 189) hx hb dX7_settle_46 rfl (fun c => ?_) (fun c => ?_)
      · replace h := h.1 c
        exact zretv X hr hlk hW h dX7_settle_189
      · replace h := h.2 c
        refine lv_iload_n hx hb dX7_settle_49 rfl (lv_at hl 3 rfl) ?_
        refine lv_if_le (tgt := 189) hx hb dX7_settle_50 rfl (fun c => ?_) (fun c => ?_)
        · replace h := h.1 c
          exact zretv X hr hlk hW h dX7_settle_189
        · replace h := h.2 c
          refine lv_aload_n hx hb dX7_settle_53 rfl (lv_at hl 0 rfl) ?_
          refine zg_Settling_bench X hW h0 zu_270 dX7_settle_54 ?_
          refine zg_Bench_done X hW h0.2.2.2.2 zu_168 dX7_settle_57 ?_
          refine lv_bipush hx hb dX7_settle_60 zc_b120 ?_
          refine lv_icmp_ge (tgt := 189) hx hb dX7_settle_62 rfl (fun c => ?_) (fun c => ?_)
          · replace h := h.1 c
            exact zretv X hr hlk hW h dX7_settle_189
          · replace h := h.2 c
            refine lv_aload_n hx hb dX7_settle_65 rfl (lv_at hl 2 rfl) ?_
            refine zg_Ring_found X hW h2 zu_295 dX7_settle_66 ?_
            refine lv_if_ne (tgt := 189) hx hb dX7_settle_69 rfl (fun c => ?_) (fun c => ?_)
            · replace h := h.1 c
              exact zretv X hr hlk hW h dX7_settle_189
            · replace h := h.2 c
              refine lv_aload_n hx hb dX7_settle_72 rfl (lv_at hl 0 rfl) ?_
              refine zg_Settling_bench X hW h0 zu_270 dX7_settle_73 ?_
              refine zg_Bench_done X hW h0.2.2.2.2 zu_168 dX7_settle_76 ?_
              refine lv_topi (fun zx11 ezx11 => ?_)
              replace h := h zx11 ezx11
              refine lv_istore (lv' := [(5, .int zx11), (0, .ref (zad w k)), (1, .ref (zad w t1)), (2, .ref (zad w t2)), (3, .int x_3), (4, .int x_4)]) hx hb dX7_settle_79 hl (Nat.le_of_ble_eq_true rfl) rfl (fun ls hl => ?_)
              refine lv_aload_n hx hb dX7_settle_81 rfl (lv_at hl 1 rfl) ?_
              refine zg_Settling_bench X hW h0 zu_270 dX7_settle_82 ?_
              refine lv_iload_n hx hb dX7_settle_85 rfl (lv_at hl 4 rfl) ?_
              refine zcallv (zrunV (As := [.int x_3]) (rest := []) X hml hl hW h0.2.2.2.2.1 rfl zk_Settling_61 (c_Bench_letPass h0.2.2.2.2 h) rfl ⟨Nat.le_of_ble_eq_true rfl, Nat.le_of_ble_eq_true rfl⟩ ⟨Nat.le_refl 0, Nat.le_refl 0⟩ rfl (Nat.le_of_ble_eq_true rfl) dX7_settle_86) hW (fun zm12 H locs h hW => ?_)
              refine lv_aload_n hx hb dX7_settle_89 rfl (lv_at hl 1 rfl) ?_
              refine zg_Settling_bench X hW h0 zu_270 dX7_settle_90 ?_
              refine zcallv (zrunV (As := []) (rest := []) X hml hl hW h0.2.2.2.2.1 rfl zk_Settling_46 (c_Bench_doAll h0.2.2.2.2 h) rfl ⟨Nat.le_of_ble_eq_true rfl, Nat.le_of_ble_eq_true rfl⟩ ⟨Nat.le_refl 0, Nat.le_refl 0⟩ rfl (Nat.le_of_ble_eq_true rfl) dX7_settle_93) hW (fun zm14 H locs h hW => ?_)
              refine lv_aload_n hx hb dX7_settle_96 rfl (lv_at hl 1 rfl) ?_
              refine zg_Settling_bench X hW h0 zu_270 dX7_settle_97 ?_
              refine zg_Bench_done X hW h0.2.2.2.2 zu_168 dX7_settle_100 ?_
              refine lv_iload hx hb dX7_settle_103 (lv_at hl 0 rfl) ?_
              refine lv_icmp_le (tgt := 175) hx hb dX7_settle_105 rfl (fun c => ?_) (fun c => ?_)
              · replace h := h.1 c
                refine lv_aload_n hx hb dX7_settle_175 rfl (lv_at hl 1 rfl) ?_
                refine zg_Settling_bench X hW h0 zu_270 dX7_settle_176 ?_
                refine zcalli (zrunV (As := []) (rest := []) X hml hl hW h0.2.2.2.2.1 rfl zk_Settling_49 (c_Bench_leastLeft h0.2.2.2.2 h) rfl ⟨Nat.le_of_ble_eq_true rfl, Nat.le_of_ble_eq_true rfl⟩ ⟨Nat.le_refl 0, Nat.le_refl 0⟩ rfl (Nat.le_of_ble_eq_true rfl) dX7_settle_179) hW (fun zr17 zm16 H locs h hW => ?_)
                refine lv_istore_n (lv' := [(3, .int zr17), (5, .int zx11), (0, .ref (zad w k)), (1, .ref (zad w t1)), (2, .ref (zad w t2)), (4, .int x_4)]) hx hb dX7_settle_182 rfl hl (Nat.le_of_ble_eq_true rfl) rfl (fun ls hl => ?_)
                obtain ⟨zx18, ezx18⟩ : ∃ y : Int32, y = x_4 + 1 := ⟨_, rfl⟩
                replace h := h zx18 ezx18
                refine lv_iinc (v := zx18) (lv' := [(4, .int zx18), (3, .int zr17), (5, .int zx11), (0, .ref (zad w k)), (1, .ref (zad w t1)), (2, .ref (zad w t2))]) hx hb dX7_settle_183 hl (k := 5) rfl (by rw [ezx18, zc_i1]) (Nat.le_of_ble_eq_true rfl) rfl (fun ls hl => ?_)
                refine lv_goto (tgt := 42) hx hb dX7_settle_186 rfl ?_
                exact zJ zr17 zx18 zm16 H locs ls hW (lv_sub hl [3, 4, 5, 1, 0] rfl) h
              · replace h := h.2 c
                refine lv_aload_n hx hb dX7_settle_108 rfl (lv_at hl 1 rfl) ?_
                refine zg_Settling_records X hW h0 zu_271 dX7_settle_109 ?_
                refine lv_bipush hx hb dX7_settle_112 zc_b120 ?_
                refine lv_icmp_ge (tgt := 175) hx hb dX7_settle_114 rfl (fun c => ?_) (fun c => ?_)
                · replace h := h.1 c
                  refine lv_aload_n hx hb dX7_settle_175 rfl (lv_at hl 1 rfl) ?_
                  refine zg_Settling_bench X hW h0 zu_270 dX7_settle_176 ?_
                  refine zcalli (zrunV (As := []) (rest := []) X hml hl hW h0.2.2.2.2.1 rfl zk_Settling_49 (c_Bench_leastLeft h0.2.2.2.2 h) rfl ⟨Nat.le_of_ble_eq_true rfl, Nat.le_of_ble_eq_true rfl⟩ ⟨Nat.le_refl 0, Nat.le_refl 0⟩ rfl (Nat.le_of_ble_eq_true rfl) dX7_settle_179) hW (fun zr20 zm19 H locs h hW => ?_)
                  refine lv_istore_n (lv' := [(3, .int zr20), (5, .int zx11), (0, .ref (zad w k)), (1, .ref (zad w t1)), (2, .ref (zad w t2)), (4, .int x_4)]) hx hb dX7_settle_182 rfl hl (Nat.le_of_ble_eq_true rfl) rfl (fun ls hl => ?_)
                  obtain ⟨zx21, ezx21⟩ : ∃ y : Int32, y = x_4 + 1 := ⟨_, rfl⟩
                  replace h := h zx21 ezx21
                  refine lv_iinc (v := zx21) (lv' := [(4, .int zx21), (3, .int zr20), (5, .int zx11), (0, .ref (zad w k)), (1, .ref (zad w t1)), (2, .ref (zad w t2))]) hx hb dX7_settle_183 hl (k := 5) rfl (by rw [ezx21, zc_i1]) (Nat.le_of_ble_eq_true rfl) rfl (fun ls hl => ?_)
                  refine lv_goto (tgt := 42) hx hb dX7_settle_186 rfl ?_
                  exact zJ zr20 zx21 zm19 H locs ls hW (lv_sub hl [3, 4, 5, 1, 0] rfl) h
                · replace h := h.2 c
                  refine lv_aload_n hx hb dX7_settle_117 rfl (lv_at hl 1 rfl) ?_
                  refine lv_aload_n hx hb dX7_settle_118 rfl (lv_at hl 2 rfl) ?_
                  refine zcallv (zrunV (As := [.ref (zad w t1)]) (rest := []) X hml hl hW h0.1 rfl zk_Settling_65 (c_Settling_writeDown h0 h1 h) rfl ⟨Nat.le_of_ble_eq_true rfl, Nat.le_of_ble_eq_true rfl⟩ ⟨Nat.le_refl 0, Nat.le_refl 0⟩ rfl (Nat.le_of_ble_eq_true rfl) dX7_settle_119) hW (fun zm22 H locs h hW => ?_)
                  refine lv_aload_n hx hb dX7_settle_122 rfl (lv_at hl 1 rfl) ?_
                  refine zcalli (zrunV (As := []) (rest := []) X hml hl hW h0.1 rfl zk_Settling_69 (c_Settling_earlierAlike h0 h) rfl ⟨Nat.le_of_ble_eq_true rfl, Nat.le_of_ble_eq_true rfl⟩ ⟨Nat.le_refl 0, Nat.le_refl 0⟩ rfl (Nat.le_of_ble_eq_true rfl) dX7_settle_123) hW (fun zr25 zm24 H locs h hW => ?_)
                  refine lv_istore (lv' := [(6, .int zr25), (5, .int zx11), (0, .ref (zad w k)), (1, .ref (zad w t1)), (2, .ref (zad w t2)), (3, .int x_3), (4, .int x_4)]) hx hb dX7_settle_126 hl (Nat.le_of_ble_eq_true rfl) rfl (fun ls hl => ?_)
                  refine lv_iload hx hb dX7_settle_128 (lv_at hl 0 rfl) ?_
                  refine lv_if_lt (tgt := 165) hx hb dX7_settle_130 rfl (fun c => ?_) (fun c => ?_)
                  · replace h := h.1 c
                    exact zJ_165 x_4 _ zJ zm24 H locs ls hW (lv_sub hl [2, 3, 4, 6] rfl) h
                  · replace h := h.2 c
                    refine lv_aload_n hx hb dX7_settle_133 rfl (lv_at hl 4 rfl) ?_
                    refine lv_aload_n hx hb dX7_settle_134 rfl (lv_at hl 2 rfl) ?_
                    refine zg_Settling_dones X hW h0 zu_273 dX7_settle_135 ?_
                    refine lv_iload hx hb dX7_settle_138 (lv_at hl 0 rfl) ?_
                    obtain ⟨g, h⟩ := h
                    refine ziald X hW h0.2.2.1 g dX7_settle_140 ?_
                    refine lv_aload_n hx hb dX7_settle_141 rfl (lv_at hl 2 rfl) ?_
                    refine zg_Settling_ticks X hW h0 zu_274 dX7_settle_142 ?_
                    refine lv_iload hx hb dX7_settle_145 (lv_at hl 0 rfl) ?_
                    obtain ⟨g, h⟩ := h
                    refine ziald X hW h0.2.2.2.1 g dX7_settle_147 ?_
                    refine lv_aload_n hx hb dX7_settle_148 rfl (lv_at hl 2 rfl) ?_
                    refine zg_Settling_bench X hW h0 zu_270 dX7_settle_149 ?_
                    refine zg_Bench_done X hW h0.2.2.2.2 zu_168 dX7_settle_152 ?_
                    refine lv_aload_n hx hb dX7_settle_155 rfl (lv_at hl 2 rfl) ?_
                    refine zg_Settling_bench X hW h0 zu_270 dX7_settle_156 ?_
                    refine zg_Bench_tick X hW h0.2.2.2.2 zu_164 dX7_settle_159 ?_
                    refine zcallv (zrunV (As := [.int (zm24 (k + 2) (ix zr25)), .int (zm24 (k + 3) (ix zr25)), .int (zm24 (k + 4) 3), .int (zm24 (k + 4) 2)]) (rest := []) X hml hl hW h2 rfl zk_Settling_75 (c_Ring_close h2 h) rfl ⟨Nat.le_of_ble_eq_true rfl, Nat.le_of_ble_eq_true rfl⟩ ⟨Nat.le_refl 0, Nat.le_refl 0⟩ rfl (Nat.le_of_ble_eq_true rfl) dX7_settle_162) hW (fun zm30 H locs h hW => ?_)
                    exact zJ_165 x_4 _ zJ zm30 H locs ls hW (lv_sub hl [2, 3, 4, 6] rfl) h
  unfold wp_Settling_settle at h
  have zMain : ∀ (H : Heap) (locs : List Loc) (ls : Array Slot), zWo w s.heap M H locs → lv_has ls 7 [(0, .ref (zad w k)), (1, .ref (zad w t1)), (2, .ref (zad w t2))] → W p l e (zRm 4 92) s m ([.ref (zad w k), .ref (zad w t1), .ref (zad w t2)] : List Value).toArray below meth c H locs 0 0 (MQ below (va_Qv post (zB w) (zA w)) ([.ref (zad w k), .ref (zad w t1), .ref (zad w t2)] : List Value).toArray s 0 0 (zA w)) (F0 m 0 ls []) := by
    intro H locs ls hW hl
    refine lv_aload_n hx hb dX7_settle_0 rfl (lv_at hl 2 rfl) ?_
    refine zcallv (zrunV (As := []) (rest := []) X hml hl hW h2 rfl zk_Settling_30 (c_Ring_lose h2 h) rfl ⟨Nat.le_of_ble_eq_true rfl, Nat.le_of_ble_eq_true rfl⟩ ⟨Nat.le_refl 0, Nat.le_refl 0⟩ rfl (Nat.le_of_ble_eq_true rfl) dX7_settle_1) hW (fun zm1 H locs h hW => ?_)
    refine lv_aload_n hx hb dX7_settle_4 rfl (lv_at hl 0 rfl) ?_
    refine lv_iconst hx hb dX7_settle_5 zc_i0 ?_
    refine zp_Settling_records X hW h0 zu_271 dX7_settle_6 (fun H locs zm3 ezm3 hW => ?_)
    replace h := h zm3 ezm3
    refine lv_aload_n hx hb dX7_settle_9 rfl (lv_at hl 0 rfl) ?_
    refine zg_Settling_bench X hW h0 zu_270 dX7_settle_10 ?_
    refine lv_aload_n hx hb dX7_settle_13 rfl (lv_at hl 1 rfl) ?_
    obtain ⟨g, h⟩ := h
    refine zputTold X hW h0.2.2.2.2 g zu_161 dX7_settle_14 (fun H locs zm4 ezm4 hW => ?_)
    replace h := h zm4 ezm4
    refine lv_aload_n hx hb dX7_settle_17 rfl (lv_at hl 0 rfl) ?_
    refine zg_Settling_bench X hW h0 zu_270 dX7_settle_18 ?_
    refine zcallv (zrunV (As := []) (rest := []) X hml hl hW h0.2.2.2.2.1 rfl zk_Settling_43 (c_Bench_clear h0.2.2.2.2 h) rfl ⟨Nat.le_of_ble_eq_true rfl, Nat.le_of_ble_eq_true rfl⟩ ⟨Nat.le_refl 0, Nat.le_refl 0⟩ rfl (Nat.le_of_ble_eq_true rfl) dX7_settle_21) hW (fun zm5 H locs h hW => ?_)
    refine lv_aload_n hx hb dX7_settle_24 rfl (lv_at hl 0 rfl) ?_
    refine zg_Settling_bench X hW h0 zu_270 dX7_settle_25 ?_
    refine zcallv (zrunV (As := []) (rest := []) X hml hl hW h0.2.2.2.2.1 rfl zk_Settling_46 (c_Bench_doAll h0.2.2.2.2 h) rfl ⟨Nat.le_of_ble_eq_true rfl, Nat.le_of_ble_eq_true rfl⟩ ⟨Nat.le_refl 0, Nat.le_refl 0⟩ rfl (Nat.le_of_ble_eq_true rfl) dX7_settle_28) hW (fun zm7 H locs h hW => ?_)
    refine lv_aload_n hx hb dX7_settle_31 rfl (lv_at hl 0 rfl) ?_
    refine zg_Settling_bench X hW h0 zu_270 dX7_settle_32 ?_
    refine zcalli (zrunV (As := []) (rest := []) X hml hl hW h0.2.2.2.2.1 rfl zk_Settling_49 (c_Bench_leastLeft h0.2.2.2.2 h) rfl ⟨Nat.le_of_ble_eq_true rfl, Nat.le_of_ble_eq_true rfl⟩ ⟨Nat.le_refl 0, Nat.le_refl 0⟩ rfl (Nat.le_of_ble_eq_true rfl) dX7_settle_35) hW (fun zr10 zm9 H locs h hW => ?_)
    refine lv_istore_n (lv' := [(3, .int zr10), (0, .ref (zad w k)), (1, .ref (zad w t1)), (2, .ref (zad w t2))]) hx hb dX7_settle_38 rfl hl (Nat.le_of_ble_eq_true rfl) rfl (fun ls hl => ?_)
    refine lv_iconst hx hb dX7_settle_39 zc_i0 ?_
    refine lv_istore (lv' := [(4, .int 0), (3, .int zr10), (0, .ref (zad w k)), (1, .ref (zad w t1)), (2, .ref (zad w t2))]) hx hb dX7_settle_40 hl (Nat.le_of_ble_eq_true rfl) rfl (fun ls hl => ?_)
    obtain ⟨n, h⟩ := h
    refine zL_42   n zr10 0 zm9 H locs ls hW (lv_sub hl [2, 3, 4, 1, 0] rfl) h
  exact zMain s.heap [] ls hW hl
def wpB_Orders_forget_2 (k : Nat)   (Q : zMem → Prop) (J : Int32 → zMem → Prop) (x_1 : Int32) (M : zMem) : Prop :=
  (120 ≤ x_1 → Q M) ∧ (¬ 120 ≤ x_1 → vp_in x_1 120 ∧ ∀ zm1 : zMem, zm1 = zup M (k + 2) (ix x_1) 0 → ∀ zx2 : Int32, zx2 = x_1 + 1 → J zx2 zm1)
def wp_Orders_forget (k : Nat) (M : zMem) (Q : zMem → Prop) : Prop :=
  ∃ n : Nat, zlp1 (wpB_Orders_forget_2 k   Q) n 0 M
set_option maxHeartbeats 4000000 in
set_option maxRecDepth 20000 in
theorem c_Orders_forget {l : Launch} {w : zWd} {k : Nat} {M : zMem} {post : zMem → Prop} (h0 : zI_Orders w k) (h : wp_Orders_forget k M post) : zMv l ⟨"HandToHand$Orders", "forget", "()V"⟩ prog_5_method_2_code 2 none 0 0 w [.ref (zad w k)] M post := by
  refine zMet (by decide) (Nat.le_of_ble_eq_true rfl) ?_
  intro p e s m below meth c X hr hlk hml hW ls hl
  have hx := X.1
  have hb := X.2.1
  have hl : lv_has ls 2 [(0, .ref (zad w k))] := hl
  have zL_2 :  ∀ (n : Nat) (x_1 : Int32) (M : zMem) (H : Heap) (locs : List Loc) (ls : Array Slot), zWo w s.heap M H locs → lv_has ls 2 [(0, .ref (zad w k)), (1, .int x_1)] → zlp1 (wpB_Orders_forget_2 k   post) n x_1 M → W p l e (zRm 0 0) s m ([.ref (zad w k)] : List Value).toArray below meth c H locs 0 0 (MQ below (va_Qv post (zB w) (zA w)) ([.ref (zad w k)] : List Value).toArray s 0 0 (zA w)) (F0 m 2 ls []) := by
    intro n
    induction n with
    | zero => intro x_1 M H locs ls hW hl h; exact h.elim
    | succ n zJ =>
      intro x_1 M H locs ls hW hl h
      have h : wpB_Orders_forget_2 k   post (zlp1 (wpB_Orders_forget_2 k   post) n) x_1 M := h
      unfold wpB_Orders_forget_2 at h
      refine lv_iload_n hx hb dX3_forget_2 rfl (lv_at hl 1 rfl) ?_
      refine lv_bipush hx hb dX3_forget_3 zc_b120 ?_
      refine lv_icmp_ge (tgt := 21) hx hb dX3_forget_5 rfl (fun c => ?_) (fun c => ?_)
      · replace h := h.1 c
        exact zretv X hr hlk hW h dX3_forget_21
      · replace h := h.2 c
        refine lv_aload_n hx hb dX3_forget_8 rfl (lv_at hl 0 rfl) ?_
        refine zg_Orders_bottoms X hW h0 zu_337 dX3_forget_9 ?_
        refine lv_iload_n hx hb dX3_forget_12 rfl (lv_at hl 1 rfl) ?_
        refine lv_iconst hx hb dX3_forget_13 zc_i0 ?_
        obtain ⟨g, h⟩ := h
        refine ziast X hW h0.2.2.1 g dX3_forget_14 (fun H locs zm1 ezm1 hW => ?_)
        replace h := h zm1 ezm1
        obtain ⟨zx2, ezx2⟩ : ∃ y : Int32, y = x_1 + 1 := ⟨_, rfl⟩
        replace h := h zx2 ezx2
        refine lv_iinc (v := zx2) (lv' := [(1, .int zx2), (0, .ref (zad w k))]) hx hb dX3_forget_15 hl (k := 1) rfl (by rw [ezx2, zc_i1]) (Nat.le_of_ble_eq_true rfl) rfl (fun ls hl => ?_)
        refine lv_goto (tgt := 2) hx hb dX3_forget_18 rfl ?_
        exact zJ zx2 zm1 H locs ls hW (lv_sub hl [1, 0] rfl) h
  unfold wp_Orders_forget at h
  have zMain : ∀ (H : Heap) (locs : List Loc) (ls : Array Slot), zWo w s.heap M H locs → lv_has ls 2 [(0, .ref (zad w k))] → W p l e (zRm 0 0) s m ([.ref (zad w k)] : List Value).toArray below meth c H locs 0 0 (MQ below (va_Qv post (zB w) (zA w)) ([.ref (zad w k)] : List Value).toArray s 0 0 (zA w)) (F0 m 0 ls []) := by
    intro H locs ls hW hl
    refine lv_iconst hx hb dX3_forget_0 zc_i0 ?_
    refine lv_istore_n (lv' := [(1, .int 0), (0, .ref (zad w k))]) hx hb dX3_forget_1 rfl hl (Nat.le_of_ble_eq_true rfl) rfl (fun ls hl => ?_)
    obtain ⟨n, h⟩ := h
    refine zL_2   n 0 M H locs ls hW (lv_sub hl [1, 0] rfl) h
  exact zMain s.heap [] ls hW hl
def wpB_Main_numberOfOrders_4 (a1 : Int32)   (Q : Int32 → zMem → Prop) (J : Int32 → Int32 → zMem → Prop) (x_1 : Int32) (x_2 : Int32) (M : zMem) : Prop :=
  (a1 < x_2 → Q x_1 M) ∧ (¬ a1 < x_2 → ∀ zx1 : Int32, zx1 = x_1 * x_2 → ∀ zx2 : Int32, zx2 = x_2 + 1 → J zx1 zx2 M)
def wp_Main_numberOfOrders (a1 : Int32) (M : zMem) (Q : Int32 → zMem → Prop) : Prop :=
  ∃ n : Nat, zlp2 (wpB_Main_numberOfOrders_4 a1   Q) n 1 2 M
set_option maxHeartbeats 4000000 in
set_option maxRecDepth 20000 in
theorem c_Main_numberOfOrders {l : Launch} {w : zWd} {a1 : Int32} {M : zMem} {post : Int32 → zMem → Prop}  (h : wp_Main_numberOfOrders a1 M post) : zMi l ⟨"HandToHand", "numberOfOrders", "(I)I"⟩ prog_1_method_45_code 3 (Option.some .int) 0 0 w [.int a1] M post := by
  refine zMet (by decide) (Nat.le_of_ble_eq_true rfl) ?_
  intro p e s m below meth c X hr hlk hml hW ls hl
  have hx := X.1
  have hb := X.2.1
  have hl : lv_has ls 3 [(0, .int a1)] := hl
  have zL_4 :  ∀ (n : Nat) (x_1 : Int32) (x_2 : Int32) (M : zMem) (H : Heap) (locs : List Loc) (ls : Array Slot), zWo w s.heap M H locs → lv_has ls 3 [(0, .int a1), (1, .int x_1), (2, .int x_2)] → zlp2 (wpB_Main_numberOfOrders_4 a1   post) n x_1 x_2 M → W p l e (zRm 0 0) s m ([.int a1] : List Value).toArray below meth c H locs 0 0 (MQ below (va_Qi post (zB w) (zA w)) ([.int a1] : List Value).toArray s 0 0 (zA w)) (F0 m 4 ls []) := by
    intro n
    induction n with
    | zero => intro x_1 x_2 M H locs ls hW hl h; exact h.elim
    | succ n zJ =>
      intro x_1 x_2 M H locs ls hW hl h
      have h : wpB_Main_numberOfOrders_4 a1   post (zlp2 (wpB_Main_numberOfOrders_4 a1   post) n) x_1 x_2 M := h
      unfold wpB_Main_numberOfOrders_4 at h
      refine lv_iload_n hx hb dX10_numberOfOrders_4 rfl (lv_at hl 2 rfl) ?_
      refine lv_iload_n hx hb dX10_numberOfOrders_5 rfl (lv_at hl 0 rfl) ?_
      refine lv_icmp_gt (tgt := 19) hx hb dX10_numberOfOrders_6 rfl (fun c => ?_) (fun c => ?_)
      · replace h := h.1 c
        refine lv_iload_n hx hb dX10_numberOfOrders_19 rfl (lv_at hl 1 rfl) ?_
        exact zreti X hr hlk hW h dX10_numberOfOrders_20
      · replace h := h.2 c
        refine lv_iload_n hx hb dX10_numberOfOrders_9 rfl (lv_at hl 1 rfl) ?_
        refine lv_iload_n hx hb dX10_numberOfOrders_10 rfl (lv_at hl 2 rfl) ?_
        refine lv_imul hx hb dX10_numberOfOrders_11 ?_
        refine lv_topi (fun zx1 ezx1 => ?_)
        replace h := h zx1 ezx1
        refine lv_istore_n (lv' := [(1, .int zx1), (0, .int a1), (2, .int x_2)]) hx hb dX10_numberOfOrders_12 rfl hl (Nat.le_of_ble_eq_true rfl) rfl (fun ls hl => ?_)
        obtain ⟨zx2, ezx2⟩ : ∃ y : Int32, y = x_2 + 1 := ⟨_, rfl⟩
        replace h := h zx2 ezx2
        refine lv_iinc (v := zx2) (lv' := [(2, .int zx2), (1, .int zx1), (0, .int a1)]) hx hb dX10_numberOfOrders_13 hl (k := 2) rfl (by rw [ezx2, zc_i1]) (Nat.le_of_ble_eq_true rfl) rfl (fun ls hl => ?_)
        refine lv_goto (tgt := 4) hx hb dX10_numberOfOrders_16 rfl ?_
        exact zJ zx1 zx2 M H locs ls hW (lv_sub hl [2, 1, 0] rfl) h
  unfold wp_Main_numberOfOrders at h
  have zMain : ∀ (H : Heap) (locs : List Loc) (ls : Array Slot), zWo w s.heap M H locs → lv_has ls 3 [(0, .int a1)] → W p l e (zRm 0 0) s m ([.int a1] : List Value).toArray below meth c H locs 0 0 (MQ below (va_Qi post (zB w) (zA w)) ([.int a1] : List Value).toArray s 0 0 (zA w)) (F0 m 0 ls []) := by
    intro H locs ls hW hl
    refine lv_iconst hx hb dX10_numberOfOrders_0 zc_i1 ?_
    refine lv_istore_n (lv' := [(1, .int 1), (0, .int a1)]) hx hb dX10_numberOfOrders_1 rfl hl (Nat.le_of_ble_eq_true rfl) rfl (fun ls hl => ?_)
    refine lv_iconst hx hb dX10_numberOfOrders_2 zc_i2 ?_
    refine lv_istore_n (lv' := [(2, .int 2), (1, .int 1), (0, .int a1)]) hx hb dX10_numberOfOrders_3 rfl hl (Nat.le_of_ble_eq_true rfl) rfl (fun ls hl => ?_)
    obtain ⟨n, h⟩ := h
    refine zL_4   n 1 2 M H locs ls hW (lv_sub hl [2, 1, 0] rfl) h
  exact zMain s.heap [] ls hW hl
def wpB_Orders_unusedHand_6 (k : Nat) (a1 : Int32) (a2 : Int32) (a3 : Int32)   (Q : Int32 → zMem → Prop) (J : Int32 → Int32 → zMem → Prop) (x_4 : Int32) (x_5 : Int32) (M : zMem) : Prop :=
  (a3 ≤ x_5 → Q 0 M) ∧ (¬ a3 ≤ x_5 → (¬ ((a1 >>> (x_5 &&& 31)) &&& 1) = 0 → ∀ zx1 : Int32, zx1 = x_5 + 1 → J x_4 zx1 M) ∧ (((a1 >>> (x_5 &&& 31)) &&& 1) = 0 → (¬ x_4 = a2 → ∀ zx2 : Int32, zx2 = x_4 + 1 → ∀ zx3 : Int32, zx3 = x_5 + 1 → J zx2 zx3 M) ∧ (x_4 = a2 → Q x_5 M)))
def wp_Orders_unusedHand (k : Nat) (a1 : Int32) (a2 : Int32) (a3 : Int32) (M : zMem) (Q : Int32 → zMem → Prop) : Prop :=
  ∃ n : Nat, zlp2 (wpB_Orders_unusedHand_6 k a1 a2 a3   Q) n 0 0 M
set_option maxHeartbeats 4000000 in
set_option maxRecDepth 20000 in
theorem c_Orders_unusedHand {l : Launch} {w : zWd} {k : Nat} {a1 : Int32} {a2 : Int32} {a3 : Int32} {M : zMem} {post : Int32 → zMem → Prop} (h0 : zI_Orders w k) (h : wp_Orders_unusedHand k a1 a2 a3 M post) : zMi l ⟨"HandToHand$Orders", "unusedHand", "(III)I"⟩ prog_5_method_4_code 6 (Option.some .int) 0 0 w [.ref (zad w k), .int a1, .int a2, .int a3] M post := by
  refine zMet (by decide) (Nat.le_of_ble_eq_true rfl) ?_
  intro p e s m below meth c X hr hlk hml hW ls hl
  have hx := X.1
  have hb := X.2.1
  have hl : lv_has ls 6 [(0, .ref (zad w k)), (1, .int a1), (2, .int a2), (3, .int a3)] := hl
  have zL_6 :  ∀ (n : Nat) (x_4 : Int32) (x_5 : Int32) (M : zMem) (H : Heap) (locs : List Loc) (ls : Array Slot), zWo w s.heap M H locs → lv_has ls 6 [(1, .int a1), (2, .int a2), (3, .int a3), (4, .int x_4), (5, .int x_5)] → zlp2 (wpB_Orders_unusedHand_6 k a1 a2 a3   post) n x_4 x_5 M → W p l e (zRm 0 0) s m ([.ref (zad w k), .int a1, .int a2, .int a3] : List Value).toArray below meth c H locs 0 0 (MQ below (va_Qi post (zB w) (zA w)) ([.ref (zad w k), .int a1, .int a2, .int a3] : List Value).toArray s 0 0 (zA w)) (F0 m 6 ls []) := by
    intro n
    induction n with
    | zero => intro x_4 x_5 M H locs ls hW hl h; exact h.elim
    | succ n zJ =>
      intro x_4 x_5 M H locs ls hW hl h
      have h : wpB_Orders_unusedHand_6 k a1 a2 a3   post (zlp2 (wpB_Orders_unusedHand_6 k a1 a2 a3   post) n) x_4 x_5 M := h
      unfold wpB_Orders_unusedHand_6 at h
      refine lv_iload hx hb dX3_unusedHand_6 (lv_at hl 4 rfl) ?_
      refine lv_iload_n hx hb dX3_unusedHand_8 rfl (lv_at hl 2 rfl) ?_
      refine lv_icmp_ge (tgt := 39) hx hb dX3_unusedHand_9 rfl (fun c => ?_) (fun c => ?_)
      · replace h := h.1 c
        refine lv_iconst hx hb dX3_unusedHand_39 zc_i0 ?_
        exact zreti X hr hlk hW h dX3_unusedHand_40
      · replace h := h.2 c
        refine lv_iload_n hx hb dX3_unusedHand_12 rfl (lv_at hl 0 rfl) ?_
        refine lv_iload hx hb dX3_unusedHand_13 (lv_at hl 4 rfl) ?_
        refine lv_ishr hx hb dX3_unusedHand_15 ?_
        refine lv_iconst hx hb dX3_unusedHand_16 zc_i1 ?_
        refine lv_iand hx hb dX3_unusedHand_17 ?_
        refine lv_if_ne (tgt := 33) hx hb dX3_unusedHand_18 rfl (fun c => ?_) (fun c => ?_)
        · replace h := h.1 c
          obtain ⟨zx1, ezx1⟩ : ∃ y : Int32, y = x_5 + 1 := ⟨_, rfl⟩
          replace h := h zx1 ezx1
          refine lv_iinc (v := zx1) (lv' := [(5, .int zx1), (1, .int a1), (2, .int a2), (3, .int a3), (4, .int x_4)]) hx hb dX3_unusedHand_33 hl (k := 4) rfl (by rw [ezx1, zc_i1]) (Nat.le_of_ble_eq_true rfl) rfl (fun ls hl => ?_)
          refine lv_goto (tgt := 6) hx hb dX3_unusedHand_36 rfl ?_
          exact zJ x_4 zx1 M H locs ls hW (lv_sub hl [1, 2, 3, 4, 0] rfl) h
        · replace h := h.2 c
          refine lv_iload hx hb dX3_unusedHand_21 (lv_at hl 3 rfl) ?_
          refine lv_iload_n hx hb dX3_unusedHand_23 rfl (lv_at hl 1 rfl) ?_
          refine lv_icmp_ne (tgt := 30) hx hb dX3_unusedHand_24 rfl (fun c => ?_) (fun c => ?_)
          · replace h := h.1 c
            obtain ⟨zx2, ezx2⟩ : ∃ y : Int32, y = x_4 + 1 := ⟨_, rfl⟩
            replace h := h zx2 ezx2
            refine lv_iinc (v := zx2) (lv' := [(4, .int zx2), (1, .int a1), (2, .int a2), (3, .int a3), (5, .int x_5)]) hx hb dX3_unusedHand_30 hl (k := 3) rfl (by rw [ezx2, zc_i1]) (Nat.le_of_ble_eq_true rfl) rfl (fun ls hl => ?_)
            obtain ⟨zx3, ezx3⟩ : ∃ y : Int32, y = x_5 + 1 := ⟨_, rfl⟩
            replace h := h zx3 ezx3
            refine lv_iinc (v := zx3) (lv' := [(5, .int zx3), (4, .int zx2), (1, .int a1), (2, .int a2), (3, .int a3)]) hx hb dX3_unusedHand_33 hl (k := 4) rfl (by rw [ezx3, zc_i1]) (Nat.le_of_ble_eq_true rfl) rfl (fun ls hl => ?_)
            refine lv_goto (tgt := 6) hx hb dX3_unusedHand_36 rfl ?_
            exact zJ zx2 zx3 M H locs ls hW (lv_sub hl [2, 3, 4, 1, 0] rfl) h
          · replace h := h.2 c
            refine lv_iload hx hb dX3_unusedHand_27 (lv_at hl 4 rfl) ?_
            exact zreti X hr hlk hW h dX3_unusedHand_29
  unfold wp_Orders_unusedHand at h
  have zMain : ∀ (H : Heap) (locs : List Loc) (ls : Array Slot), zWo w s.heap M H locs → lv_has ls 6 [(0, .ref (zad w k)), (1, .int a1), (2, .int a2), (3, .int a3)] → W p l e (zRm 0 0) s m ([.ref (zad w k), .int a1, .int a2, .int a3] : List Value).toArray below meth c H locs 0 0 (MQ below (va_Qi post (zB w) (zA w)) ([.ref (zad w k), .int a1, .int a2, .int a3] : List Value).toArray s 0 0 (zA w)) (F0 m 0 ls []) := by
    intro H locs ls hW hl
    refine lv_iconst hx hb dX3_unusedHand_0 zc_i0 ?_
    refine lv_istore (lv' := [(4, .int 0), (0, .ref (zad w k)), (1, .int a1), (2, .int a2), (3, .int a3)]) hx hb dX3_unusedHand_1 hl (Nat.le_of_ble_eq_true rfl) rfl (fun ls hl => ?_)
    refine lv_iconst hx hb dX3_unusedHand_3 zc_i0 ?_
    refine lv_istore (lv' := [(5, .int 0), (4, .int 0), (0, .ref (zad w k)), (1, .int a1), (2, .int a2), (3, .int a3)]) hx hb dX3_unusedHand_4 hl (Nat.le_of_ble_eq_true rfl) rfl (fun ls hl => ?_)
    obtain ⟨n, h⟩ := h
    refine zL_6   n 0 0 M H locs ls hW (lv_sub hl [3, 4, 5, 1, 0] rfl) h
  exact zMain s.heap [] ls hW hl
def wpJ_Orders_standAs_57 (k : Nat) (a1 : Int32) (a2 : Int32)  (J : Int32 → Int32 → Int32 → Int32 → zMem → Prop) (Q : zMem → Prop) (x_4 : Int32) (x_5 : Int32) (x_6 : Int32) (x_7 : Int32) (s_0 : Int32) (M : zMem) : Prop :=
  wp_Orders_unusedHand k x_4 x_7 a2 M (fun zr5 zm4 => vp_in x_6 5 ∧ ∀ zm6 : zMem, zm6 = zup zm4 (k + 3) (ix x_6) zr5 → ∀ zx7 : Int32, zx7 = x_4 ||| (1 <<< (zr5 &&& 31)) → ∀ zx8 : Int32, zx8 = x_6 + 1 → J s_0 zx7 x_5 zx8 zm6)
def wpJ_Orders_standAs_42 (k : Nat) (a1 : Int32) (a2 : Int32)  (J : Int32 → Int32 → Int32 → Int32 → zMem → Prop) (Q : zMem → Prop) (x_3 : Int32) (x_4 : Int32) (x_5 : Int32) (x_6 : Int32) (s_0 : Int32) (M : zMem) : Prop :=
  (x_5 ≤ 0 → wpJ_Orders_standAs_57 k a1 a2 J Q x_4 x_5 x_6 s_0 0 M) ∧ (¬ x_5 ≤ 0 → (¬ x_5 = 0) ∧ wpJ_Orders_standAs_57 k a1 a2 J Q x_4 x_5 x_6 s_0 (x_3 - x_3 / x_5 * x_5) M)
def wpB_Orders_standAs_14 (k : Nat) (a1 : Int32) (a2 : Int32)   (Q : zMem → Prop) (J : Int32 → Int32 → Int32 → Int32 → zMem → Prop) (x_3 : Int32) (x_4 : Int32) (x_5 : Int32) (x_6 : Int32) (M : zMem) : Prop :=
  (a2 ≤ x_6 → Q M) ∧ (¬ a2 ≤ x_6 → (¬ (a2 - x_6) = 0) ∧ ∀ zx3 : Int32, zx3 = x_5 / (a2 - x_6) → (zx3 ≤ 0 → wpJ_Orders_standAs_42 k a1 a2 J Q x_3 x_4 zx3 x_6 0 M) ∧ (¬ zx3 ≤ 0 → (¬ zx3 = 0) ∧ wpJ_Orders_standAs_42 k a1 a2 J Q x_3 x_4 zx3 x_6 (x_3 / zx3) M))
def wp_Orders_standAs (k : Nat) (a1 : Int32) (a2 : Int32) (M : zMem) (Q : zMem → Prop) : Prop :=
  wp_Main_numberOfOrders a2 M (fun zr2 zm1 => ∃ n : Nat, zlp4 (wpB_Orders_standAs_14 k a1 a2   Q) n a1 0 zr2 0 zm1)
set_option maxHeartbeats 4000000 in
set_option maxRecDepth 20000 in
theorem c_Orders_standAs {l : Launch} {w : zWd} {k : Nat} {a1 : Int32} {a2 : Int32} {M : zMem} {post : zMem → Prop} (h0 : zI_Orders w k) (h : wp_Orders_standAs k a1 a2 M post) : zMv l ⟨"HandToHand$Orders", "standAs", "(II)V"⟩ prog_5_method_3_code 9 none 1 25 w [.ref (zad w k), .int a1, .int a2] M post := by
  refine zMet (by decide) (Nat.le_of_ble_eq_true rfl) ?_
  intro p e s m below meth c X hr hlk hml hW ls hl
  have hx := X.1
  have hb := X.2.1
  have hl : lv_has ls 9 [(0, .ref (zad w k)), (1, .int a1), (2, .int a2)] := hl
  have zJ_57 : ∀ (x_4 : Int32) (x_5 : Int32) (x_6 : Int32) (x_7 : Int32) (s_0 : Int32) (J : Int32 → Int32 → Int32 → Int32 → zMem → Prop) (zJ : ∀ (y_3 : Int32) (y_4 : Int32) (y_5 : Int32) (y_6 : Int32) (M : zMem) (H : Heap) (locs : List Loc) (ls : Array Slot), zWo w s.heap M H locs → lv_has ls 9 [(0, .ref (zad w k)), (2, .int a2), (3, .int y_3), (4, .int y_4), (5, .int y_5), (6, .int y_6)] → J y_3 y_4 y_5 y_6 M → W p l e (zRm 1 25) s m ([.ref (zad w k), .int a1, .int a2] : List Value).toArray below meth c H locs 0 0 (MQ below (va_Qv post (zB w) (zA w)) ([.ref (zad w k), .int a1, .int a2] : List Value).toArray s 0 0 (zA w)) (F0 m 14 ls [])) (M : zMem) (H : Heap) (locs : List Loc) (ls : Array Slot), zWo w s.heap M H locs → lv_has ls 9 [(0, .ref (zad w k)), (2, .int a2), (4, .int x_4), (5, .int x_5), (6, .int x_6), (7, .int x_7)] → wpJ_Orders_standAs_57 k a1 a2 J post x_4 x_5 x_6 x_7 s_0 M → W p l e (zRm 1 25) s m ([.ref (zad w k), .int a1, .int a2] : List Value).toArray below meth c H locs 0 0 (MQ below (va_Qv post (zB w) (zA w)) ([.ref (zad w k), .int a1, .int a2] : List Value).toArray s 0 0 (zA w)) (F0 m 57 ls [.int s_0]) := by
    intro x_4 x_5 x_6 x_7 s_0 J zJ M H locs ls hW hl h
    unfold wpJ_Orders_standAs_57 at h
    refine lv_istore_n (lv' := [(3, .int s_0), (0, .ref (zad w k)), (2, .int a2), (4, .int x_4), (5, .int x_5), (6, .int x_6), (7, .int x_7)]) hx hb dX3_standAs_57 rfl hl (Nat.le_of_ble_eq_true rfl) rfl (fun ls hl => ?_)
    refine lv_aload_n hx hb dX3_standAs_58 rfl (lv_at hl 1 rfl) ?_
    refine lv_iload hx hb dX3_standAs_59 (lv_at hl 3 rfl) ?_
    refine lv_iload hx hb dX3_standAs_61 (lv_at hl 6 rfl) ?_
    refine lv_iload_n hx hb dX3_standAs_63 rfl (lv_at hl 2 rfl) ?_
    refine zcalli (zrunV (As := [.int x_4, .int x_7, .int a2]) (rest := []) X hml hl hW h0.1 rfl zk_Orders_25 (c_Orders_unusedHand h0 h) rfl ⟨Nat.le_of_ble_eq_true rfl, Nat.le_of_ble_eq_true rfl⟩ ⟨Nat.le_refl 0, Nat.le_refl 0⟩ rfl (Nat.le_of_ble_eq_true rfl) dX3_standAs_64) hW (fun zr5 zm4 H locs h hW => ?_)
    refine lv_istore (lv' := [(8, .int zr5), (3, .int s_0), (0, .ref (zad w k)), (2, .int a2), (4, .int x_4), (5, .int x_5), (6, .int x_6), (7, .int x_7)]) hx hb dX3_standAs_67 hl (Nat.le_of_ble_eq_true rfl) rfl (fun ls hl => ?_)
    refine lv_aload_n hx hb dX3_standAs_69 rfl (lv_at hl 2 rfl) ?_
    refine zg_Orders_standing X hW h0 zu_339 dX3_standAs_70 ?_
    refine lv_iload hx hb dX3_standAs_73 (lv_at hl 6 rfl) ?_
    refine lv_iload hx hb dX3_standAs_75 (lv_at hl 0 rfl) ?_
    obtain ⟨g, h⟩ := h
    refine ziast X hW h0.2.2.2 g dX3_standAs_77 (fun H locs zm6 ezm6 hW => ?_)
    replace h := h zm6 ezm6
    refine lv_iload hx hb dX3_standAs_78 (lv_at hl 4 rfl) ?_
    refine lv_iconst hx hb dX3_standAs_80 zc_i1 ?_
    refine lv_iload hx hb dX3_standAs_81 (lv_at hl 0 rfl) ?_
    refine lv_ishl hx hb dX3_standAs_83 ?_
    refine lv_ior hx hb dX3_standAs_84 ?_
    refine lv_topi (fun zx7 ezx7 => ?_)
    replace h := h zx7 ezx7
    refine lv_istore (lv' := [(4, .int zx7), (8, .int zr5), (3, .int s_0), (0, .ref (zad w k)), (2, .int a2), (5, .int x_5), (6, .int x_6), (7, .int x_7)]) hx hb dX3_standAs_85 hl (Nat.le_of_ble_eq_true rfl) rfl (fun ls hl => ?_)
    obtain ⟨zx8, ezx8⟩ : ∃ y : Int32, y = x_6 + 1 := ⟨_, rfl⟩
    replace h := h zx8 ezx8
    refine lv_iinc (v := zx8) (lv' := [(6, .int zx8), (4, .int zx7), (8, .int zr5), (3, .int s_0), (0, .ref (zad w k)), (2, .int a2), (5, .int x_5), (7, .int x_7)]) hx hb dX3_standAs_87 hl (k := 6) rfl (by rw [ezx8, zc_i1]) (Nat.le_of_ble_eq_true rfl) rfl (fun ls hl => ?_)
    refine lv_goto (tgt := 14) hx hb dX3_standAs_90 rfl ?_
    exact zJ s_0 zx7 x_5 zx8 zm6 H locs ls hW (lv_sub hl [4, 5, 3, 1, 6, 0] rfl) h
  have zJ_42 : ∀ (x_3 : Int32) (x_4 : Int32) (x_5 : Int32) (x_6 : Int32) (s_0 : Int32) (J : Int32 → Int32 → Int32 → Int32 → zMem → Prop) (zJ : ∀ (y_3 : Int32) (y_4 : Int32) (y_5 : Int32) (y_6 : Int32) (M : zMem) (H : Heap) (locs : List Loc) (ls : Array Slot), zWo w s.heap M H locs → lv_has ls 9 [(0, .ref (zad w k)), (2, .int a2), (3, .int y_3), (4, .int y_4), (5, .int y_5), (6, .int y_6)] → J y_3 y_4 y_5 y_6 M → W p l e (zRm 1 25) s m ([.ref (zad w k), .int a1, .int a2] : List Value).toArray below meth c H locs 0 0 (MQ below (va_Qv post (zB w) (zA w)) ([.ref (zad w k), .int a1, .int a2] : List Value).toArray s 0 0 (zA w)) (F0 m 14 ls [])) (M : zMem) (H : Heap) (locs : List Loc) (ls : Array Slot), zWo w s.heap M H locs → lv_has ls 9 [(0, .ref (zad w k)), (2, .int a2), (3, .int x_3), (4, .int x_4), (5, .int x_5), (6, .int x_6)] → wpJ_Orders_standAs_42 k a1 a2 J post x_3 x_4 x_5 x_6 s_0 M → W p l e (zRm 1 25) s m ([.ref (zad w k), .int a1, .int a2] : List Value).toArray below meth c H locs 0 0 (MQ below (va_Qv post (zB w) (zA w)) ([.ref (zad w k), .int a1, .int a2] : List Value).toArray s 0 0 (zA w)) (F0 m 42 ls [.int s_0]) := by
    intro x_3 x_4 x_5 x_6 s_0 J zJ M H locs ls hW hl h
    unfold wpJ_Orders_standAs_42 at h
    refine lv_istore (lv' := [(7, .int s_0), (0, .ref (zad w k)), (2, .int a2), (3, .int x_3), (4, .int x_4), (5, .int x_5), (6, .int x_6)]) hx hb dX3_standAs_42 hl (Nat.le_of_ble_eq_true rfl) rfl (fun ls hl => ?_)
    refine lv_iload hx hb dX3_standAs_44 (lv_at hl 5 rfl) ?_
    refine lv_if_le (tgt := 56) hx hb dX3_standAs_46 rfl (fun c => ?_) (fun c => ?_)
    · replace h := h.1 c
      refine lv_iconst hx hb dX3_standAs_56 zc_i0 ?_
      exact zJ_57 x_4 x_5 x_6 s_0 0 _ zJ M H locs ls hW (lv_sub hl [1, 2, 4, 5, 6, 0] rfl) h
    · replace h := h.2 c
      refine lv_iload_n hx hb dX3_standAs_49 rfl (lv_at hl 3 rfl) ?_
      refine lv_iload hx hb dX3_standAs_50 (lv_at hl 5 rfl) ?_
      obtain ⟨g, h⟩ := h
      refine lv_irem hx hb dX3_standAs_52 g ?_
      refine lv_goto (tgt := 57) hx hb dX3_standAs_53 rfl ?_
      exact zJ_57 x_4 x_5 x_6 s_0 (x_3 - x_3 / x_5 * x_5) _ zJ M H locs ls hW (lv_sub hl [1, 2, 4, 5, 6, 0] rfl) h
  have zL_14 :  ∀ (n : Nat) (x_3 : Int32) (x_4 : Int32) (x_5 : Int32) (x_6 : Int32) (M : zMem) (H : Heap) (locs : List Loc) (ls : Array Slot), zWo w s.heap M H locs → lv_has ls 9 [(0, .ref (zad w k)), (2, .int a2), (3, .int x_3), (4, .int x_4), (5, .int x_5), (6, .int x_6)] → zlp4 (wpB_Orders_standAs_14 k a1 a2   post) n x_3 x_4 x_5 x_6 M → W p l e (zRm 1 25) s m ([.ref (zad w k), .int a1, .int a2] : List Value).toArray below meth c H locs 0 0 (MQ below (va_Qv post (zB w) (zA w)) ([.ref (zad w k), .int a1, .int a2] : List Value).toArray s 0 0 (zA w)) (F0 m 14 ls []) := by
    intro n
    induction n with
    | zero => intro x_3 x_4 x_5 x_6 M H locs ls hW hl h; exact h.elim
    | succ n zJ =>
      intro x_3 x_4 x_5 x_6 M H locs ls hW hl h
      have h : wpB_Orders_standAs_14 k a1 a2   post (zlp4 (wpB_Orders_standAs_14 k a1 a2   post) n) x_3 x_4 x_5 x_6 M := h
      unfold wpB_Orders_standAs_14 at h
      refine lv_iload hx hb dX3_standAs_14 (lv_at hl 5 rfl) ?_
      refine lv_iload_n hx hb dX3_standAs_16 rfl (lv_at hl 1 rfl) ?_
      refine lv_icmp_ge (tgt := 93) hx hb dX3_standAs_17 rfl (fun c => ?_) (fun c => ?_)
      · replace h := h.1 c
        exact zretv X hr hlk hW h dX3_standAs_93
      · replace h := h.2 c
        refine lv_iload hx hb dX3_standAs_20 (lv_at hl 4 rfl) ?_
        refine lv_iload_n hx hb dX3_standAs_22 rfl (lv_at hl 1 rfl) ?_
        refine lv_iload hx hb dX3_standAs_23 (lv_at hl 5 rfl) ?_
        refine lv_isub hx hb dX3_standAs_25 ?_
        obtain ⟨g, h⟩ := h
        refine lv_idiv hx hb dX3_standAs_26 g ?_
        refine lv_topi (fun zx3 ezx3 => ?_)
        replace h := h zx3 ezx3
        refine lv_istore (lv' := [(5, .int zx3), (0, .ref (zad w k)), (2, .int a2), (3, .int x_3), (4, .int x_4), (6, .int x_6)]) hx hb dX3_standAs_27 hl (Nat.le_of_ble_eq_true rfl) rfl (fun ls hl => ?_)
        refine lv_iload hx hb dX3_standAs_29 (lv_at hl 0 rfl) ?_
        refine lv_if_le (tgt := 41) hx hb dX3_standAs_31 rfl (fun c => ?_) (fun c => ?_)
        · replace h := h.1 c
          refine lv_iconst hx hb dX3_standAs_41 zc_i0 ?_
          exact zJ_42 x_3 x_4 zx3 x_6 0 _ zJ M H locs ls hW (lv_sub hl [1, 2, 3, 4, 0, 5] rfl) h
        · replace h := h.2 c
          refine lv_iload_n hx hb dX3_standAs_34 rfl (lv_at hl 3 rfl) ?_
          refine lv_iload hx hb dX3_standAs_35 (lv_at hl 0 rfl) ?_
          obtain ⟨g, h⟩ := h
          refine lv_idiv hx hb dX3_standAs_37 g ?_
          refine lv_goto (tgt := 42) hx hb dX3_standAs_38 rfl ?_
          exact zJ_42 x_3 x_4 zx3 x_6 (x_3 / zx3) _ zJ M H locs ls hW (lv_sub hl [1, 2, 3, 4, 0, 5] rfl) h
  unfold wp_Orders_standAs at h
  have zMain : ∀ (H : Heap) (locs : List Loc) (ls : Array Slot), zWo w s.heap M H locs → lv_has ls 9 [(0, .ref (zad w k)), (1, .int a1), (2, .int a2)] → W p l e (zRm 1 25) s m ([.ref (zad w k), .int a1, .int a2] : List Value).toArray below meth c H locs 0 0 (MQ below (va_Qv post (zB w) (zA w)) ([.ref (zad w k), .int a1, .int a2] : List Value).toArray s 0 0 (zA w)) (F0 m 0 ls []) := by
    intro H locs ls hW hl
    refine lv_iload_n hx hb dX3_standAs_0 rfl (lv_at hl 1 rfl) ?_
    refine lv_istore_n (lv' := [(3, .int a1), (0, .ref (zad w k)), (1, .int a1), (2, .int a2)]) hx hb dX3_standAs_1 rfl hl (Nat.le_of_ble_eq_true rfl) rfl (fun ls hl => ?_)
    refine lv_iconst hx hb dX3_standAs_2 zc_i0 ?_
    refine lv_istore (lv' := [(4, .int 0), (3, .int a1), (0, .ref (zad w k)), (1, .int a1), (2, .int a2)]) hx hb dX3_standAs_3 hl (Nat.le_of_ble_eq_true rfl) rfl (fun ls hl => ?_)
    refine lv_iload_n hx hb dX3_standAs_5 rfl (lv_at hl 4 rfl) ?_
    refine zcalli (zrunSN (As := [.int a2]) (rest := []) X hml hl hW zk_Orders_21 (c_Main_numberOfOrders  h) rfl ⟨Nat.le_of_ble_eq_true rfl, Nat.le_of_ble_eq_true rfl⟩ ⟨Nat.le_refl 0, Nat.le_refl 0⟩ rfl (Nat.le_of_ble_eq_true rfl) dX3_standAs_6) hW (fun zr2 zm1 H locs h hW => ?_)
    refine lv_istore (lv' := [(5, .int zr2), (4, .int 0), (3, .int a1), (0, .ref (zad w k)), (1, .int a1), (2, .int a2)]) hx hb dX3_standAs_9 hl (Nat.le_of_ble_eq_true rfl) rfl (fun ls hl => ?_)
    refine lv_iconst hx hb dX3_standAs_11 zc_i0 ?_
    refine lv_istore (lv' := [(6, .int 0), (5, .int zr2), (4, .int 0), (3, .int a1), (0, .ref (zad w k)), (1, .int a1), (2, .int a2)]) hx hb dX3_standAs_12 hl (Nat.le_of_ble_eq_true rfl) rfl (fun ls hl => ?_)
    obtain ⟨n, h⟩ := h
    refine zL_14   n a1 0 zr2 0 zm1 H locs ls hW (lv_sub hl [4, 6, 3, 2, 1, 0] rfl) h
  exact zMain s.heap [] ls hW hl
def wp_Parts_takeFrom (k : Nat) (t1 : Nat) (t2 : Nat) (M : zMem) (Q : zMem → Prop) : Prop :=
  ∀ zm1 : zMem, zm1 = zup M k 1 (M t2 6) → ∀ zm2 : zMem, zm2 = zup zm1 k 2 (zm1 t2 7) → zcpok 0 0 5 5 5 ∧ ∀ zm3 : zMem, zm3 = zcopyM zm2 (t1 + 4) (k + 1) 0 0 5 → Q zm3
set_option maxHeartbeats 4000000 in
set_option maxRecDepth 20000 in
theorem c_Parts_takeFrom {l : Launch} {w : zWd} {k : Nat} {t1 : Nat} {t2 : Nat} {M : zMem} {post : zMem → Prop} (h0 : zI_Parts w k) (h1 : zI_Told w t1) (h2 : zI_Ring w t2) (h : wp_Parts_takeFrom k t1 t2 M post) : zMv l ⟨"HandToHand$Parts", "takeFrom", "(LHandToHand$Told;LHandToHand$Ring;)V"⟩ prog_6_method_2_code 3 none 1 30 w [.ref (zad w k), .ref (zad w t1), .ref (zad w t2)] M post := by
  refine zMet (by decide) (Nat.le_of_ble_eq_true rfl) ?_
  intro p e s m below meth c X hr hlk hml hW ls hl
  have hx := X.1
  have hb := X.2.1
  have hl : lv_has ls 3 [(0, .ref (zad w k)), (1, .ref (zad w t1)), (2, .ref (zad w t2))] := hl
  unfold wp_Parts_takeFrom at h
  have zMain : ∀ (H : Heap) (locs : List Loc) (ls : Array Slot), zWo w s.heap M H locs → lv_has ls 3 [(0, .ref (zad w k)), (1, .ref (zad w t1)), (2, .ref (zad w t2))] → W p l e (zRm 1 30) s m ([.ref (zad w k), .ref (zad w t1), .ref (zad w t2)] : List Value).toArray below meth c H locs 0 0 (MQ below (va_Qv post (zB w) (zA w)) ([.ref (zad w k), .ref (zad w t1), .ref (zad w t2)] : List Value).toArray s 0 0 (zA w)) (F0 m 0 ls []) := by
    intro H locs ls hW hl
    refine lv_aload_n hx hb dX4_takeFrom_0 rfl (lv_at hl 0 rfl) ?_
    refine lv_aload_n hx hb dX4_takeFrom_1 rfl (lv_at hl 2 rfl) ?_
    refine zg_Ring_top X hW h2 zu_306 dX4_takeFrom_2 ?_
    refine zp_Parts_top X hW h0 zu_355 dX4_takeFrom_5 (fun H locs zm1 ezm1 hW => ?_)
    replace h := h zm1 ezm1
    refine lv_aload_n hx hb dX4_takeFrom_8 rfl (lv_at hl 0 rfl) ?_
    refine lv_aload_n hx hb dX4_takeFrom_9 rfl (lv_at hl 2 rfl) ?_
    refine zg_Ring_bottom X hW h2 zu_309 dX4_takeFrom_10 ?_
    refine zp_Parts_bottom X hW h0 zu_357 dX4_takeFrom_13 (fun H locs zm2 ezm2 hW => ?_)
    replace h := h zm2 ezm2
    refine lv_aload_n hx hb dX4_takeFrom_16 rfl (lv_at hl 1 rfl) ?_
    refine zg_Told_ends X hW h1 zu_69 dX4_takeFrom_17 ?_
    refine lv_iconst hx hb dX4_takeFrom_20 zc_i0 ?_
    refine lv_aload_n hx hb dX4_takeFrom_21 rfl (lv_at hl 0 rfl) ?_
    refine zg_Parts_ends X hW h0 zu_359 dX4_takeFrom_22 ?_
    refine lv_iconst hx hb dX4_takeFrom_25 zc_i0 ?_
    refine lv_iconst hx hb dX4_takeFrom_26 zc_i5 ?_
    obtain ⟨g, h⟩ := h
    refine zcopy X hml hl hW h1.2.2.2.2 h0.2 zu_950 g ⟨Nat.le_of_ble_eq_true rfl, Nat.le_of_ble_eq_true rfl⟩ dX4_takeFrom_27 (fun H locs zm3 ezm3 hW => ?_)
    replace h := h zm3 ezm3
    exact zretv X hr hlk hW h dX4_takeFrom_30
  exact zMain s.heap [] ls hW hl
