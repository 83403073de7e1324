def wp_Model_learnt (a1 : Int32) (a2 : Int32) (M : zMem) (Q : Int32 → zMem → Prop) : Prop :=
  wp_Model_isHand a1 M (fun zr2 zm1 => (zr2 = 0 → Q ((-1)) zm1) ∧ (¬ zr2 = 0 → wp_Model_isPiece a2 zm1 (fun zr4 zm3 => (zr4 = 0 → Q ((-1)) zm3) ∧ (¬ zr4 = 0 → wp_Model_learntAt 0 a1 a2 zm3 (fun zr6 zm5 => vp_in zr6 384 ∧ Q (zm5 6 (ix zr6)) zm5)))))
set_option maxHeartbeats 4000000 in
set_option maxRecDepth 20000 in
theorem c_Model_learnt {l : Launch} {w : zWd} {a1 : Int32} {a2 : Int32} {M : zMem} {post : Int32 → zMem → Prop} (h0 : zI_Model w) (h : wp_Model_learnt a1 a2 M post) : zMi l ⟨"HandToHandModel", "learnt", "(II)I"⟩ prog_13_method_55_code 3 (Option.some .int) 2 46 w [.ref (zad w 0), .int a1, .int a2] M post := by
  refine zMet (by decide) (Nat.le_of_ble_eq_true rfl) ?_
  intro p e s m below meth c X hr hlk hml hW ls hl
  have hx := X.1
  have hb := X.2.1
  have hl : lv_has ls 3 [(0, .ref (zad w 0)), (1, .int a1), (2, .int a2)] := hl
  unfold wp_Model_learnt at h
  have zMain : ∀ (H : Heap) (locs : List Loc) (ls : Array Slot), zWo w s.heap M H locs → lv_has ls 3 [(0, .ref (zad w 0)), (1, .int a1), (2, .int a2)] → W p l e (zRm 2 46) s m ([.ref (zad w 0), .int a1, .int a2] : List Value).toArray below meth c H locs 0 0 (MQ below (va_Qi post (zB w) (zA w)) ([.ref (zad w 0), .int a1, .int a2] : List Value).toArray s 0 0 (zA w)) (F0 m 0 ls []) := by
    intro H locs ls hW hl
    refine lv_aload_n hx hb dX11_learnt_0 rfl (lv_at hl 0 rfl) ?_
    refine lv_iload_n hx hb dX11_learnt_1 rfl (lv_at hl 1 rfl) ?_
    refine zcalli (zrunV (As := [.int a1]) (rest := []) X hml hl hW h0.1 rfl zk_Model_166 (c_Model_isHand h0 h) rfl ⟨Nat.le_of_ble_eq_true rfl, Nat.le_of_ble_eq_true rfl⟩ ⟨Nat.le_refl 0, Nat.le_refl 0⟩ rfl (Nat.le_of_ble_eq_true rfl) dX11_learnt_2) hW (fun zr2 zm1 H locs h hW => ?_)
    refine lv_if_eq (tgt := 31) hx hb dX11_learnt_5 rfl (fun c => ?_) (fun c => ?_)
    · replace h := h.1 c
      refine lv_iconst hx hb dX11_learnt_31 zc_im1 ?_
      exact zreti X hr hlk hW h dX11_learnt_32
    · replace h := h.2 c
      refine lv_aload_n hx hb dX11_learnt_8 rfl (lv_at hl 0 rfl) ?_
      refine lv_iload_n hx hb dX11_learnt_9 rfl (lv_at hl 2 rfl) ?_
      refine zcalli (zrunV (As := [.int a2]) (rest := []) X hml hl hW h0.1 rfl zk_Model_175 (c_Model_isPiece h0 h) rfl ⟨Nat.le_of_ble_eq_true rfl, Nat.le_of_ble_eq_true rfl⟩ ⟨Nat.le_refl 0, Nat.le_refl 0⟩ rfl (Nat.le_of_ble_eq_true rfl) dX11_learnt_10) hW (fun zr4 zm3 H locs h hW => ?_)
      refine lv_if_eq (tgt := 31) hx hb dX11_learnt_13 rfl (fun c => ?_) (fun c => ?_)
      · replace h := h.1 c
        refine lv_iconst hx hb dX11_learnt_31 zc_im1 ?_
        exact zreti X hr hlk hW h dX11_learnt_32
      · replace h := h.2 c
        refine lv_aload_n hx hb dX11_learnt_16 rfl (lv_at hl 0 rfl) ?_
        refine zg_Model_bench X hW h0 zu_1036 dX11_learnt_17 ?_
        refine lv_aload_n hx hb dX11_learnt_20 rfl (lv_at hl 0 rfl) ?_
        refine lv_iconst hx hb dX11_learnt_21 zc_i0 ?_
        refine lv_iload_n hx hb dX11_learnt_22 rfl (lv_at hl 1 rfl) ?_
        refine lv_iload_n hx hb dX11_learnt_23 rfl (lv_at hl 2 rfl) ?_
        refine zcalli (zrunV (As := [.int 0, .int a1, .int a2]) (rest := [.ref (zad w 6)]) X hml hl hW h0.1 rfl zk_Model_185 (c_Model_learntAt h0 h) rfl ⟨Nat.le_of_ble_eq_true rfl, Nat.le_of_ble_eq_true rfl⟩ ⟨Nat.le_refl 0, Nat.le_refl 0⟩ rfl (Nat.le_of_ble_eq_true rfl) dX11_learnt_24) hW (fun zr6 zm5 H locs h hW => ?_)
        obtain ⟨g, h⟩ := h
        refine ziald X hW h0.2.2.2.2.2.2.1 g dX11_learnt_27 ?_
        refine lv_goto (tgt := 32) hx hb dX11_learnt_28 rfl ?_
        exact zreti X hr hlk hW h dX11_learnt_32
  exact zMain s.heap [] ls hW hl
def wp_Model_takes (a1 : Int32) (a2 : Int32) (M : zMem) (Q : Int32 → zMem → Prop) : Prop :=
  wp_Model_isHand a1 M (fun zr2 zm1 => (zr2 = 0 → Q ((-1)) zm1) ∧ (¬ zr2 = 0 → wp_Model_isPiece a2 zm1 (fun zr4 zm3 => (zr4 = 0 → Q ((-1)) zm3) ∧ (¬ zr4 = 0 → wp_Model_ticksOf 0 a1 a2 zm3 (fun zr6 zm5 => Q zr6 zm5)))))
set_option maxHeartbeats 4000000 in
set_option maxRecDepth 20000 in
theorem c_Model_takes {l : Launch} {w : zWd} {a1 : Int32} {a2 : Int32} {M : zMem} {post : Int32 → zMem → Prop} (h0 : zI_Model w) (h : wp_Model_takes a1 a2 M post) : zMi l ⟨"HandToHandModel", "takes", "(II)I"⟩ prog_13_method_56_code 3 (Option.some .int) 2 47 w [.ref (zad w 0), .int a1, .int a2] M post := by
  refine zMet (by decide) (Nat.le_of_ble_eq_true rfl) ?_
  intro p e s m below meth c X hr hlk hml hW ls hl
  have hx := X.1
  have hb := X.2.1
  have hl : lv_has ls 3 [(0, .ref (zad w 0)), (1, .int a1), (2, .int a2)] := hl
  unfold wp_Model_takes at h
  have zMain : ∀ (H : Heap) (locs : List Loc) (ls : Array Slot), zWo w s.heap M H locs → lv_has ls 3 [(0, .ref (zad w 0)), (1, .int a1), (2, .int a2)] → W p l e (zRm 2 47) s m ([.ref (zad w 0), .int a1, .int a2] : List Value).toArray below meth c H locs 0 0 (MQ below (va_Qi post (zB w) (zA w)) ([.ref (zad w 0), .int a1, .int a2] : List Value).toArray s 0 0 (zA w)) (F0 m 0 ls []) := by
    intro H locs ls hW hl
    refine lv_aload_n hx hb dX11_takes_0 rfl (lv_at hl 0 rfl) ?_
    refine lv_iload_n hx hb dX11_takes_1 rfl (lv_at hl 1 rfl) ?_
    refine zcalli (zrunV (As := [.int a1]) (rest := []) X hml hl hW h0.1 rfl zk_Model_166 (c_Model_isHand h0 h) rfl ⟨Nat.le_of_ble_eq_true rfl, Nat.le_of_ble_eq_true rfl⟩ ⟨Nat.le_refl 0, Nat.le_refl 0⟩ rfl (Nat.le_of_ble_eq_true rfl) dX11_takes_2) hW (fun zr2 zm1 H locs h hW => ?_)
    refine lv_if_eq (tgt := 26) hx hb dX11_takes_5 rfl (fun c => ?_) (fun c => ?_)
    · replace h := h.1 c
      refine lv_iconst hx hb dX11_takes_26 zc_im1 ?_
      exact zreti X hr hlk hW h dX11_takes_27
    · replace h := h.2 c
      refine lv_aload_n hx hb dX11_takes_8 rfl (lv_at hl 0 rfl) ?_
      refine lv_iload_n hx hb dX11_takes_9 rfl (lv_at hl 2 rfl) ?_
      refine zcalli (zrunV (As := [.int a2]) (rest := []) X hml hl hW h0.1 rfl zk_Model_175 (c_Model_isPiece h0 h) rfl ⟨Nat.le_of_ble_eq_true rfl, Nat.le_of_ble_eq_true rfl⟩ ⟨Nat.le_refl 0, Nat.le_refl 0⟩ rfl (Nat.le_of_ble_eq_true rfl) dX11_takes_10) hW (fun zr4 zm3 H locs h hW => ?_)
      refine lv_if_eq (tgt := 26) hx hb dX11_takes_13 rfl (fun c => ?_) (fun c => ?_)
      · replace h := h.1 c
        refine lv_iconst hx hb dX11_takes_26 zc_im1 ?_
        exact zreti X hr hlk hW h dX11_takes_27
      · replace h := h.2 c
        refine lv_aload_n hx hb dX11_takes_16 rfl (lv_at hl 0 rfl) ?_
        refine lv_iconst hx hb dX11_takes_17 zc_i0 ?_
        refine lv_iload_n hx hb dX11_takes_18 rfl (lv_at hl 1 rfl) ?_
        refine lv_iload_n hx hb dX11_takes_19 rfl (lv_at hl 2 rfl) ?_
        refine zcalli (zrunV (As := [.int 0, .int a1, .int a2]) (rest := []) X hml hl hW h0.1 rfl zk_Model_231 (c_Model_ticksOf h0 h) rfl ⟨Nat.le_of_ble_eq_true rfl, Nat.le_of_ble_eq_true rfl⟩ ⟨Nat.le_refl 0, Nat.le_refl 0⟩ rfl (Nat.le_of_ble_eq_true rfl) dX11_takes_20) hW (fun zr6 zm5 H locs h hW => ?_)
        refine lv_goto (tgt := 27) hx hb dX11_takes_23 rfl ?_
        exact zreti X hr hlk hW h dX11_takes_27
  exact zMain s.heap [] ls hW hl
def wpB_Model_keep_18 (a1 : Int32)  (K49 : zMem → Prop) (Q : Int32 → zMem → Prop) (J : Int32 → zMem → Prop) (x_2 : Int32) (M : zMem) : Prop :=
  (96 ≤ x_2 → K49 M) ∧ (¬ 96 ≤ x_2 → vp_in x_2 384 ∧ vp_in ((96 * (2 + a1)) + x_2) 384 ∧ ∀ zm5 : zMem, zm5 = zup M 6 (ix ((96 * (2 + a1)) + x_2)) (M 6 (ix x_2)) → ∀ zx6 : Int32, zx6 = x_2 + 1 → J zx6 zm5)
def wp_Model_keep (a1 : Int32) (M : zMem) (Q : Int32 → zMem → Prop) : Prop :=
  wp_Model_in a1.toInt64 0 1 M (fun zr2 zm1 => (¬ zr2 = 0 → wp_Model_awake zm1 (fun zm3 => ∃ n : Nat, zlp1 (wpB_Model_keep_18 a1  (fun (zm7 : zMem) => vp_in a1 2 ∧ ((zm7 7 (ix a1)) = 0 → vp_in a1 2 ∧ ∀ zm8 : zMem, zm8 = zup zm7 7 (ix a1) (vp_nar .boolean 1) → Q 0 zm8) ∧ (¬ (zm7 7 (ix a1)) = 0 → vp_in a1 2 ∧ ∀ zm9 : zMem, zm9 = zup zm7 7 (ix a1) (vp_nar .boolean 1) → Q 1 zm9)) Q) n 0 zm3)) ∧ (zr2 = 0 → Q ((-1)) zm1))
set_option maxHeartbeats 4000000 in
set_option maxRecDepth 20000 in
theorem c_Model_keep {l : Launch} {w : zWd} {a1 : Int32} {M : zMem} {post : Int32 → zMem → Prop} (h0 : zI_Model w) (h : wp_Model_keep a1 M post) : zMi l ⟨"HandToHandModel", "keep", "(I)I"⟩ prog_13_method_57_code 3 (Option.some .int) 8 187 w [.ref (zad w 0), .int a1] M post := by
  refine zMet (by decide) (Nat.le_of_ble_eq_true rfl) ?_
  intro p e s m below meth c X hr hlk hml hW ls hl
  have hx := X.1
  have hb := X.2.1
  have hl : lv_has ls 3 [(0, .ref (zad w 0)), (1, .int a1)] := hl
  have zL_18 : ∀ (K49 : zMem → Prop) (zK49 : ∀ (M : zMem) (H : Heap) (locs : List Loc) (ls : Array Slot), zWo w s.heap M H locs → lv_has ls 3 [(0, .ref (zad w 0)), (1, .int a1)] → K49 M → W p l e (zRm 8 187) s m ([.ref (zad w 0), .int a1] : List Value).toArray below meth c H locs 0 0 (MQ below (va_Qi post (zB w) (zA w)) ([.ref (zad w 0), .int a1] : List Value).toArray s 0 0 (zA w)) (F0 m 49 ls [])), ∀ (n : Nat) (x_2 : Int32) (M : zMem) (H : Heap) (locs : List Loc) (ls : Array Slot), zWo w s.heap M H locs → lv_has ls 3 [(0, .ref (zad w 0)), (1, .int a1), (2, .int x_2)] → zlp1 (wpB_Model_keep_18 a1  K49 post) n x_2 M → W p l e (zRm 8 187) s m ([.ref (zad w 0), .int a1] : List Value).toArray below meth c H locs 0 0 (MQ below (va_Qi post (zB w) (zA w)) ([.ref (zad w 0), .int a1] : List Value).toArray s 0 0 (zA w)) (F0 m 18 ls []) := by
    intro K49 zK49 n
    induction n with
    | zero => intro x_2 M H locs ls hW hl h; exact h.elim
    | succ n zJ =>
      intro x_2 M H locs ls hW hl h
      have h : wpB_Model_keep_18 a1  K49 post (zlp1 (wpB_Model_keep_18 a1  K49 post) n) x_2 M := h
      unfold wpB_Model_keep_18 at h
      refine lv_iload_n hx hb dX11_keep_18 rfl (lv_at hl 2 rfl) ?_
      refine lv_bipush hx hb dX11_keep_19 zc_b96 ?_
      refine lv_icmp_ge (tgt := 49) hx hb dX11_keep_21 rfl (fun c => ?_) (fun c => ?_)
      · replace h := h.1 c
        exact zK49 M H locs ls hW (lv_sub hl [0, 1] rfl) h
      · replace h := h.2 c
        refine lv_aload_n hx hb dX11_keep_24 rfl (lv_at hl 0 rfl) ?_
        refine zg_Model_bench X hW h0 zu_1036 dX11_keep_25 ?_
        refine lv_bipush hx hb dX11_keep_28 zc_b96 ?_
        refine lv_iconst hx hb dX11_keep_30 zc_i2 ?_
        refine lv_iload_n hx hb dX11_keep_31 rfl (lv_at hl 1 rfl) ?_
        refine lv_iadd hx hb dX11_keep_32 ?_
        refine lv_imul hx hb dX11_keep_33 ?_
        refine lv_iload_n hx hb dX11_keep_34 rfl (lv_at hl 2 rfl) ?_
        refine lv_iadd hx hb dX11_keep_35 ?_
        refine lv_aload_n hx hb dX11_keep_36 rfl (lv_at hl 0 rfl) ?_
        refine zg_Model_bench X hW h0 zu_1036 dX11_keep_37 ?_
        refine lv_iload_n hx hb dX11_keep_40 rfl (lv_at hl 2 rfl) ?_
        obtain ⟨g, h⟩ := h
        refine ziald X hW h0.2.2.2.2.2.2.1 g dX11_keep_41 ?_
        obtain ⟨g, h⟩ := h
        refine ziast X hW h0.2.2.2.2.2.2.1 g dX11_keep_42 (fun H locs zm5 ezm5 hW => ?_)
        replace h := h zm5 ezm5
        obtain ⟨zx6, ezx6⟩ : ∃ y : Int32, y = x_2 + 1 := ⟨_, rfl⟩
        replace h := h zx6 ezx6
        refine lv_iinc (v := zx6) (lv' := [(2, .int zx6), (0, .ref (zad w 0)), (1, .int a1)]) hx hb dX11_keep_43 hl (k := 2) rfl (by rw [ezx6, zc_i1]) (Nat.le_of_ble_eq_true rfl) rfl (fun ls hl => ?_)
        refine lv_goto (tgt := 18) hx hb dX11_keep_46 rfl ?_
        exact zJ zx6 zm5 H locs ls hW (lv_sub hl [1, 2, 0] rfl) h
  unfold wp_Model_keep at h
  have zMain : ∀ (H : Heap) (locs : List Loc) (ls : Array Slot), zWo w s.heap M H locs → lv_has ls 3 [(0, .ref (zad w 0)), (1, .int a1)] → W p l e (zRm 8 187) s m ([.ref (zad w 0), .int a1] : List Value).toArray below meth c H locs 0 0 (MQ below (va_Qi post (zB w) (zA w)) ([.ref (zad w 0), .int a1] : List Value).toArray s 0 0 (zA w)) (F0 m 0 ls []) := by
    intro H locs ls hW hl
    refine lv_iload_n hx hb dX11_keep_0 rfl (lv_at hl 1 rfl) ?_
    refine lv_i2l hx hb dX11_keep_1 rfl ?_
    refine lv_lconst hx hb dX11_keep_2 zc_l0 ?_
    refine lv_lconst hx hb dX11_keep_3 zc_l1 ?_
    refine zcalli (zrunS (As := [.long a1.toInt64, .long 0, .long 1]) (rest := []) X hml hl hW zk_Model_69 (c_Model_in  h) rfl ⟨Nat.le_of_ble_eq_true rfl, Nat.le_of_ble_eq_true rfl⟩ ⟨Nat.le_refl 0, Nat.le_refl 0⟩ rfl (Nat.le_of_ble_eq_true rfl) dX11_keep_4) hW (fun zr2 zm1 H locs h hW => ?_)
    refine lv_if_ne (tgt := 12) hx hb dX11_keep_7 rfl (fun c => ?_) (fun c => ?_)
    · replace h := h.1 c
      refine lv_aload_n hx hb dX11_keep_12 rfl (lv_at hl 0 rfl) ?_
      refine zcallv (zrunV (As := []) (rest := []) X hml hl hW h0.1 rfl zk_Model_180 (c_Model_awake h0 h) rfl ⟨Nat.le_of_ble_eq_true rfl, Nat.le_of_ble_eq_true rfl⟩ ⟨Nat.le_refl 0, Nat.le_refl 0⟩ rfl (Nat.le_of_ble_eq_true rfl) dX11_keep_13) hW (fun zm3 H locs h hW => ?_)
      refine lv_iconst hx hb dX11_keep_16 zc_i0 ?_
      refine lv_istore_n (lv' := [(2, .int 0), (0, .ref (zad w 0)), (1, .int a1)]) hx hb dX11_keep_17 rfl hl (Nat.le_of_ble_eq_true rfl) rfl (fun ls hl => ?_)
      obtain ⟨n, h⟩ := h
      refine zL_18  _ (fun  zm7 H locs ls hW hl h => ?_) n 0 zm3 H locs ls hW (lv_sub hl [1, 2, 0] rfl) h
      · skip
        refine lv_aload_n hx hb dX11_keep_49 rfl (lv_at hl 0 rfl) ?_
        refine zg_Model_isKept X hW h0 zu_1037 dX11_keep_50 ?_
        refine lv_iload_n hx hb dX11_keep_53 rfl (lv_at hl 1 rfl) ?_
        obtain ⟨g, h⟩ := h
        refine zzald X hW h0.2.2.2.2.2.2.2.2.2.2.2.2.2.2.2.2.2.2 g dX11_keep_54 ?_
        refine lv_if_eq (tgt := 62) hx hb dX11_keep_55 rfl (fun c => ?_) (fun c => ?_)
        · replace h := h.1 c
          refine lv_iconst hx hb dX11_keep_62 zc_i0 ?_
          refine lv_istore_n (lv' := [(2, .int 0), (0, .ref (zad w 0)), (1, .int a1)]) hx hb dX11_keep_63 rfl hl (Nat.le_of_ble_eq_true rfl) rfl (fun ls hl => ?_)
          refine lv_aload_n hx hb dX11_keep_64 rfl (lv_at hl 1 rfl) ?_
          refine zg_Model_isKept X hW h0 zu_1037 dX11_keep_65 ?_
          refine lv_iload_n hx hb dX11_keep_68 rfl (lv_at hl 2 rfl) ?_
          refine lv_iconst hx hb dX11_keep_69 zc_i1 ?_
          obtain ⟨g, h⟩ := h
          refine zzast X hW h0.2.2.2.2.2.2.2.2.2.2.2.2.2.2.2.2.2.2 g dX11_keep_70 (fun H locs zm8 ezm8 hW => ?_)
          replace h := h zm8 ezm8
          refine lv_iload_n hx hb dX11_keep_71 rfl (lv_at hl 0 rfl) ?_
          exact zreti X hr hlk hW h dX11_keep_72
        · replace h := h.2 c
          refine lv_iconst hx hb dX11_keep_58 zc_i1 ?_
          refine lv_goto (tgt := 63) hx hb dX11_keep_59 rfl ?_
          refine lv_istore_n (lv' := [(2, .int 1), (0, .ref (zad w 0)), (1, .int a1)]) hx hb dX11_keep_63 rfl hl (Nat.le_of_ble_eq_true rfl) rfl (fun ls hl => ?_)
          refine lv_aload_n hx hb dX11_keep_64 rfl (lv_at hl 1 rfl) ?_
          refine zg_Model_isKept X hW h0 zu_1037 dX11_keep_65 ?_
          refine lv_iload_n hx hb dX11_keep_68 rfl (lv_at hl 2 rfl) ?_
          refine lv_iconst hx hb dX11_keep_69 zc_i1 ?_
          obtain ⟨g, h⟩ := h
          refine zzast X hW h0.2.2.2.2.2.2.2.2.2.2.2.2.2.2.2.2.2.2 g dX11_keep_70 (fun H locs zm9 ezm9 hW => ?_)
          replace h := h zm9 ezm9
          refine lv_iload_n hx hb dX11_keep_71 rfl (lv_at hl 0 rfl) ?_
          exact zreti X hr hlk hW h dX11_keep_72
    · replace h := h.2 c
      refine lv_iconst hx hb dX11_keep_10 zc_im1 ?_
      exact zreti X hr hlk hW h dX11_keep_11
  exact zMain s.heap [] ls hW hl
def wpB_Model_back_26 (a1 : Int32)   (Q : Int32 → zMem → Prop) (J : Int32 → zMem → Prop) (x_2 : Int32) (M : zMem) : Prop :=
  (96 ≤ x_2 → wp_Model_of 0 0 M (fun zr4 zm3 => Q zr4 zm3)) ∧ (¬ 96 ≤ x_2 → vp_in ((96 * (2 + a1)) + x_2) 384 ∧ vp_in x_2 384 ∧ ∀ zm5 : zMem, zm5 = zup M 6 (ix x_2) (M 6 (ix ((96 * (2 + a1)) + x_2))) → ∀ zx6 : Int32, zx6 = x_2 + 1 → J zx6 zm5)
def wp_Model_back (a1 : Int32) (M : zMem) (Q : Int32 → zMem → Prop) : Prop :=
  wp_Model_in a1.toInt64 0 1 M (fun zr2 zm1 => (¬ zr2 = 0 → vp_in a1 2 ∧ (¬ (zm1 7 (ix a1)) = 0 → ∃ n : Nat, zlp1 (wpB_Model_back_26 a1   Q) n 0 zm1) ∧ ((zm1 7 (ix a1)) = 0 → Q ((-2)) zm1)) ∧ (zr2 = 0 → Q ((-1)) zm1))
set_option maxHeartbeats 4000000 in
set_option maxRecDepth 20000 in
theorem c_Model_back {l : Launch} {w : zWd} {a1 : Int32} {M : zMem} {post : Int32 → zMem → Prop} (h0 : zI_Model w) (h : wp_Model_back a1 M post) : zMi l ⟨"HandToHandModel", "back", "(I)I"⟩ prog_13_method_58_code 3 (Option.some .int) 1 25 w [.ref (zad w 0), .int a1] M post := by
  refine zMet (by decide) (Nat.le_of_ble_eq_true rfl) ?_
  intro p e s m below meth c X hr hlk hml hW ls hl
  have hx := X.1
  have hb := X.2.1
  have hl : lv_has ls 3 [(0, .ref (zad w 0)), (1, .int a1)] := hl
  have zL_26 :  ∀ (n : Nat) (x_2 : Int32) (M : zMem) (H : Heap) (locs : List Loc) (ls : Array Slot), zWo w s.heap M H locs → lv_has ls 3 [(0, .ref (zad w 0)), (1, .int a1), (2, .int x_2)] → zlp1 (wpB_Model_back_26 a1   post) n x_2 M → W p l e (zRm 1 25) s m ([.ref (zad w 0), .int a1] : List Value).toArray below meth c H locs 0 0 (MQ below (va_Qi post (zB w) (zA w)) ([.ref (zad w 0), .int a1] : List Value).toArray s 0 0 (zA w)) (F0 m 26 ls []) := by
    intro n
    induction n with
    | zero => intro x_2 M H locs ls hW hl h; exact h.elim
    | succ n zJ =>
      intro x_2 M H locs ls hW hl h
      have h : wpB_Model_back_26 a1   post (zlp1 (wpB_Model_back_26 a1   post) n) x_2 M := h
      unfold wpB_Model_back_26 at h
      refine lv_iload_n hx hb dX11_back_26 rfl (lv_at hl 2 rfl) ?_
      refine lv_bipush hx hb dX11_back_27 zc_b96 ?_
      refine lv_icmp_ge (tgt := 57) hx hb dX11_back_29 rfl (fun c => ?_) (fun c => ?_)
      · replace h := h.1 c
        refine lv_aload_n hx hb dX11_back_57 rfl (lv_at hl 0 rfl) ?_
        refine lv_iconst hx hb dX11_back_58 zc_i0 ?_
        refine lv_iconst hx hb dX11_back_59 zc_i0 ?_
        refine zcalli (zrunV (As := [.int 0, .int 0]) (rest := []) X hml hl hW h0.1 rfl zk_Model_218 (c_Model_of h0 h) rfl ⟨Nat.le_of_ble_eq_true rfl, Nat.le_of_ble_eq_true rfl⟩ ⟨Nat.le_refl 0, Nat.le_refl 0⟩ rfl (Nat.le_of_ble_eq_true rfl) dX11_back_60) hW (fun zr4 zm3 H locs h hW => ?_)
        exact zreti X hr hlk hW h dX11_back_63
      · replace h := h.2 c
        refine lv_aload_n hx hb dX11_back_32 rfl (lv_at hl 0 rfl) ?_
        refine zg_Model_bench X hW h0 zu_1036 dX11_back_33 ?_
        refine lv_iload_n hx hb dX11_back_36 rfl (lv_at hl 2 rfl) ?_
        refine lv_aload_n hx hb dX11_back_37 rfl (lv_at hl 0 rfl) ?_
        refine zg_Model_bench X hW h0 zu_1036 dX11_back_38 ?_
        refine lv_bipush hx hb dX11_back_41 zc_b96 ?_
        refine lv_iconst hx hb dX11_back_43 zc_i2 ?_
        refine lv_iload_n hx hb dX11_back_44 rfl (lv_at hl 1 rfl) ?_
        refine lv_iadd hx hb dX11_back_45 ?_
        refine lv_imul hx hb dX11_back_46 ?_
        refine lv_iload_n hx hb dX11_back_47 rfl (lv_at hl 2 rfl) ?_
        refine lv_iadd hx hb dX11_back_48 ?_
        obtain ⟨g, h⟩ := h
        refine ziald X hW h0.2.2.2.2.2.2.1 g dX11_back_49 ?_
        obtain ⟨g, h⟩ := h
        refine ziast X hW h0.2.2.2.2.2.2.1 g dX11_back_50 (fun H locs zm5 ezm5 hW => ?_)
        replace h := h zm5 ezm5
        obtain ⟨zx6, ezx6⟩ : ∃ y : Int32, y = x_2 + 1 := ⟨_, rfl⟩
        replace h := h zx6 ezx6
        refine lv_iinc (v := zx6) (lv' := [(2, .int zx6), (0, .ref (zad w 0)), (1, .int a1)]) hx hb dX11_back_51 hl (k := 2) rfl (by rw [ezx6, zc_i1]) (Nat.le_of_ble_eq_true rfl) rfl (fun ls hl => ?_)
        refine lv_goto (tgt := 26) hx hb dX11_back_54 rfl ?_
        exact zJ zx6 zm5 H locs ls hW (lv_sub hl [1, 2, 0] rfl) h
  unfold wp_Model_back at h
  have zMain : ∀ (H : Heap) (locs : List Loc) (ls : Array Slot), zWo w s.heap M H locs → lv_has ls 3 [(0, .ref (zad w 0)), (1, .int a1)] → W p l e (zRm 1 25) s m ([.ref (zad w 0), .int a1] : List Value).toArray below meth c H locs 0 0 (MQ below (va_Qi post (zB w) (zA w)) ([.ref (zad w 0), .int a1] : List Value).toArray s 0 0 (zA w)) (F0 m 0 ls []) := by
    intro H locs ls hW hl
    refine lv_iload_n hx hb dX11_back_0 rfl (lv_at hl 1 rfl) ?_
    refine lv_i2l hx hb dX11_back_1 rfl ?_
    refine lv_lconst hx hb dX11_back_2 zc_l0 ?_
    refine lv_lconst hx hb dX11_back_3 zc_l1 ?_
    refine zcalli (zrunS (As := [.long a1.toInt64, .long 0, .long 1]) (rest := []) X hml hl hW zk_Model_69 (c_Model_in  h) rfl ⟨Nat.le_of_ble_eq_true rfl, Nat.le_of_ble_eq_true rfl⟩ ⟨Nat.le_refl 0, Nat.le_refl 0⟩ rfl (Nat.le_of_ble_eq_true rfl) dX11_back_4) hW (fun zr2 zm1 H locs h hW => ?_)
    refine lv_if_ne (tgt := 12) hx hb dX11_back_7 rfl (fun c => ?_) (fun c => ?_)
    · replace h := h.1 c
      refine lv_aload_n hx hb dX11_back_12 rfl (lv_at hl 0 rfl) ?_
      refine zg_Model_isKept X hW h0 zu_1037 dX11_back_13 ?_
      refine lv_iload_n hx hb dX11_back_16 rfl (lv_at hl 1 rfl) ?_
      obtain ⟨g, h⟩ := h
      refine zzald X hW h0.2.2.2.2.2.2.2.2.2.2.2.2.2.2.2.2.2.2 g dX11_back_17 ?_
      refine lv_if_ne (tgt := 24) hx hb dX11_back_18 rfl (fun c => ?_) (fun c => ?_)
      · replace h := h.1 c
        refine lv_iconst hx hb dX11_back_24 zc_i0 ?_
        refine lv_istore_n (lv' := [(2, .int 0), (0, .ref (zad w 0)), (1, .int a1)]) hx hb dX11_back_25 rfl hl (Nat.le_of_ble_eq_true rfl) rfl (fun ls hl => ?_)
        obtain ⟨n, h⟩ := h
        refine zL_26   n 0 zm1 H locs ls hW (lv_sub hl [1, 2, 0] rfl) h
      · replace h := h.2 c
        refine lv_bipush hx hb dX11_back_21 zc_bm2 ?_
        exact zreti X hr hlk hW h dX11_back_23
    · replace h := h.2 c
      refine lv_iconst hx hb dX11_back_10 zc_im1 ?_
      exact zreti X hr hlk hW h dX11_back_11
  exact zMain s.heap [] ls hW hl
def wpJ_Model_laySeen_57  (K93 : zMem → Prop) (J : Int32 → zMem → Prop) (Q : zMem → Prop) (x_1 : Int32) (x_2 : Int32) (x_3 : Int32) (s_0 : Int32) (M : zMem) : Prop :=
  (s_0 = 0 → vp_in ((x_1 + (5 * x_2)) + x_3) 9600 ∧ ∀ zm2 : zMem, zm2 = zup M 12 (ix ((x_1 + (5 * x_2)) + x_3)) 0 → ∀ zx3 : Int32, zx3 = x_3 + 1 → J zx3 zm2) ∧ (¬ s_0 = 0 → wp_Model_at 1 x_2 x_3 M (fun zr5 zm4 => vp_in ((x_1 + (5 * x_2)) + x_3) 9600 ∧ ∀ zm6 : zMem, zm6 = zup zm4 12 (ix ((x_1 + (5 * x_2)) + x_3)) zr5 → ∀ zx7 : Int32, zx7 = x_3 + 1 → J zx7 zm6))
def wpJ_Model_laySeen_52  (K93 : zMem → Prop) (J : Int32 → zMem → Prop) (Q : zMem → Prop) (x_1 : Int32) (x_2 : Int32) (x_3 : Int32)  (M : zMem) : Prop :=
  wpJ_Model_laySeen_57  K93 J Q x_1 x_2 x_3 1 M
def wpB_Model_laySeen_20  (x_1 : Int32) (x_2 : Int32) (K93 : zMem → Prop) (Q : zMem → Prop) (J : Int32 → zMem → Prop) (x_3 : Int32) (M : zMem) : Prop :=
  (4 < x_3 → K93 M) ∧ (¬ 4 < x_3 → (¬ x_3 = 1 → wpJ_Model_laySeen_52  K93 J Q x_1 x_2 x_3 M) ∧ (x_3 = 1 → wp_Model_at 1 x_2 0 M (fun zr9 zm8 => (zr9 = 3 → wpJ_Model_laySeen_52  K93 J Q x_1 x_2 x_3 zm8) ∧ (¬ zr9 = 3 → wp_Model_at 1 x_2 0 zm8 (fun zr11 zm10 => (¬ zr11 = 1 → wpJ_Model_laySeen_57  K93 J Q x_1 x_2 x_3 0 zm10) ∧ (zr11 = 1 → wpJ_Model_laySeen_52  K93 J Q x_1 x_2 x_3 zm10))))))
def wpB_Model_laySeen_95  (x_1 : Int32) (x_2 : Int32) (K199 : zMem → Prop) (Q : zMem → Prop) (J : Int32 → zMem → Prop) (x_3 : Int32) (M : zMem) : Prop :=
  (8 ≤ x_3 → K199 M) ∧ (¬ 8 ≤ x_3 → vp_in x_2 5 ∧ wp_Model_learntAt 1 (M 8 (ix x_2)) x_3 M (fun zr14 zm13 => vp_in zr14 384 ∧ ∀ zx15 : Int32, zx15 = zm13 6 (ix zr14) → vp_in 3 100 ∧ vp_in x_2 5 ∧ vp_in ((60 + (8 * (zm13 8 (ix x_2)))) + x_3) 100 ∧ ∀ zx16 : Int32, zx16 = (zm13 4 (ix 3)) * ((zm13 4 (ix ((60 + (8 * (zm13 8 (ix x_2)))) + x_3))) - 1) → vp_in 3 100 ∧ (¬ (zm13 4 (ix 3)) = 0 → (zx16 ≤ zx15 → vp_in (((x_1 + 30) + (8 * x_2)) + x_3) 9600 ∧ ∀ zm17 : zMem, zm17 = zup zm13 12 (ix (((x_1 + 30) + (8 * x_2)) + x_3)) zx16 → ∀ zx18 : Int32, zx18 = x_3 + 1 → J zx18 zm17) ∧ (¬ zx16 ≤ zx15 → vp_in (((x_1 + 30) + (8 * x_2)) + x_3) 9600 ∧ ∀ zm19 : zMem, zm19 = zup zm13 12 (ix (((x_1 + 30) + (8 * x_2)) + x_3)) zx15 → ∀ zx20 : Int32, zx20 = x_3 + 1 → J zx20 zm19)) ∧ ((zm13 4 (ix 3)) = 0 → vp_in (((x_1 + 30) + (8 * x_2)) + x_3) 9600 ∧ ∀ zm21 : zMem, zm21 = zup zm13 12 (ix (((x_1 + 30) + (8 * x_2)) + x_3)) 0 → ∀ zx22 : Int32, zx22 = x_3 + 1 → J zx22 zm21)))
def wpB_Model_laySeen_10  (x_1 : Int32) (K205 : zMem → Prop) (Q : zMem → Prop) (J : Int32 → zMem → Prop) (x_2 : Int32) (M : zMem) : Prop :=
  ((M 0 18) ≤ x_2 → K205 M) ∧ (¬ (M 0 18) ≤ x_2 → ∃ n : Nat, zlp1 (wpB_Model_laySeen_20  x_1 x_2 (fun (zm12 : zMem) => ∃ n : Nat, zlp1 (wpB_Model_laySeen_95  x_1 x_2 (fun (zm23 : zMem) => ∀ zx24 : Int32, zx24 = x_2 + 1 → J zx24 zm23) Q) n 0 zm12) Q) n 0 M)
def wp_Model_laySeen  (M : zMem) (Q : zMem → Prop) : Prop :=
  ∀ zx1 : Int32, zx1 = 80 * (M 0 28) → ∃ n : Nat, zlp1 (wpB_Model_laySeen_10  zx1 (fun (zm25 : zMem) => wp_Model_of 1 4 zm25 (fun zr27 zm26 => vp_in (zx1 + 25) 9600 ∧ ∀ zm28 : zMem, zm28 = zup zm26 12 (ix (zx1 + 25)) zr27 → wp_Model_of 1 1 zm28 (fun zr30 zm29 => vp_in (zm28 0 28) 120 ∧ ∀ zm31 : zMem, zm31 = zup zm29 13 (ix (zm28 0 28)) zr30 → wp_Model_of 1 0 zm31 (fun zr33 zm32 => vp_in (zm31 0 28) 120 ∧ ∀ zm34 : zMem, zm34 = zup zm32 14 (ix (zm31 0 28)) zr33 → ∀ zm35 : zMem, zm35 = zup zm34 0 28 ((zm34 0 28) + 1) → Q zm35)))) Q) n 0 M
set_option maxHeartbeats 4000000 in
set_option maxRecDepth 20000 in
theorem c_Model_laySeen {l : Launch} {w : zWd} {M : zMem} {post : zMem → Prop} (h0 : zI_Model w) (h : wp_Model_laySeen  M post) : zMv l ⟨"HandToHandModel", "laySeen", "()V"⟩ prog_13_method_59_code 6 none 2 48 w [.ref (zad w 0)] M post := by
  refine zMet (by decide) (Nat.le_of_ble_eq_true rfl) ?_
  intro p e s m below meth c X hr hlk hml hW ls hl
  have hx := X.1
  have hb := X.2.1
  have hl : lv_has ls 6 [(0, .ref (zad w 0))] := hl
  have zJ_57 : ∀ (x_1 : Int32) (x_2 : Int32) (x_3 : Int32) (s_0 : Int32) (K93 : zMem → Prop) (zK93 : ∀ (M : zMem) (H : Heap) (locs : List Loc) (ls : Array Slot), zWo w s.heap M H locs → lv_has ls 6 [(0, .ref (zad w 0)), (1, .int x_1), (2, .int x_2)] → K93 M → W p l e (zRm 2 48) s m ([.ref (zad w 0)] : List Value).toArray below meth c H locs 0 0 (MQ below (va_Qv post (zB w) (zA w)) ([.ref (zad w 0)] : List Value).toArray s 0 0 (zA w)) (F0 m 93 ls [])) (J : Int32 → zMem → Prop) (zJ : ∀ (y_3 : Int32) (M : zMem) (H : Heap) (locs : List Loc) (ls : Array Slot), zWo w s.heap M H locs → lv_has ls 6 [(0, .ref (zad w 0)), (1, .int x_1), (2, .int x_2), (3, .int y_3)] → J y_3 M → W p l e (zRm 2 48) s m ([.ref (zad w 0)] : List Value).toArray below meth c H locs 0 0 (MQ below (va_Qv post (zB w) (zA w)) ([.ref (zad w 0)] : List Value).toArray s 0 0 (zA w)) (F0 m 20 ls [])) (M : zMem) (H : Heap) (locs : List Loc) (ls : Array Slot), zWo w s.heap M H locs → lv_has ls 6 [(0, .ref (zad w 0)), (1, .int x_1), (2, .int x_2), (3, .int x_3)] → wpJ_Model_laySeen_57  K93 J post x_1 x_2 x_3 s_0 M → W p l e (zRm 2 48) s m ([.ref (zad w 0)] : List Value).toArray below meth c H locs 0 0 (MQ below (va_Qv post (zB w) (zA w)) ([.ref (zad w 0)] : List Value).toArray s 0 0 (zA w)) (F0 m 57 ls [.int s_0]) := by
    intro x_1 x_2 x_3 s_0 K93 zK93 J zJ M H locs ls hW hl h
    unfold wpJ_Model_laySeen_57 at h
    refine lv_istore (lv' := [(4, .int s_0), (0, .ref (zad w 0)), (1, .int x_1), (2, .int x_2), (3, .int x_3)]) hx hb dX11_laySeen_57 hl (Nat.le_of_ble_eq_true rfl) rfl (fun ls hl => ?_)
    refine lv_aload_n hx hb dX11_laySeen_59 rfl (lv_at hl 1 rfl) ?_
    refine zg_Model_seen X hW h0 zu_1045 dX11_laySeen_60 ?_
    refine lv_iload_n hx hb dX11_laySeen_63 rfl (lv_at hl 2 rfl) ?_
    refine lv_iconst hx hb dX11_laySeen_64 zc_i5 ?_
    refine lv_iload_n hx hb dX11_laySeen_65 rfl (lv_at hl 3 rfl) ?_
    refine lv_imul hx hb dX11_laySeen_66 ?_
    refine lv_iadd hx hb dX11_laySeen_67 ?_
    refine lv_iload_n hx hb dX11_laySeen_68 rfl (lv_at hl 4 rfl) ?_
    refine lv_iadd hx hb dX11_laySeen_69 ?_
    refine lv_iload hx hb dX11_laySeen_70 (lv_at hl 0 rfl) ?_
    refine lv_if_eq (tgt := 85) hx hb dX11_laySeen_72 rfl (fun c => ?_) (fun c => ?_)
    · replace h := h.1 c
      refine lv_iconst hx hb dX11_laySeen_85 zc_i0 ?_
      obtain ⟨g, h⟩ := h
      refine ziast X hW h0.2.2.2.2.2.2.2.2.2.2.2.1 g dX11_laySeen_86 (fun H locs zm2 ezm2 hW => ?_)
      replace h := h zm2 ezm2
      obtain ⟨zx3, ezx3⟩ : ∃ y : Int32, y = x_3 + 1 := ⟨_, rfl⟩
      replace h := h zx3 ezx3
      refine lv_iinc (v := zx3) (lv' := [(3, .int zx3), (4, .int s_0), (0, .ref (zad w 0)), (1, .int x_1), (2, .int x_2)]) hx hb dX11_laySeen_87 hl (k := 4) rfl (by rw [ezx3, zc_i1]) (Nat.le_of_ble_eq_true rfl) rfl (fun ls hl => ?_)
      refine lv_goto (tgt := 20) hx hb dX11_laySeen_90 rfl ?_
      exact zJ zx3 zm2 H locs ls hW (lv_sub hl [2, 3, 4, 0] rfl) h
    · replace h := h.2 c
      refine lv_aload_n hx hb dX11_laySeen_75 rfl (lv_at hl 1 rfl) ?_
      refine lv_iconst hx hb dX11_laySeen_76 zc_i1 ?_
      refine lv_iload_n hx hb dX11_laySeen_77 rfl (lv_at hl 3 rfl) ?_
      refine lv_iload_n hx hb dX11_laySeen_78 rfl (lv_at hl 4 rfl) ?_
      refine zcalli (zrunV (As := [.int 1, .int x_2, .int x_3]) (rest := [.int ((x_1 + (5 * x_2)) + x_3), .ref (zad w 12)]) X hml hl hW h0.1 rfl zk_Model_195 (c_Model_at h0 h) rfl ⟨Nat.le_of_ble_eq_true rfl, Nat.le_of_ble_eq_true rfl⟩ ⟨Nat.le_refl 0, Nat.le_refl 0⟩ rfl (Nat.le_of_ble_eq_true rfl) dX11_laySeen_79) hW (fun zr5 zm4 H locs h hW => ?_)
      refine lv_goto (tgt := 86) hx hb dX11_laySeen_82 rfl ?_
      obtain ⟨g, h⟩ := h
      refine ziast X hW h0.2.2.2.2.2.2.2.2.2.2.2.1 g dX11_laySeen_86 (fun H locs zm6 ezm6 hW => ?_)
      replace h := h zm6 ezm6
      obtain ⟨zx7, ezx7⟩ : ∃ y : Int32, y = x_3 + 1 := ⟨_, rfl⟩
      replace h := h zx7 ezx7
      refine lv_iinc (v := zx7) (lv' := [(3, .int zx7), (4, .int s_0), (0, .ref (zad w 0)), (1, .int x_1), (2, .int x_2)]) hx hb dX11_laySeen_87 hl (k := 4) rfl (by rw [ezx7, zc_i1]) (Nat.le_of_ble_eq_true rfl) rfl (fun ls hl => ?_)
      refine lv_goto (tgt := 20) hx hb dX11_laySeen_90 rfl ?_
      exact zJ zx7 zm6 H locs ls hW (lv_sub hl [2, 3, 4, 0] rfl) h
  have zJ_52 : ∀ (x_1 : Int32) (x_2 : Int32) (x_3 : Int32) (K93 : zMem → Prop) (zK93 : ∀ (M : zMem) (H : Heap) (locs : List Loc) (ls : Array Slot), zWo w s.heap M H locs → lv_has ls 6 [(0, .ref (zad w 0)), (1, .int x_1), (2, .int x_2)] → K93 M → W p l e (zRm 2 48) s m ([.ref (zad w 0)] : List Value).toArray below meth c H locs 0 0 (MQ below (va_Qv post (zB w) (zA w)) ([.ref (zad w 0)] : List Value).toArray s 0 0 (zA w)) (F0 m 93 ls [])) (J : Int32 → zMem → Prop) (zJ : ∀ (y_3 : Int32) (M : zMem) (H : Heap) (locs : List Loc) (ls : Array Slot), zWo w s.heap M H locs → lv_has ls 6 [(0, .ref (zad w 0)), (1, .int x_1), (2, .int x_2), (3, .int y_3)] → J y_3 M → W p l e (zRm 2 48) s m ([.ref (zad w 0)] : List Value).toArray below meth c H locs 0 0 (MQ below (va_Qv post (zB w) (zA w)) ([.ref (zad w 0)] : List Value).toArray s 0 0 (zA w)) (F0 m 20 ls [])) (M : zMem) (H : Heap) (locs : List Loc) (ls : Array Slot), zWo w s.heap M H locs → lv_has ls 6 [(0, .ref (zad w 0)), (1, .int x_1), (2, .int x_2), (3, .int x_3)] → wpJ_Model_laySeen_52  K93 J post x_1 x_2 x_3 M → W p l e (zRm 2 48) s m ([.ref (zad w 0)] : List Value).toArray below meth c H locs 0 0 (MQ below (va_Qv post (zB w) (zA w)) ([.ref (zad w 0)] : List Value).toArray s 0 0 (zA w)) (F0 m 52 ls []) := by
    intro x_1 x_2 x_3 K93 zK93 J zJ M H locs ls hW hl h
    unfold wpJ_Model_laySeen_52 at h
    refine lv_iconst hx hb dX11_laySeen_52 zc_i1 ?_
    refine lv_goto (tgt := 57) hx hb dX11_laySeen_53 rfl ?_
    exact zJ_57 x_1 x_2 x_3 1 _ zK93 _ zJ M H locs ls hW (lv_sub hl [0, 1, 2, 3] rfl) h
  have zL_20 : ∀ (x_1 : Int32) (x_2 : Int32) (K93 : zMem → Prop) (zK93 : ∀ (M : zMem) (H : Heap) (locs : List Loc) (ls : Array Slot), zWo w s.heap M H locs → lv_has ls 6 [(0, .ref (zad w 0)), (1, .int x_1), (2, .int x_2)] → K93 M → W p l e (zRm 2 48) s m ([.ref (zad w 0)] : List Value).toArray below meth c H locs 0 0 (MQ below (va_Qv post (zB w) (zA w)) ([.ref (zad w 0)] : List Value).toArray s 0 0 (zA w)) (F0 m 93 ls [])), ∀ (n : Nat) (x_3 : Int32) (M : zMem) (H : Heap) (locs : List Loc) (ls : Array Slot), zWo w s.heap M H locs → lv_has ls 6 [(0, .ref (zad w 0)), (1, .int x_1), (2, .int x_2), (3, .int x_3)] → zlp1 (wpB_Model_laySeen_20  x_1 x_2 K93 post) n x_3 M → W p l e (zRm 2 48) s m ([.ref (zad w 0)] : List Value).toArray below meth c H locs 0 0 (MQ below (va_Qv post (zB w) (zA w)) ([.ref (zad w 0)] : List Value).toArray s 0 0 (zA w)) (F0 m 20 ls []) := by
    intro x_1 x_2 K93 zK93 n
    induction n with
    | zero => intro x_3 M H locs ls hW hl h; exact h.elim
    | succ n zJ =>
      intro x_3 M H locs ls hW hl h
      have h : wpB_Model_laySeen_20  x_1 x_2 K93 post (zlp1 (wpB_Model_laySeen_20  x_1 x_2 K93 post) n) x_3 M := h
      unfold wpB_Model_laySeen_20 at h
      refine lv_iload_n hx hb dX11_laySeen_20 rfl (lv_at hl 3 rfl) ?_
      refine lv_iconst hx hb dX11_laySeen_21 zc_i4 ?_
      refine lv_icmp_gt (tgt := 93) hx hb dX11_laySeen_22 rfl (fun c => ?_) (fun c => ?_)
      · replace h := h.1 c
        exact zK93 M H locs ls hW (lv_sub hl [0, 1, 2] rfl) h
      · replace h := h.2 c
        refine lv_iload_n hx hb dX11_laySeen_25 rfl (lv_at hl 3 rfl) ?_
        refine lv_iconst hx hb dX11_laySeen_26 zc_i1 ?_
        refine lv_icmp_ne (tgt := 52) hx hb dX11_laySeen_27 rfl (fun c => ?_) (fun c => ?_)
        · replace h := h.1 c
          exact zJ_52 x_1 x_2 x_3 _ zK93 _ zJ M H locs ls hW (lv_sub hl [0, 1, 2, 3] rfl) h
        · replace h := h.2 c
          refine lv_aload_n hx hb dX11_laySeen_30 rfl (lv_at hl 0 rfl) ?_
          refine lv_iconst hx hb dX11_laySeen_31 zc_i1 ?_
          refine lv_iload_n hx hb dX11_laySeen_32 rfl (lv_at hl 2 rfl) ?_
          refine lv_iconst hx hb dX11_laySeen_33 zc_i0 ?_
          refine zcalli (zrunV (As := [.int 1, .int x_2, .int 0]) (rest := []) X hml hl hW h0.1 rfl zk_Model_195 (c_Model_at h0 h) rfl ⟨Nat.le_of_ble_eq_true rfl, Nat.le_of_ble_eq_true rfl⟩ ⟨Nat.le_refl 0, Nat.le_refl 0⟩ rfl (Nat.le_of_ble_eq_true rfl) dX11_laySeen_34) hW (fun zr9 zm8 H locs h hW => ?_)
          refine lv_iconst hx hb dX11_laySeen_37 zc_i3 ?_
          refine lv_icmp_eq (tgt := 52) hx hb dX11_laySeen_38 rfl (fun c => ?_) (fun c => ?_)
          · replace h := h.1 c
            exact zJ_52 x_1 x_2 x_3 _ zK93 _ zJ zm8 H locs ls hW (lv_sub hl [0, 1, 2, 3] rfl) h
          · replace h := h.2 c
            refine lv_aload_n hx hb dX11_laySeen_41 rfl (lv_at hl 0 rfl) ?_
            refine lv_iconst hx hb dX11_laySeen_42 zc_i1 ?_
            refine lv_iload_n hx hb dX11_laySeen_43 rfl (lv_at hl 2 rfl) ?_
            refine lv_iconst hx hb dX11_laySeen_44 zc_i0 ?_
            refine zcalli (zrunV (As := [.int 1, .int x_2, .int 0]) (rest := []) X hml hl hW h0.1 rfl zk_Model_195 (c_Model_at h0 h) rfl ⟨Nat.le_of_ble_eq_true rfl, Nat.le_of_ble_eq_true rfl⟩ ⟨Nat.le_refl 0, Nat.le_refl 0⟩ rfl (Nat.le_of_ble_eq_true rfl) dX11_laySeen_45) hW (fun zr11 zm10 H locs h hW => ?_)
            refine lv_iconst hx hb dX11_laySeen_48 zc_i1 ?_
            refine lv_icmp_ne (tgt := 56) hx hb dX11_laySeen_49 rfl (fun c => ?_) (fun c => ?_)
            · replace h := h.1 c
              refine lv_iconst hx hb dX11_laySeen_56 zc_i0 ?_
              exact zJ_57 x_1 x_2 x_3 0 _ zK93 _ zJ zm10 H locs ls hW (lv_sub hl [0, 1, 2, 3] rfl) h
            · replace h := h.2 c
              exact zJ_52 x_1 x_2 x_3 _ zK93 _ zJ zm10 H locs ls hW (lv_sub hl [0, 1, 2, 3] rfl) h
  have zL_95 : ∀ (x_1 : Int32) (x_2 : Int32) (K199 : zMem → Prop) (zK199 : ∀ (M : zMem) (H : Heap) (locs : List Loc) (ls : Array Slot), zWo w s.heap M H locs → lv_has ls 6 [(0, .ref (zad w 0)), (1, .int x_1), (2, .int x_2)] → K199 M → W p l e (zRm 2 48) s m ([.ref (zad w 0)] : List Value).toArray below meth c H locs 0 0 (MQ below (va_Qv post (zB w) (zA w)) ([.ref (zad w 0)] : List Value).toArray s 0 0 (zA w)) (F0 m 199 ls [])), ∀ (n : Nat) (x_3 : Int32) (M : zMem) (H : Heap) (locs : List Loc) (ls : Array Slot), zWo w s.heap M H locs → lv_has ls 6 [(0, .ref (zad w 0)), (1, .int x_1), (2, .int x_2), (3, .int x_3)] → zlp1 (wpB_Model_laySeen_95  x_1 x_2 K199 post) n x_3 M → W p l e (zRm 2 48) s m ([.ref (zad w 0)] : List Value).toArray below meth c H locs 0 0 (MQ below (va_Qv post (zB w) (zA w)) ([.ref (zad w 0)] : List Value).toArray s 0 0 (zA w)) (F0 m 95 ls []) := by
    intro x_1 x_2 K199 zK199 n
    induction n with
    | zero => intro x_3 M H locs ls hW hl h; exact h.elim
    | succ n zJ =>
      intro x_3 M H locs ls hW hl h
      have h : wpB_Model_laySeen_95  x_1 x_2 K199 post (zlp1 (wpB_Model_laySeen_95  x_1 x_2 K199 post) n) x_3 M := h
      unfold wpB_Model_laySeen_95 at h
      refine lv_iload_n hx hb dX11_laySeen_95 rfl (lv_at hl 3 rfl) ?_
      refine lv_bipush hx hb dX11_laySeen_96 zc_b8 ?_
      refine lv_icmp_ge (tgt := 199) hx hb dX11_laySeen_98 rfl (fun c => ?_) (fun c => ?_)
      · replace h := h.1 c
        exact zK199 M H locs ls hW (lv_sub hl [0, 1, 2] rfl) h
      · replace h := h.2 c
        refine lv_aload_n hx hb dX11_laySeen_101 rfl (lv_at hl 0 rfl) ?_
        refine zg_Model_bench X hW h0 zu_1036 dX11_laySeen_102 ?_
        refine lv_aload_n hx hb dX11_laySeen_105 rfl (lv_at hl 0 rfl) ?_
        refine lv_iconst hx hb dX11_laySeen_106 zc_i1 ?_
        refine lv_aload_n hx hb dX11_laySeen_107 rfl (lv_at hl 0 rfl) ?_
        refine zg_Model_who X hW h0 zu_1040 dX11_laySeen_108 ?_
        refine lv_iload_n hx hb dX11_laySeen_111 rfl (lv_at hl 2 rfl) ?_
        obtain ⟨g, h⟩ := h
        refine ziald X hW h0.2.2.2.2.2.2.2.1 g dX11_laySeen_112 ?_
        refine lv_iload_n hx hb dX11_laySeen_113 rfl (lv_at hl 3 rfl) ?_
        refine zcalli (zrunV (As := [.int 1, .int (M 8 (ix x_2)), .int x_3]) (rest := [.ref (zad w 6)]) X hml hl hW h0.1 rfl zk_Model_185 (c_Model_learntAt h0 h) rfl ⟨Nat.le_of_ble_eq_true rfl, Nat.le_of_ble_eq_true rfl⟩ ⟨Nat.le_refl 0, Nat.le_refl 0⟩ rfl (Nat.le_of_ble_eq_true rfl) dX11_laySeen_114) hW (fun zr14 zm13 H locs h hW => ?_)
        obtain ⟨g, h⟩ := h
        refine ziald X hW h0.2.2.2.2.2.2.1 g dX11_laySeen_117 ?_
        refine lv_topi (fun zx15 ezx15 => ?_)
        replace h := h zx15 ezx15
        refine lv_istore (lv' := [(4, .int zx15), (0, .ref (zad w 0)), (1, .int x_1), (2, .int x_2), (3, .int x_3)]) hx hb dX11_laySeen_118 hl (Nat.le_of_ble_eq_true rfl) rfl (fun ls hl => ?_)
        refine lv_aload_n hx hb dX11_laySeen_120 rfl (lv_at hl 1 rfl) ?_
        refine zg_Model_holds X hW h0 zu_1031 dX11_laySeen_121 ?_
        refine lv_iconst hx hb dX11_laySeen_124 zc_i3 ?_
        obtain ⟨g, h⟩ := h
        refine ziald X hW h0.2.2.2.2.1 g dX11_laySeen_125 ?_
        refine lv_aload_n hx hb dX11_laySeen_126 rfl (lv_at hl 1 rfl) ?_
        refine zg_Model_holds X hW h0 zu_1031 dX11_laySeen_127 ?_
        refine lv_bipush hx hb dX11_laySeen_130 zc_b60 ?_
        refine lv_bipush hx hb dX11_laySeen_132 zc_b8 ?_
        refine lv_aload_n hx hb dX11_laySeen_134 rfl (lv_at hl 1 rfl) ?_
        refine zg_Model_who X hW h0 zu_1040 dX11_laySeen_135 ?_
        refine lv_iload_n hx hb dX11_laySeen_138 rfl (lv_at hl 3 rfl) ?_
        obtain ⟨g, h⟩ := h
        refine ziald X hW h0.2.2.2.2.2.2.2.1 g dX11_laySeen_139 ?_
        refine lv_imul hx hb dX11_laySeen_140 ?_
        refine lv_iadd hx hb dX11_laySeen_141 ?_
        refine lv_iload_n hx hb dX11_laySeen_142 rfl (lv_at hl 4 rfl) ?_
        refine lv_iadd hx hb dX11_laySeen_143 ?_
        obtain ⟨g, h⟩ := h
        refine ziald X hW h0.2.2.2.2.1 g dX11_laySeen_144 ?_
        refine lv_iconst hx hb dX11_laySeen_145 zc_i1 ?_
        refine lv_isub hx hb dX11_laySeen_146 ?_
        refine lv_imul hx hb dX11_laySeen_147 ?_
        refine lv_topi (fun zx16 ezx16 => ?_)
        replace h := h zx16 ezx16
        refine lv_istore (lv' := [(5, .int zx16), (4, .int zx15), (0, .ref (zad w 0)), (1, .int x_1), (2, .int x_2), (3, .int x_3)]) hx hb dX11_laySeen_148 hl (Nat.le_of_ble_eq_true rfl) rfl (fun ls hl => ?_)
        refine lv_aload_n hx hb dX11_laySeen_150 rfl (lv_at hl 2 rfl) ?_
        refine zg_Model_seen X hW h0 zu_1045 dX11_laySeen_151 ?_
        refine lv_iload_n hx hb dX11_laySeen_154 rfl (lv_at hl 3 rfl) ?_
        refine lv_bipush hx hb dX11_laySeen_155 zc_b30 ?_
        refine lv_iadd hx hb dX11_laySeen_157 ?_
        refine lv_bipush hx hb dX11_laySeen_158 zc_b8 ?_
        refine lv_iload_n hx hb dX11_laySeen_160 rfl (lv_at hl 4 rfl) ?_
        refine lv_imul hx hb dX11_laySeen_161 ?_
        refine lv_iadd hx hb dX11_laySeen_162 ?_
        refine lv_iload_n hx hb dX11_laySeen_163 rfl (lv_at hl 5 rfl) ?_
        refine lv_iadd hx hb dX11_laySeen_164 ?_
        refine lv_aload_n hx hb dX11_laySeen_165 rfl (lv_at hl 2 rfl) ?_
        refine zg_Model_holds X hW h0 zu_1031 dX11_laySeen_166 ?_
        refine lv_iconst hx hb dX11_laySeen_169 zc_i3 ?_
        obtain ⟨g, h⟩ := h
        refine ziald X hW h0.2.2.2.2.1 g dX11_laySeen_170 ?_
        refine lv_if_ne (tgt := 178) hx hb dX11_laySeen_171 rfl (fun c => ?_) (fun c => ?_)
        · replace h := h.1 c
          refine lv_iload hx hb dX11_laySeen_178 (lv_at hl 1 rfl) ?_
          refine lv_iload hx hb dX11_laySeen_180 (lv_at hl 0 rfl) ?_
          refine lv_icmp_ge (tgt := 190) hx hb dX11_laySeen_182 rfl (fun c => ?_) (fun c => ?_)
          · replace h := h.1 c
            refine lv_iload hx hb dX11_laySeen_190 (lv_at hl 0 rfl) ?_
            obtain ⟨g, h⟩ := h
            refine ziast X hW h0.2.2.2.2.2.2.2.2.2.2.2.1 g dX11_laySeen_192 (fun H locs zm17 ezm17 hW => ?_)
            replace h := h zm17 ezm17
            obtain ⟨zx18, ezx18⟩ : ∃ y : Int32, y = x_3 + 1 := ⟨_, rfl⟩
            replace h := h zx18 ezx18
            refine lv_iinc (v := zx18) (lv' := [(3, .int zx18), (5, .int zx16), (4, .int zx15), (0, .ref (zad w 0)), (1, .int x_1), (2, .int x_2)]) hx hb dX11_laySeen_193 hl (k := 5) rfl (by rw [ezx18, zc_i1]) (Nat.le_of_ble_eq_true rfl) rfl (fun ls hl => ?_)
            refine lv_goto (tgt := 95) hx hb dX11_laySeen_196 rfl ?_
            exact zJ zx18 zm17 H locs ls hW (lv_sub hl [3, 4, 5, 0] rfl) h
          · replace h := h.2 c
            refine lv_iload hx hb dX11_laySeen_185 (lv_at hl 1 rfl) ?_
            refine lv_goto (tgt := 192) hx hb dX11_laySeen_187 rfl ?_
            obtain ⟨g, h⟩ := h
            refine ziast X hW h0.2.2.2.2.2.2.2.2.2.2.2.1 g dX11_laySeen_192 (fun H locs zm19 ezm19 hW => ?_)
            replace h := h zm19 ezm19
            obtain ⟨zx20, ezx20⟩ : ∃ y : Int32, y = x_3 + 1 := ⟨_, rfl⟩
            replace h := h zx20 ezx20
            refine lv_iinc (v := zx20) (lv' := [(3, .int zx20), (5, .int zx16), (4, .int zx15), (0, .ref (zad w 0)), (1, .int x_1), (2, .int x_2)]) hx hb dX11_laySeen_193 hl (k := 5) rfl (by rw [ezx20, zc_i1]) (Nat.le_of_ble_eq_true rfl) rfl (fun ls hl => ?_)
            refine lv_goto (tgt := 95) hx hb dX11_laySeen_196 rfl ?_
            exact zJ zx20 zm19 H locs ls hW (lv_sub hl [3, 4, 5, 0] rfl) h
        · replace h := h.2 c
          refine lv_iconst hx hb dX11_laySeen_174 zc_i0 ?_
          refine lv_goto (tgt := 192) hx hb dX11_laySeen_175 rfl ?_
          obtain ⟨g, h⟩ := h
          refine ziast X hW h0.2.2.2.2.2.2.2.2.2.2.2.1 g dX11_laySeen_192 (fun H locs zm21 ezm21 hW => ?_)
          replace h := h zm21 ezm21
          obtain ⟨zx22, ezx22⟩ : ∃ y : Int32, y = x_3 + 1 := ⟨_, rfl⟩
          replace h := h zx22 ezx22
          refine lv_iinc (v := zx22) (lv' := [(3, .int zx22), (5, .int zx16), (4, .int zx15), (0, .ref (zad w 0)), (1, .int x_1), (2, .int x_2)]) hx hb dX11_laySeen_193 hl (k := 5) rfl (by rw [ezx22, zc_i1]) (Nat.le_of_ble_eq_true rfl) rfl (fun ls hl => ?_)
          refine lv_goto (tgt := 95) hx hb dX11_laySeen_196 rfl ?_
          exact zJ zx22 zm21 H locs ls hW (lv_sub hl [3, 4, 5, 0] rfl) h
  have zL_10 : ∀ (x_1 : Int32) (K205 : zMem → Prop) (zK205 : ∀ (M : zMem) (H : Heap) (locs : List Loc) (ls : Array Slot), zWo w s.heap M H locs → lv_has ls 6 [(0, .ref (zad w 0)), (1, .int x_1)] → K205 M → W p l e (zRm 2 48) s m ([.ref (zad w 0)] : List Value).toArray below meth c H locs 0 0 (MQ below (va_Qv post (zB w) (zA w)) ([.ref (zad w 0)] : List Value).toArray s 0 0 (zA w)) (F0 m 205 ls [])), ∀ (n : Nat) (x_2 : Int32) (M : zMem) (H : Heap) (locs : List Loc) (ls : Array Slot), zWo w s.heap M H locs → lv_has ls 6 [(0, .ref (zad w 0)), (1, .int x_1), (2, .int x_2)] → zlp1 (wpB_Model_laySeen_10  x_1 K205 post) n x_2 M → W p l e (zRm 2 48) s m ([.ref (zad w 0)] : List Value).toArray below meth c H locs 0 0 (MQ below (va_Qv post (zB w) (zA w)) ([.ref (zad w 0)] : List Value).toArray s 0 0 (zA w)) (F0 m 10 ls []) := by
    intro x_1 K205 zK205 n
    induction n with
    | zero => intro x_2 M H locs ls hW hl h; exact h.elim
    | succ n zJ =>
      intro x_2 M H locs ls hW hl h
      have h : wpB_Model_laySeen_10  x_1 K205 post (zlp1 (wpB_Model_laySeen_10  x_1 K205 post) n) x_2 M := h
      unfold wpB_Model_laySeen_10 at h
      refine lv_iload_n hx hb dX11_laySeen_10 rfl (lv_at hl 2 rfl) ?_
      refine lv_aload_n hx hb dX11_laySeen_11 rfl (lv_at hl 0 rfl) ?_
      refine zg_Model_many X hW h0 zu_1038 dX11_laySeen_12 ?_
      refine lv_icmp_ge (tgt := 205) hx hb dX11_laySeen_15 rfl (fun c => ?_) (fun c => ?_)
      · replace h := h.1 c
        exact zK205 M H locs ls hW (lv_sub hl [0, 1] rfl) h
      · replace h := h.2 c
        refine lv_iconst hx hb dX11_laySeen_18 zc_i0 ?_
        refine lv_istore_n (lv' := [(3, .int 0), (0, .ref (zad w 0)), (1, .int x_1), (2, .int x_2)]) hx hb dX11_laySeen_19 rfl hl (Nat.le_of_ble_eq_true rfl) rfl (fun ls hl => ?_)
        obtain ⟨n, h⟩ := h
        refine zL_20 x_1 x_2 _ (fun  zm12 H locs ls hW hl h => ?_) n 0 M H locs ls hW (lv_sub hl [1, 2, 3, 0] rfl) h
        · skip
          refine lv_iconst hx hb dX11_laySeen_93 zc_i0 ?_
          refine lv_istore_n (lv' := [(3, .int 0), (0, .ref (zad w 0)), (1, .int x_1), (2, .int x_2)]) hx hb dX11_laySeen_94 rfl hl (Nat.le_of_ble_eq_true rfl) rfl (fun ls hl => ?_)
          obtain ⟨n, h⟩ := h
          refine zL_95 x_1 x_2 _ (fun  zm23 H locs ls hW hl h => ?_) n 0 zm12 H locs ls hW (lv_sub hl [1, 2, 3, 0] rfl) h
          · skip
            obtain ⟨zx24, ezx24⟩ : ∃ y : Int32, y = x_2 + 1 := ⟨_, rfl⟩
            replace h := h zx24 ezx24
            refine lv_iinc (v := zx24) (lv' := [(2, .int zx24), (0, .ref (zad w 0)), (1, .int x_1)]) hx hb dX11_laySeen_199 hl (k := 2) rfl (by rw [ezx24, zc_i1]) (Nat.le_of_ble_eq_true rfl) rfl (fun ls hl => ?_)
            refine lv_goto (tgt := 10) hx hb dX11_laySeen_202 rfl ?_
            exact zJ zx24 zm23 H locs ls hW (lv_sub hl [1, 2, 0] rfl) h
  unfold wp_Model_laySeen at h
  have zMain : ∀ (H : Heap) (locs : List Loc) (ls : Array Slot), zWo w s.heap M H locs → lv_has ls 6 [(0, .ref (zad w 0))] → W p l e (zRm 2 48) s m ([.ref (zad w 0)] : List Value).toArray below meth c H locs 0 0 (MQ below (va_Qv post (zB w) (zA w)) ([.ref (zad w 0)] : List Value).toArray s 0 0 (zA w)) (F0 m 0 ls []) := by
    intro H locs ls hW hl
    refine lv_bipush hx hb dX11_laySeen_0 zc_b80 ?_
    refine lv_aload_n hx hb dX11_laySeen_2 rfl (lv_at hl 0 rfl) ?_
    refine zg_Model_seenMany X hW h0 zu_1048 dX11_laySeen_3 ?_
    refine lv_imul hx hb dX11_laySeen_6 ?_
    refine lv_topi (fun zx1 ezx1 => ?_)
    replace h := h zx1 ezx1
    refine lv_istore_n (lv' := [(1, .int zx1), (0, .ref (zad w 0))]) hx hb dX11_laySeen_7 rfl hl (Nat.le_of_ble_eq_true rfl) rfl (fun ls hl => ?_)
    refine lv_iconst hx hb dX11_laySeen_8 zc_i0 ?_
    refine lv_istore_n (lv' := [(2, .int 0), (1, .int zx1), (0, .ref (zad w 0))]) hx hb dX11_laySeen_9 rfl hl (Nat.le_of_ble_eq_true rfl) rfl (fun ls hl => ?_)
    obtain ⟨n, h⟩ := h
    refine zL_10 zx1 _ (fun  zm25 H locs ls hW hl h => ?_) n 0 M H locs ls hW (lv_sub hl [2, 1, 0] rfl) h
    · skip
      refine lv_aload_n hx hb dX11_laySeen_205 rfl (lv_at hl 0 rfl) ?_
      refine zg_Model_seen X hW h0 zu_1045 dX11_laySeen_206 ?_
      refine lv_iload_n hx hb dX11_laySeen_209 rfl (lv_at hl 1 rfl) ?_
      refine lv_bipush hx hb dX11_laySeen_210 zc_b25 ?_
      refine lv_iadd hx hb dX11_laySeen_212 ?_
      refine lv_aload_n hx hb dX11_laySeen_213 rfl (lv_at hl 0 rfl) ?_
      refine lv_iconst hx hb dX11_laySeen_214 zc_i1 ?_
      refine lv_iconst hx hb dX11_laySeen_215 zc_i4 ?_
      refine zcalli (zrunV (As := [.int 1, .int 4]) (rest := [.int (zx1 + 25), .ref (zad w 12)]) X hml hl hW h0.1 rfl zk_Model_218 (c_Model_of h0 h) rfl ⟨Nat.le_of_ble_eq_true rfl, Nat.le_of_ble_eq_true rfl⟩ ⟨Nat.le_refl 0, Nat.le_refl 0⟩ rfl (Nat.le_of_ble_eq_true rfl) dX11_laySeen_216) hW (fun zr27 zm26 H locs h hW => ?_)
      obtain ⟨g, h⟩ := h
      refine ziast X hW h0.2.2.2.2.2.2.2.2.2.2.2.1 g dX11_laySeen_219 (fun H locs zm28 ezm28 hW => ?_)
      replace h := h zm28 ezm28
      refine lv_aload_n hx hb dX11_laySeen_220 rfl (lv_at hl 0 rfl) ?_
      refine zg_Model_seenDone X hW h0 zu_1046 dX11_laySeen_221 ?_
      refine lv_aload_n hx hb dX11_laySeen_224 rfl (lv_at hl 0 rfl) ?_
      refine zg_Model_seenMany X hW h0 zu_1048 dX11_laySeen_225 ?_
      refine lv_aload_n hx hb dX11_laySeen_228 rfl (lv_at hl 0 rfl) ?_
      refine lv_iconst hx hb dX11_laySeen_229 zc_i1 ?_
      refine lv_iconst hx hb dX11_laySeen_230 zc_i1 ?_
      refine zcalli (zrunV (As := [.int 1, .int 1]) (rest := [.int (zm28 0 28), .ref (zad w 13)]) X hml hl hW h0.1 rfl zk_Model_218 (c_Model_of h0 h) rfl ⟨Nat.le_of_ble_eq_true rfl, Nat.le_of_ble_eq_true rfl⟩ ⟨Nat.le_refl 0, Nat.le_refl 0⟩ rfl (Nat.le_of_ble_eq_true rfl) dX11_laySeen_231) hW (fun zr30 zm29 H locs h hW => ?_)
      obtain ⟨g, h⟩ := h
      refine ziast X hW h0.2.2.2.2.2.2.2.2.2.2.2.2.1 g dX11_laySeen_234 (fun H locs zm31 ezm31 hW => ?_)
      replace h := h zm31 ezm31
      refine lv_aload_n hx hb dX11_laySeen_235 rfl (lv_at hl 0 rfl) ?_
      refine zg_Model_seenTick X hW h0 zu_1047 dX11_laySeen_236 ?_
      refine lv_aload_n hx hb dX11_laySeen_239 rfl (lv_at hl 0 rfl) ?_
      refine zg_Model_seenMany X hW h0 zu_1048 dX11_laySeen_240 ?_
      refine lv_aload_n hx hb dX11_laySeen_243 rfl (lv_at hl 0 rfl) ?_
      refine lv_iconst hx hb dX11_laySeen_244 zc_i1 ?_
      refine lv_iconst hx hb dX11_laySeen_245 zc_i0 ?_
      refine zcalli (zrunV (As := [.int 1, .int 0]) (rest := [.int (zm31 0 28), .ref (zad w 14)]) X hml hl hW h0.1 rfl zk_Model_218 (c_Model_of h0 h) rfl ⟨Nat.le_of_ble_eq_true rfl, Nat.le_of_ble_eq_true rfl⟩ ⟨Nat.le_refl 0, Nat.le_refl 0⟩ rfl (Nat.le_of_ble_eq_true rfl) dX11_laySeen_246) hW (fun zr33 zm32 H locs h hW => ?_)
      obtain ⟨g, h⟩ := h
      refine ziast X hW h0.2.2.2.2.2.2.2.2.2.2.2.2.2.1 g dX11_laySeen_249 (fun H locs zm34 ezm34 hW => ?_)
      replace h := h zm34 ezm34
      refine lv_aload_n hx hb dX11_laySeen_250 rfl (lv_at hl 0 rfl) ?_
      refine lv_dup hx hb dX11_laySeen_251 rfl ?_
      refine zg_Model_seenMany X hW h0 zu_1048 dX11_laySeen_252 ?_
      refine lv_iconst hx hb dX11_laySeen_255 zc_i1 ?_
      refine lv_iadd hx hb dX11_laySeen_256 ?_
      refine zp_Model_seenMany X hW h0 zu_1048 dX11_laySeen_257 (fun H locs zm35 ezm35 hW => ?_)
      replace h := h zm35 ezm35
      exact zretv X hr hlk hW h dX11_laySeen_260
  exact zMain s.heap [] ls hW hl
def wpB_Model_areSame_5 (a1 : Int32) (a2 : Int32)   (Q : Int32 → zMem → Prop) (J : Int32 → Int32 → zMem → Prop) (x_3 : Int32) (x_4 : Int32) (M : zMem) : Prop :=
  ((30 + (8 * (M 0 18))) ≤ x_4 → zbo x_3 ∧ Q x_3 M) ∧ (¬ (30 + (8 * (M 0 18))) ≤ x_4 → (x_3 = 0 → ∀ zx1 : Int32, zx1 = x_4 + 1 → J 0 zx1 M) ∧ (¬ x_3 = 0 → vp_in ((80 * a1) + x_4) 9600 ∧ vp_in ((80 * a2) + x_4) 9600 ∧ (¬ (M 12 (ix ((80 * a1) + x_4))) = (M 12 (ix ((80 * a2) + x_4))) → ∀ zx2 : Int32, zx2 = x_4 + 1 → J 0 zx2 M) ∧ ((M 12 (ix ((80 * a1) + x_4))) = (M 12 (ix ((80 * a2) + x_4))) → ∀ zx3 : Int32, zx3 = x_4 + 1 → J 1 zx3 M)))
def wp_Model_areSame (a1 : Int32) (a2 : Int32) (M : zMem) (Q : Int32 → zMem → Prop) : Prop :=
  ∃ n : Nat, zlp2 (wpB_Model_areSame_5 a1 a2   Q) n 1 0 M
set_option maxHeartbeats 4000000 in
set_option maxRecDepth 20000 in
theorem c_Model_areSame {l : Launch} {w : zWd} {a1 : Int32} {a2 : Int32} {M : zMem} {post : Int32 → zMem → Prop} (h0 : zI_Model w) (h : wp_Model_areSame a1 a2 M post) : zMi l ⟨"HandToHandModel", "areSame", "(II)Z"⟩ prog_13_method_60_code 5 (Option.some .boolean) 0 0 w [.ref (zad w 0), .int a1, .int a2] M post := by
  refine zMet (by decide) (Nat.le_of_ble_eq_true rfl) ?_
  intro p e s m below meth c X hr hlk hml hW ls hl
  have hx := X.1
  have hb := X.2.1
  have hl : lv_has ls 5 [(0, .ref (zad w 0)), (1, .int a1), (2, .int a2)] := hl
  have zL_5 :  ∀ (n : Nat) (x_3 : Int32) (x_4 : Int32) (M : zMem) (H : Heap) (locs : List Loc) (ls : Array Slot), zWo w s.heap M H locs → lv_has ls 5 [(0, .ref (zad w 0)), (1, .int a1), (2, .int a2), (3, .int x_3), (4, .int x_4)] → zlp2 (wpB_Model_areSame_5 a1 a2   post) n x_3 x_4 M → W p l e (zRm 0 0) s m ([.ref (zad w 0), .int a1, .int a2] : List Value).toArray below meth c H locs 0 0 (MQ below (va_Qi post (zB w) (zA w)) ([.ref (zad w 0), .int a1, .int a2] : List Value).toArray s 0 0 (zA w)) (F0 m 5 ls []) := by
    intro n
    induction n with
    | zero => intro x_3 x_4 M H locs ls hW hl h; exact h.elim
    | succ n zJ =>
      intro x_3 x_4 M H locs ls hW hl h
      have h : wpB_Model_areSame_5 a1 a2   post (zlp2 (wpB_Model_areSame_5 a1 a2   post) n) x_3 x_4 M := h
      unfold wpB_Model_areSame_5 at h
      refine lv_iload hx hb dX11_areSame_5 (lv_at hl 4 rfl) ?_
      refine lv_bipush hx hb dX11_areSame_7 zc_b30 ?_
      refine lv_bipush hx hb dX11_areSame_9 zc_b8 ?_
      refine lv_aload_n hx hb dX11_areSame_11 rfl (lv_at hl 0 rfl) ?_
      refine zg_Model_many X hW h0 zu_1038 dX11_areSame_12 ?_
      refine lv_imul hx hb dX11_areSame_15 ?_
      refine lv_iadd hx hb dX11_areSame_16 ?_
      refine lv_icmp_ge (tgt := 63) hx hb dX11_areSame_17 rfl (fun c => ?_) (fun c => ?_)
      · replace h := h.1 c
        refine lv_iload_n hx hb dX11_areSame_63 rfl (lv_at hl 3 rfl) ?_
        exact zretz X hr hlk hW (zbo_n h.1) h.2 dX11_areSame_64
      · replace h := h.2 c
        refine lv_iload_n hx hb dX11_areSame_20 rfl (lv_at hl 3 rfl) ?_
        refine lv_if_eq (tgt := 55) hx hb dX11_areSame_21 rfl (fun c => ?_) (fun c => ?_)
        · replace h := h.1 c
          refine lv_iconst hx hb dX11_areSame_55 zc_i0 ?_
          refine lv_istore_n (lv' := [(3, .int 0), (0, .ref (zad w 0)), (1, .int a1), (2, .int a2), (4, .int x_4)]) hx hb dX11_areSame_56 rfl hl (Nat.le_of_ble_eq_true rfl) rfl (fun ls hl => ?_)
          obtain ⟨zx1, ezx1⟩ : ∃ y : Int32, y = x_4 + 1 := ⟨_, rfl⟩
          replace h := h zx1 ezx1
          refine lv_iinc (v := zx1) (lv' := [(4, .int zx1), (3, .int 0), (0, .ref (zad w 0)), (1, .int a1), (2, .int a2)]) hx hb dX11_areSame_57 hl (k := 4) rfl (by rw [ezx1, zc_i1]) (Nat.le_of_ble_eq_true rfl) rfl (fun ls hl => ?_)
          refine lv_goto (tgt := 5) hx hb dX11_areSame_60 rfl ?_
          exact zJ 0 zx1 M H locs ls hW (lv_sub hl [2, 3, 4, 1, 0] rfl) h
        · replace h := h.2 c
          refine lv_aload_n hx hb dX11_areSame_24 rfl (lv_at hl 0 rfl) ?_
          refine zg_Model_seen X hW h0 zu_1045 dX11_areSame_25 ?_
          refine lv_bipush hx hb dX11_areSame_28 zc_b80 ?_
          refine lv_iload_n hx hb dX11_areSame_30 rfl (lv_at hl 1 rfl) ?_
          refine lv_imul hx hb dX11_areSame_31 ?_
          refine lv_iload hx hb dX11_areSame_32 (lv_at hl 4 rfl) ?_
          refine lv_iadd hx hb dX11_areSame_34 ?_
          obtain ⟨g, h⟩ := h
          refine ziald X hW h0.2.2.2.2.2.2.2.2.2.2.2.1 g dX11_areSame_35 ?_
          refine lv_aload_n hx hb dX11_areSame_36 rfl (lv_at hl 0 rfl) ?_
          refine zg_Model_seen X hW h0 zu_1045 dX11_areSame_37 ?_
          refine lv_bipush hx hb dX11_areSame_40 zc_b80 ?_
          refine lv_iload_n hx hb dX11_areSame_42 rfl (lv_at hl 2 rfl) ?_
          refine lv_imul hx hb dX11_areSame_43 ?_
          refine lv_iload hx hb dX11_areSame_44 (lv_at hl 4 rfl) ?_
          refine lv_iadd hx hb dX11_areSame_46 ?_
          obtain ⟨g, h⟩ := h
          refine ziald X hW h0.2.2.2.2.2.2.2.2.2.2.2.1 g dX11_areSame_47 ?_
          refine lv_icmp_ne (tgt := 55) hx hb dX11_areSame_48 rfl (fun c => ?_) (fun c => ?_)
          · replace h := h.1 c
            refine lv_iconst hx hb dX11_areSame_55 zc_i0 ?_
            refine lv_istore_n (lv' := [(3, .int 0), (0, .ref (zad w 0)), (1, .int a1), (2, .int a2), (4, .int x_4)]) hx hb dX11_areSame_56 rfl hl (Nat.le_of_ble_eq_true rfl) rfl (fun ls hl => ?_)
            obtain ⟨zx2, ezx2⟩ : ∃ y : Int32, y = x_4 + 1 := ⟨_, rfl⟩
            replace h := h zx2 ezx2
            refine lv_iinc (v := zx2) (lv' := [(4, .int zx2), (3, .int 0), (0, .ref (zad w 0)), (1, .int a1), (2, .int a2)]) hx hb dX11_areSame_57 hl (k := 4) rfl (by rw [ezx2, zc_i1]) (Nat.le_of_ble_eq_true rfl) rfl (fun ls hl => ?_)
            refine lv_goto (tgt := 5) hx hb dX11_areSame_60 rfl ?_
            exact zJ 0 zx2 M H locs ls hW (lv_sub hl [2, 3, 4, 1, 0] rfl) h
          · replace h := h.2 c
            refine lv_iconst hx hb dX11_areSame_51 zc_i1 ?_
            refine lv_goto (tgt := 56) hx hb dX11_areSame_52 rfl ?_
            refine lv_istore_n (lv' := [(3, .int 1), (0, .ref (zad w 0)), (1, .int a1), (2, .int a2), (4, .int x_4)]) hx hb dX11_areSame_56 rfl hl (Nat.le_of_ble_eq_true rfl) rfl (fun ls hl => ?_)
            obtain ⟨zx3, ezx3⟩ : ∃ y : Int32, y = x_4 + 1 := ⟨_, rfl⟩
            replace h := h zx3 ezx3
            refine lv_iinc (v := zx3) (lv' := [(4, .int zx3), (3, .int 1), (0, .ref (zad w 0)), (1, .int a1), (2, .int a2)]) hx hb dX11_areSame_57 hl (k := 4) rfl (by rw [ezx3, zc_i1]) (Nat.le_of_ble_eq_true rfl) rfl (fun ls hl => ?_)
            refine lv_goto (tgt := 5) hx hb dX11_areSame_60 rfl ?_
            exact zJ 1 zx3 M H locs ls hW (lv_sub hl [2, 3, 4, 1, 0] rfl) h
  unfold wp_Model_areSame at h
  have zMain : ∀ (H : Heap) (locs : List Loc) (ls : Array Slot), zWo w s.heap M H locs → lv_has ls 5 [(0, .ref (zad w 0)), (1, .int a1), (2, .int a2)] → W p l e (zRm 0 0) s m ([.ref (zad w 0), .int a1, .int a2] : List Value).toArray below meth c H locs 0 0 (MQ below (va_Qi post (zB w) (zA w)) ([.ref (zad w 0), .int a1, .int a2] : List Value).toArray s 0 0 (zA w)) (F0 m 0 ls []) := by
    intro H locs ls hW hl
    refine lv_iconst hx hb dX11_areSame_0 zc_i1 ?_
    refine lv_istore_n (lv' := [(3, .int 1), (0, .ref (zad w 0)), (1, .int a1), (2, .int a2)]) hx hb dX11_areSame_1 rfl hl (Nat.le_of_ble_eq_true rfl) rfl (fun ls hl => ?_)
    refine lv_iconst hx hb dX11_areSame_2 zc_i0 ?_
    refine lv_istore (lv' := [(4, .int 0), (3, .int 1), (0, .ref (zad w 0)), (1, .int a1), (2, .int a2)]) hx hb dX11_areSame_3 hl (Nat.le_of_ble_eq_true rfl) rfl (fun ls hl => ?_)
    obtain ⟨n, h⟩ := h
    refine zL_5   n 1 0 M H locs ls hW (lv_sub hl [2, 3, 4, 1, 0] rfl) h
  exact zMain s.heap [] ls hW hl
