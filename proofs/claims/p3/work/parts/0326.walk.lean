def wpJ_Model_best_49 (a1 : Int32) (K76 : Int32 → Int32 → zMem → Prop) (J : Int32 → Int32 → Int32 → zMem → Prop) (Q : Int32 → zMem → Prop) (x_2 : Int32) (x_4 : Int32) (s_0 : Int32) (s_1 : Int32) (M : zMem) : Prop :=
  ∀ zx9 : Int32, zx9 = s_0 + s_1 → (x_4 = 0 → wp_Model_keepBest M (fun zm10 => ∀ zx12 : Int32, zx12 = x_4 + 1 → J x_4 zx9 zx12 zm10)) ∧ (¬ x_4 = 0 → wp_Model_isMore M (fun zr14 zm13 => (zr14 = 0 → ∀ zx15 : Int32, zx15 = x_4 + 1 → J x_2 zx9 zx15 zm13) ∧ (¬ zr14 = 0 → wp_Model_keepBest zm13 (fun zm16 => ∀ zx18 : Int32, zx18 = x_4 + 1 → J x_4 zx9 zx18 zm16))))
def wpB_Model_best_21 (a1 : Int32)  (K76 : Int32 → Int32 → zMem → Prop) (Q : Int32 → zMem → Prop) (J : Int32 → Int32 → Int32 → zMem → Prop) (x_2 : Int32) (x_3 : Int32) (x_4 : Int32) (M : zMem) : Prop :=
  wp_Model_orders M (fun zr4 zm3 => (zr4 ≤ x_4 → K76 x_2 x_3 zm3) ∧ (¬ zr4 ≤ x_4 → wp_Model_layOrder x_4 zm3 (fun zm5 => wp_Model_hasRing zm5 (fun zr8 zm7 => (zr8 = 0 → wpJ_Model_best_49 a1 K76 J Q x_2 x_4 x_3 1 zm7) ∧ (¬ zr8 = 0 → wpJ_Model_best_49 a1 K76 J Q x_2 x_4 x_3 0 zm7)))))
def wp_Model_best (a1 : Int32) (M : zMem) (Q : Int32 → zMem → Prop) : Prop :=
  wp_Model_in a1.toInt64 0 3 M (fun zr2 zm1 => (¬ zr2 = 0 → ∃ n : Nat, zlp3 (wpB_Model_best_21 a1  (fun (zx20 : Int32) (zx21 : Int32) (zm19 : zMem) => (¬ a1 = 0 → (¬ a1 = 3 → wp_Model_lowest ((zm19 0 33).toInt64) ((zm19 0 34).toInt64) (a1 - 1) zm19 (fun zr23 zm22 => Q zr23.toInt32 zm22)) ∧ (a1 = 3 → Q zx21 zm19)) ∧ (a1 = 0 → Q zx20 zm19)) Q) n 0 0 0 zm1) ∧ (zr2 = 0 → Q ((-1)) zm1))
set_option maxHeartbeats 4000000 in
set_option maxRecDepth 20000 in
theorem c_Model_best {l : Launch} {w : zWd} {a1 : Int32} {M : zMem} {post : Int32 → zMem → Prop} (h0 : zI_Model w) (h : wp_Model_best a1 M post) : zMi l ⟨"HandToHandModel", "best", "(I)I"⟩ prog_13_method_82_code 5 (Option.some .int) 9 210 w [.ref (zad w 0), .int a1] M post := by
  refine zMet (by decide) (Nat.le_of_ble_eq_true rfl) ?_
  intro p e s m below meth c X hr hlk hml hW ls hl
  have hx := X.1
  have hb := X.2.1
  have hl : lv_has ls 5 [(0, .ref (zad w 0)), (1, .int a1)] := hl
  have zJ_49 : ∀ (x_2 : Int32) (x_4 : Int32) (s_0 : Int32) (s_1 : Int32) (K76 : Int32 → Int32 → zMem → Prop) (zK76 : ∀ (y_2 : Int32) (y_3 : Int32) (M : zMem) (H : Heap) (locs : List Loc) (ls : Array Slot), zWo w s.heap M H locs → lv_has ls 5 [(0, .ref (zad w 0)), (1, .int a1), (2, .int y_2), (3, .int y_3)] → K76 y_2 y_3 M → W p l e (zRm 9 210) s m ([.ref (zad w 0), .int a1] : List Value).toArray below meth c H locs 0 0 (MQ below (va_Qi post (zB w) (zA w)) ([.ref (zad w 0), .int a1] : List Value).toArray s 0 0 (zA w)) (F0 m 76 ls [])) (J : Int32 → Int32 → Int32 → zMem → Prop) (zJ : ∀ (y_2 : Int32) (y_3 : Int32) (y_4 : Int32) (M : zMem) (H : Heap) (locs : List Loc) (ls : Array Slot), zWo w s.heap M H locs → lv_has ls 5 [(0, .ref (zad w 0)), (1, .int a1), (2, .int y_2), (3, .int y_3), (4, .int y_4)] → J y_2 y_3 y_4 M → W p l e (zRm 9 210) s m ([.ref (zad w 0), .int a1] : List Value).toArray below meth c H locs 0 0 (MQ below (va_Qi post (zB w) (zA w)) ([.ref (zad w 0), .int a1] : List Value).toArray s 0 0 (zA w)) (F0 m 21 ls [])) (M : zMem) (H : Heap) (locs : List Loc) (ls : Array Slot), zWo w s.heap M H locs → lv_has ls 5 [(0, .ref (zad w 0)), (1, .int a1), (2, .int x_2), (4, .int x_4)] → wpJ_Model_best_49 a1 K76 J post x_2 x_4 s_0 s_1 M → W p l e (zRm 9 210) s m ([.ref (zad w 0), .int a1] : List Value).toArray below meth c H locs 0 0 (MQ below (va_Qi post (zB w) (zA w)) ([.ref (zad w 0), .int a1] : List Value).toArray s 0 0 (zA w)) (F0 m 49 ls [.int s_1, .int s_0]) := by
    intro x_2 x_4 s_0 s_1 K76 zK76 J zJ M H locs ls hW hl h
    unfold wpJ_Model_best_49 at h
    refine lv_iadd hx hb dX11_best_49 ?_
    refine lv_topi (fun zx9 ezx9 => ?_)
    replace h := h zx9 ezx9
    refine lv_istore_n (lv' := [(3, .int zx9), (0, .ref (zad w 0)), (1, .int a1), (2, .int x_2), (4, .int x_4)]) hx hb dX11_best_50 rfl hl (Nat.le_of_ble_eq_true rfl) rfl (fun ls hl => ?_)
    refine lv_iload hx hb dX11_best_51 (lv_at hl 4 rfl) ?_
    refine lv_if_eq (tgt := 63) hx hb dX11_best_53 rfl (fun c => ?_) (fun c => ?_)
    · replace h := h.1 c
      refine lv_iload hx hb dX11_best_63 (lv_at hl 4 rfl) ?_
      refine lv_istore_n (lv' := [(2, .int x_4), (3, .int zx9), (0, .ref (zad w 0)), (1, .int a1), (4, .int x_4)]) hx hb dX11_best_65 rfl hl (Nat.le_of_ble_eq_true rfl) rfl (fun ls hl => ?_)
      refine lv_aload_n hx hb dX11_best_66 rfl (lv_at hl 2 rfl) ?_
      refine zcallv (zrunV (As := []) (rest := []) X hml hl hW h0.1 rfl zk_Model_328 (c_Model_keepBest h0 h) rfl ⟨Nat.le_of_ble_eq_true rfl, Nat.le_of_ble_eq_true rfl⟩ ⟨Nat.le_refl 0, Nat.le_refl 0⟩ rfl (Nat.le_of_ble_eq_true rfl) dX11_best_67) hW (fun zm10 H locs h hW => ?_)
      obtain ⟨zx12, ezx12⟩ : ∃ y : Int32, y = x_4 + 1 := ⟨_, rfl⟩
      replace h := h zx12 ezx12
      refine lv_iinc (v := zx12) (lv' := [(4, .int zx12), (2, .int x_4), (3, .int zx9), (0, .ref (zad w 0)), (1, .int a1)]) hx hb dX11_best_70 hl (k := 4) rfl (by rw [ezx12, zc_i1]) (Nat.le_of_ble_eq_true rfl) rfl (fun ls hl => ?_)
      refine lv_goto (tgt := 21) hx hb dX11_best_73 rfl ?_
      exact zJ x_4 zx9 zx12 zm10 H locs ls hW (lv_sub hl [3, 4, 1, 2, 0] rfl) h
    · replace h := h.2 c
      refine lv_aload_n hx hb dX11_best_56 rfl (lv_at hl 1 rfl) ?_
      refine zcalli (zrunV (As := []) (rest := []) X hml hl hW h0.1 rfl zk_Model_325 (c_Model_isMore h0 h) rfl ⟨Nat.le_of_ble_eq_true rfl, Nat.le_of_ble_eq_true rfl⟩ ⟨Nat.le_refl 0, Nat.le_refl 0⟩ rfl (Nat.le_of_ble_eq_true rfl) dX11_best_57) hW (fun zr14 zm13 H locs h hW => ?_)
      refine lv_if_eq (tgt := 70) hx hb dX11_best_60 rfl (fun c => ?_) (fun c => ?_)
      · replace h := h.1 c
        obtain ⟨zx15, ezx15⟩ : ∃ y : Int32, y = x_4 + 1 := ⟨_, rfl⟩
        replace h := h zx15 ezx15
        refine lv_iinc (v := zx15) (lv' := [(4, .int zx15), (3, .int zx9), (0, .ref (zad w 0)), (1, .int a1), (2, .int x_2)]) hx hb dX11_best_70 hl (k := 4) rfl (by rw [ezx15, zc_i1]) (Nat.le_of_ble_eq_true rfl) rfl (fun ls hl => ?_)
        refine lv_goto (tgt := 21) hx hb dX11_best_73 rfl ?_
        exact zJ x_2 zx9 zx15 zm13 H locs ls hW (lv_sub hl [2, 3, 4, 1, 0] rfl) h
      · replace h := h.2 c
        refine lv_iload hx hb dX11_best_63 (lv_at hl 4 rfl) ?_
        refine lv_istore_n (lv' := [(2, .int x_4), (3, .int zx9), (0, .ref (zad w 0)), (1, .int a1), (4, .int x_4)]) hx hb dX11_best_65 rfl hl (Nat.le_of_ble_eq_true rfl) rfl (fun ls hl => ?_)
        refine lv_aload_n hx hb dX11_best_66 rfl (lv_at hl 2 rfl) ?_
        refine zcallv (zrunV (As := []) (rest := []) X hml hl hW h0.1 rfl zk_Model_328 (c_Model_keepBest h0 h) rfl ⟨Nat.le_of_ble_eq_true rfl, Nat.le_of_ble_eq_true rfl⟩ ⟨Nat.le_refl 0, Nat.le_refl 0⟩ rfl (Nat.le_of_ble_eq_true rfl) dX11_best_67) hW (fun zm16 H locs h hW => ?_)
        obtain ⟨zx18, ezx18⟩ : ∃ y : Int32, y = x_4 + 1 := ⟨_, rfl⟩
        replace h := h zx18 ezx18
        refine lv_iinc (v := zx18) (lv' := [(4, .int zx18), (2, .int x_4), (3, .int zx9), (0, .ref (zad w 0)), (1, .int a1)]) hx hb dX11_best_70 hl (k := 4) rfl (by rw [ezx18, zc_i1]) (Nat.le_of_ble_eq_true rfl) rfl (fun ls hl => ?_)
        refine lv_goto (tgt := 21) hx hb dX11_best_73 rfl ?_
        exact zJ x_4 zx9 zx18 zm16 H locs ls hW (lv_sub hl [3, 4, 1, 2, 0] rfl) h
  have zL_21 : ∀ (K76 : Int32 → Int32 → zMem → Prop) (zK76 : ∀ (y_2 : Int32) (y_3 : Int32) (M : zMem) (H : Heap) (locs : List Loc) (ls : Array Slot), zWo w s.heap M H locs → lv_has ls 5 [(0, .ref (zad w 0)), (1, .int a1), (2, .int y_2), (3, .int y_3)] → K76 y_2 y_3 M → W p l e (zRm 9 210) s m ([.ref (zad w 0), .int a1] : List Value).toArray below meth c H locs 0 0 (MQ below (va_Qi post (zB w) (zA w)) ([.ref (zad w 0), .int a1] : List Value).toArray s 0 0 (zA w)) (F0 m 76 ls [])), ∀ (n : Nat) (x_2 : Int32) (x_3 : Int32) (x_4 : Int32) (M : zMem) (H : Heap) (locs : List Loc) (ls : Array Slot), zWo w s.heap M H locs → lv_has ls 5 [(0, .ref (zad w 0)), (1, .int a1), (2, .int x_2), (3, .int x_3), (4, .int x_4)] → zlp3 (wpB_Model_best_21 a1  K76 post) n x_2 x_3 x_4 M → W p l e (zRm 9 210) s m ([.ref (zad w 0), .int a1] : List Value).toArray below meth c H locs 0 0 (MQ below (va_Qi post (zB w) (zA w)) ([.ref (zad w 0), .int a1] : List Value).toArray s 0 0 (zA w)) (F0 m 21 ls []) := by
    intro K76 zK76 n
    induction n with
    | zero => intro x_2 x_3 x_4 M H locs ls hW hl h; exact h.elim
    | succ n zJ =>
      intro x_2 x_3 x_4 M H locs ls hW hl h
      have h : wpB_Model_best_21 a1  K76 post (zlp3 (wpB_Model_best_21 a1  K76 post) n) x_2 x_3 x_4 M := h
      unfold wpB_Model_best_21 at h
      refine lv_iload hx hb dX11_best_21 (lv_at hl 4 rfl) ?_
      refine lv_aload_n hx hb dX11_best_23 rfl (lv_at hl 0 rfl) ?_
      refine zcalli (zrunV (As := []) (rest := [.int x_4]) X hml hl hW h0.1 rfl zk_Model_310 (c_Model_orders h0 h) rfl ⟨Nat.le_of_ble_eq_true rfl, Nat.le_of_ble_eq_true rfl⟩ ⟨Nat.le_refl 0, Nat.le_refl 0⟩ rfl (Nat.le_of_ble_eq_true rfl) dX11_best_24) hW (fun zr4 zm3 H locs h hW => ?_)
      refine lv_icmp_ge (tgt := 76) hx hb dX11_best_27 rfl (fun c => ?_) (fun c => ?_)
      · replace h := h.1 c
        exact zK76 x_2 x_3 zm3 H locs ls hW (lv_sub hl [0, 1, 2, 3] rfl) h
      · replace h := h.2 c
        refine lv_aload_n hx hb dX11_best_30 rfl (lv_at hl 0 rfl) ?_
        refine lv_iload hx hb dX11_best_31 (lv_at hl 4 rfl) ?_
        refine zcallv (zrunV (As := [.int x_4]) (rest := []) X hml hl hW h0.1 rfl zk_Model_316 (c_Model_layOrder h0 h) rfl ⟨Nat.le_of_ble_eq_true rfl, Nat.le_of_ble_eq_true rfl⟩ ⟨Nat.le_refl 0, Nat.le_refl 0⟩ rfl (Nat.le_of_ble_eq_true rfl) dX11_best_33) hW (fun zm5 H locs h hW => ?_)
        refine lv_iload_n hx hb dX11_best_36 rfl (lv_at hl 3 rfl) ?_
        refine lv_aload_n hx hb dX11_best_37 rfl (lv_at hl 0 rfl) ?_
        refine zcalli (zrunV (As := []) (rest := [.int x_3]) X hml hl hW h0.1 rfl zk_Model_295 (c_Model_hasRing h0 h) rfl ⟨Nat.le_of_ble_eq_true rfl, Nat.le_of_ble_eq_true rfl⟩ ⟨Nat.le_refl 0, Nat.le_refl 0⟩ rfl (Nat.le_of_ble_eq_true rfl) dX11_best_38) hW (fun zr8 zm7 H locs h hW => ?_)
        refine lv_if_eq (tgt := 48) hx hb dX11_best_41 rfl (fun c => ?_) (fun c => ?_)
        · replace h := h.1 c
          refine lv_iconst hx hb dX11_best_48 zc_i1 ?_
          exact zJ_49 x_2 x_4 x_3 1 _ zK76 _ zJ zm7 H locs ls hW (lv_sub hl [0, 1, 2, 4] rfl) h
        · replace h := h.2 c
          refine lv_iconst hx hb dX11_best_44 zc_i0 ?_
          refine lv_goto (tgt := 49) hx hb dX11_best_45 rfl ?_
          exact zJ_49 x_2 x_4 x_3 0 _ zK76 _ zJ zm7 H locs ls hW (lv_sub hl [0, 1, 2, 4] rfl) h
  unfold wp_Model_best at h
  have zMain : ∀ (H : Heap) (locs : List Loc) (ls : Array Slot), zWo w s.heap M H locs → lv_has ls 5 [(0, .ref (zad w 0)), (1, .int a1)] → W p l e (zRm 9 210) s m ([.ref (zad w 0), .int a1] : List Value).toArray below meth c H locs 0 0 (MQ below (va_Qi post (zB w) (zA w)) ([.ref (zad w 0), .int a1] : List Value).toArray s 0 0 (zA w)) (F0 m 0 ls []) := by
    intro H locs ls hW hl
    refine lv_iload_n hx hb dX11_best_0 rfl (lv_at hl 1 rfl) ?_
    refine lv_i2l hx hb dX11_best_1 rfl ?_
    refine lv_lconst hx hb dX11_best_2 zc_l0 ?_
    refine lv_ldc2 hx hb X.2.2.1 (X.2.2.2.1 _ zu_1427) dX11_best_3 ?_
    refine zcalli (zrunS (As := [.long a1.toInt64, .long 0, .long 3]) (rest := []) X hml hl hW zk_Model_69 (c_Model_in  h) rfl ⟨Nat.le_of_ble_eq_true rfl, Nat.le_of_ble_eq_true rfl⟩ ⟨Nat.le_refl 0, Nat.le_refl 0⟩ rfl (Nat.le_of_ble_eq_true rfl) dX11_best_6) hW (fun zr2 zm1 H locs h hW => ?_)
    refine lv_if_ne (tgt := 14) hx hb dX11_best_9 rfl (fun c => ?_) (fun c => ?_)
    · replace h := h.1 c
      refine lv_iconst hx hb dX11_best_14 zc_i0 ?_
      refine lv_istore_n (lv' := [(2, .int 0), (0, .ref (zad w 0)), (1, .int a1)]) hx hb dX11_best_15 rfl hl (Nat.le_of_ble_eq_true rfl) rfl (fun ls hl => ?_)
      refine lv_iconst hx hb dX11_best_16 zc_i0 ?_
      refine lv_istore_n (lv' := [(3, .int 0), (2, .int 0), (0, .ref (zad w 0)), (1, .int a1)]) hx hb dX11_best_17 rfl hl (Nat.le_of_ble_eq_true rfl) rfl (fun ls hl => ?_)
      refine lv_iconst hx hb dX11_best_18 zc_i0 ?_
      refine lv_istore (lv' := [(4, .int 0), (3, .int 0), (2, .int 0), (0, .ref (zad w 0)), (1, .int a1)]) hx hb dX11_best_19 hl (Nat.le_of_ble_eq_true rfl) rfl (fun ls hl => ?_)
      obtain ⟨n, h⟩ := h
      refine zL_21  _ (fun zx20 zx21 zm19 H locs ls hW hl h => ?_) n 0 0 0 zm1 H locs ls hW (lv_sub hl [3, 4, 2, 1, 0] rfl) h
      · skip
        refine lv_iload_n hx hb dX11_best_76 rfl (lv_at hl 1 rfl) ?_
        refine lv_if_ne (tgt := 84) hx hb dX11_best_77 rfl (fun c => ?_) (fun c => ?_)
        · replace h := h.1 c
          refine lv_iload_n hx hb dX11_best_84 rfl (lv_at hl 1 rfl) ?_
          refine lv_iconst hx hb dX11_best_85 zc_i3 ?_
          refine lv_icmp_ne (tgt := 93) hx hb dX11_best_86 rfl (fun c => ?_) (fun c => ?_)
          · replace h := h.1 c
            refine lv_aload_n hx hb dX11_best_93 rfl (lv_at hl 0 rfl) ?_
            refine zg_Model_bestCoats X hW h0 zu_1053 dX11_best_94 ?_
            refine lv_i2l hx hb dX11_best_97 rfl ?_
            refine lv_aload_n hx hb dX11_best_98 rfl (lv_at hl 0 rfl) ?_
            refine zg_Model_bestTicks X hW h0 zu_1054 dX11_best_99 ?_
            refine lv_i2l hx hb dX11_best_102 rfl ?_
            refine lv_iload_n hx hb dX11_best_103 rfl (lv_at hl 1 rfl) ?_
            refine lv_iconst hx hb dX11_best_104 zc_i1 ?_
            refine lv_isub hx hb dX11_best_105 ?_
            refine zcalll (zrunS (As := [.long ((zm19 0 33).toInt64), .long ((zm19 0 34).toInt64), .int (a1 - 1)]) (rest := []) X hml hl hW zk_Model_301 (c_Model_lowest  h) rfl ⟨Nat.le_of_ble_eq_true rfl, Nat.le_of_ble_eq_true rfl⟩ ⟨Nat.le_refl 0, Nat.le_refl 0⟩ rfl (Nat.le_of_ble_eq_true rfl) dX11_best_106) hW (fun zr23 zm22 H locs h hW => ?_)
            refine lv_l2i hx hb dX11_best_109 rfl ?_
            exact zreti X hr hlk hW h dX11_best_110
          · replace h := h.2 c
            refine lv_iload_n hx hb dX11_best_89 rfl (lv_at hl 3 rfl) ?_
            refine lv_goto (tgt := 110) hx hb dX11_best_90 rfl ?_
            exact zreti X hr hlk hW h dX11_best_110
        · replace h := h.2 c
          refine lv_iload_n hx hb dX11_best_80 rfl (lv_at hl 2 rfl) ?_
          refine lv_goto (tgt := 110) hx hb dX11_best_81 rfl ?_
          exact zreti X hr hlk hW h dX11_best_110
    · replace h := h.2 c
      refine lv_iconst hx hb dX11_best_12 zc_im1 ?_
      exact zreti X hr hlk hW h dX11_best_13
  exact zMain s.heap [] ls hW hl
def wp_Model_stands (a1 : Int32) (a2 : Int32) (M : zMem) (Q : Int32 → zMem → Prop) : Prop :=
  wp_Model_isOrder a1 M (fun zr2 zm1 => (zr2 = 0 → Q ((-1)) zm1) ∧ (¬ zr2 = 0 → wp_Model_isHand a2 zm1 (fun zr4 zm3 => (¬ zr4 = 0 → wp_Model_layOrder a1 zm3 (fun zm5 => vp_in a2 5 ∧ Q (zm5 8 (ix a2)) zm5)) ∧ (zr4 = 0 → Q ((-1)) zm3))))
set_option maxHeartbeats 4000000 in
set_option maxRecDepth 20000 in
theorem c_Model_stands {l : Launch} {w : zWd} {a1 : Int32} {a2 : Int32} {M : zMem} {post : Int32 → zMem → Prop} (h0 : zI_Model w) (h : wp_Model_stands a1 a2 M post) : zMi l ⟨"HandToHandModel", "stands", "(II)I"⟩ prog_13_method_83_code 3 (Option.some .int) 3 69 w [.ref (zad w 0), .int a1, .int a2] M post := by
  refine zMet (by decide) (Nat.le_of_ble_eq_true rfl) ?_
  intro p e s m below meth c X hr hlk hml hW ls hl
  have hx := X.1
  have hb := X.2.1
  have hl : lv_has ls 3 [(0, .ref (zad w 0)), (1, .int a1), (2, .int a2)] := hl
  unfold wp_Model_stands at h
  have zMain : ∀ (H : Heap) (locs : List Loc) (ls : Array Slot), zWo w s.heap M H locs → lv_has ls 3 [(0, .ref (zad w 0)), (1, .int a1), (2, .int a2)] → W p l e (zRm 3 69) s m ([.ref (zad w 0), .int a1, .int a2] : List Value).toArray below meth c H locs 0 0 (MQ below (va_Qi post (zB w) (zA w)) ([.ref (zad w 0), .int a1, .int a2] : List Value).toArray s 0 0 (zA w)) (F0 m 0 ls []) := by
    intro H locs ls hW hl
    refine lv_aload_n hx hb dX11_stands_0 rfl (lv_at hl 0 rfl) ?_
    refine lv_iload_n hx hb dX11_stands_1 rfl (lv_at hl 1 rfl) ?_
    refine zcalli (zrunV (As := [.int a1]) (rest := []) X hml hl hW h0.1 rfl zk_Model_313 (c_Model_isOrder h0 h) rfl ⟨Nat.le_of_ble_eq_true rfl, Nat.le_of_ble_eq_true rfl⟩ ⟨Nat.le_refl 0, Nat.le_refl 0⟩ rfl (Nat.le_of_ble_eq_true rfl) dX11_stands_2) hW (fun zr2 zm1 H locs h hW => ?_)
    refine lv_if_eq (tgt := 16) hx hb dX11_stands_5 rfl (fun c => ?_) (fun c => ?_)
    · replace h := h.1 c
      refine lv_iconst hx hb dX11_stands_16 zc_im1 ?_
      exact zreti X hr hlk hW h dX11_stands_17
    · replace h := h.2 c
      refine lv_aload_n hx hb dX11_stands_8 rfl (lv_at hl 0 rfl) ?_
      refine lv_iload_n hx hb dX11_stands_9 rfl (lv_at hl 2 rfl) ?_
      refine zcalli (zrunV (As := [.int a2]) (rest := []) X hml hl hW h0.1 rfl zk_Model_166 (c_Model_isHand h0 h) rfl ⟨Nat.le_of_ble_eq_true rfl, Nat.le_of_ble_eq_true rfl⟩ ⟨Nat.le_refl 0, Nat.le_refl 0⟩ rfl (Nat.le_of_ble_eq_true rfl) dX11_stands_10) hW (fun zr4 zm3 H locs h hW => ?_)
      refine lv_if_ne (tgt := 18) hx hb dX11_stands_13 rfl (fun c => ?_) (fun c => ?_)
      · replace h := h.1 c
        refine lv_aload_n hx hb dX11_stands_18 rfl (lv_at hl 0 rfl) ?_
        refine lv_iload_n hx hb dX11_stands_19 rfl (lv_at hl 1 rfl) ?_
        refine zcallv (zrunV (As := [.int a1]) (rest := []) X hml hl hW h0.1 rfl zk_Model_316 (c_Model_layOrder h0 h) rfl ⟨Nat.le_of_ble_eq_true rfl, Nat.le_of_ble_eq_true rfl⟩ ⟨Nat.le_refl 0, Nat.le_refl 0⟩ rfl (Nat.le_of_ble_eq_true rfl) dX11_stands_20) hW (fun zm5 H locs h hW => ?_)
        refine lv_aload_n hx hb dX11_stands_23 rfl (lv_at hl 0 rfl) ?_
        refine zg_Model_who X hW h0 zu_1040 dX11_stands_24 ?_
        refine lv_iload_n hx hb dX11_stands_27 rfl (lv_at hl 2 rfl) ?_
        obtain ⟨g, h⟩ := h
        refine ziald X hW h0.2.2.2.2.2.2.2.1 g dX11_stands_28 ?_
        exact zreti X hr hlk hW h dX11_stands_29
      · replace h := h.2 c
        refine lv_iconst hx hb dX11_stands_16 zc_im1 ?_
        exact zreti X hr hlk hW h dX11_stands_17
  exact zMain s.heap [] ls hW hl
def wp_Model_isLike  (M : zMem) (Q : Int32 → zMem → Prop) : Prop :=
  (¬ (lg_cmp (((M 0 31).toInt64) * ((M 0 34).toInt64)) (((M 0 33).toInt64) * ((M 0 32).toInt64))) = 0 → Q 0 M) ∧ ((lg_cmp (((M 0 31).toInt64) * ((M 0 34).toInt64)) (((M 0 33).toInt64) * ((M 0 32).toInt64))) = 0 → Q 1 M)
set_option maxHeartbeats 4000000 in
set_option maxRecDepth 20000 in
theorem c_Model_isLike {l : Launch} {w : zWd} {M : zMem} {post : Int32 → zMem → Prop} (h0 : zI_Model w) (h : wp_Model_isLike  M post) : zMi l ⟨"HandToHandModel", "isLike", "()Z"⟩ prog_13_method_85_code 1 (Option.some .boolean) 0 0 w [.ref (zad w 0)] M post := by
  refine zMet (by decide) (Nat.le_of_ble_eq_true rfl) ?_
  intro p e s m below meth c X hr hlk hml hW ls hl
  have hx := X.1
  have hb := X.2.1
  have hl : lv_has ls 1 [(0, .ref (zad w 0))] := hl
  unfold wp_Model_isLike at h
  have zMain : ∀ (H : Heap) (locs : List Loc) (ls : Array Slot), zWo w s.heap M H locs → lv_has ls 1 [(0, .ref (zad w 0))] → W p l e (zRm 0 0) s m ([.ref (zad w 0)] : List Value).toArray below meth c H locs 0 0 (MQ below (va_Qi post (zB w) (zA w)) ([.ref (zad w 0)] : List Value).toArray s 0 0 (zA w)) (F0 m 0 ls []) := by
    intro H locs ls hW hl
    refine lv_aload_n hx hb dX11_isLike_0 rfl (lv_at hl 0 rfl) ?_
    refine zg_Model_ringCoats X hW h0 zu_1051 dX11_isLike_1 ?_
    refine lv_i2l hx hb dX11_isLike_4 rfl ?_
    refine lv_aload_n hx hb dX11_isLike_5 rfl (lv_at hl 0 rfl) ?_
    refine zg_Model_bestTicks X hW h0 zu_1054 dX11_isLike_6 ?_
    refine lv_i2l hx hb dX11_isLike_9 rfl ?_
    refine lv_lmul hx hb dX11_isLike_10 ?_
    refine lv_aload_n hx hb dX11_isLike_11 rfl (lv_at hl 0 rfl) ?_
    refine zg_Model_bestCoats X hW h0 zu_1053 dX11_isLike_12 ?_
    refine lv_i2l hx hb dX11_isLike_15 rfl ?_
    refine lv_aload_n hx hb dX11_isLike_16 rfl (lv_at hl 0 rfl) ?_
    refine zg_Model_ringTicks X hW h0 zu_1052 dX11_isLike_17 ?_
    refine lv_i2l hx hb dX11_isLike_20 rfl ?_
    refine lv_lmul hx hb dX11_isLike_21 ?_
    refine W.lcmp hx hb dX11_isLike_22 ?_
    refine lv_if_ne (tgt := 30) hx hb dX11_isLike_23 rfl (fun c => ?_) (fun c => ?_)
    · replace h := h.1 c
      refine lv_iconst hx hb dX11_isLike_30 zc_i0 ?_
      exact zretz X hr hlk hW rfl h dX11_isLike_31
    · replace h := h.2 c
      refine lv_iconst hx hb dX11_isLike_26 zc_i1 ?_
      refine lv_goto (tgt := 31) hx hb dX11_isLike_27 rfl ?_
      exact zretz X hr hlk hW rfl h dX11_isLike_31
  exact zMain s.heap [] ls hW hl
def wpB_Model_areLess_2   (K25 : Int32 → zMem → Prop) (Q : Int32 → zMem → Prop) (J : Int32 → zMem → Prop) (x_1 : Int32) (M : zMem) : Prop :=
  ((M 0 18) ≤ x_1 → Q 0 M) ∧ (¬ (M 0 18) ≤ x_1 → vp_in x_1 5 ∧ vp_in x_1 5 ∧ ((M 9 (ix x_1)) = (M 15 (ix x_1)) → ∀ zx1 : Int32, zx1 = x_1 + 1 → J zx1 M) ∧ (¬ (M 9 (ix x_1)) = (M 15 (ix x_1)) → K25 x_1 M))
def wp_Model_areLess  (M : zMem) (Q : Int32 → zMem → Prop) : Prop :=
  ∃ n : Nat, zlp1 (wpB_Model_areLess_2   (fun (zx3 : Int32) (zm2 : zMem) => vp_in zx3 5 ∧ vp_in zx3 5 ∧ ((zm2 15 (ix zx3)) ≤ (zm2 9 (ix zx3)) → Q 0 zm2) ∧ (¬ (zm2 15 (ix zx3)) ≤ (zm2 9 (ix zx3)) → Q 1 zm2)) Q) n 0 M
set_option maxHeartbeats 4000000 in
set_option maxRecDepth 20000 in
theorem c_Model_areLess {l : Launch} {w : zWd} {M : zMem} {post : Int32 → zMem → Prop} (h0 : zI_Model w) (h : wp_Model_areLess  M post) : zMi l ⟨"HandToHandModel", "areLess", "()Z"⟩ prog_13_method_86_code 2 (Option.some .boolean) 0 0 w [.ref (zad w 0)] M post := by
  refine zMet (by decide) (Nat.le_of_ble_eq_true rfl) ?_
  intro p e s m below meth c X hr hlk hml hW ls hl
  have hx := X.1
  have hb := X.2.1
  have hl : lv_has ls 2 [(0, .ref (zad w 0))] := hl
  have zL_2 : ∀ (K25 : Int32 → zMem → Prop) (zK25 : ∀ (y_1 : Int32) (M : zMem) (H : Heap) (locs : List Loc) (ls : Array Slot), zWo w s.heap M H locs → lv_has ls 2 [(0, .ref (zad w 0)), (1, .int y_1)] → K25 y_1 M → W p l e (zRm 0 0) s m ([.ref (zad w 0)] : List Value).toArray below meth c H locs 0 0 (MQ below (va_Qi post (zB w) (zA w)) ([.ref (zad w 0)] : List Value).toArray s 0 0 (zA w)) (F0 m 25 ls [])), ∀ (n : Nat) (x_1 : Int32) (M : zMem) (H : Heap) (locs : List Loc) (ls : Array Slot), zWo w s.heap M H locs → lv_has ls 2 [(0, .ref (zad w 0)), (1, .int x_1)] → zlp1 (wpB_Model_areLess_2   K25 post) n x_1 M → W p l e (zRm 0 0) s m ([.ref (zad w 0)] : List Value).toArray below meth c H locs 0 0 (MQ below (va_Qi post (zB w) (zA w)) ([.ref (zad w 0)] : List Value).toArray s 0 0 (zA w)) (F0 m 2 ls []) := by
    intro K25 zK25 n
    induction n with
    | zero => intro x_1 M H locs ls hW hl h; exact h.elim
    | succ n zJ =>
      intro x_1 M H locs ls hW hl h
      have h : wpB_Model_areLess_2   K25 post (zlp1 (wpB_Model_areLess_2   K25 post) n) x_1 M := h
      unfold wpB_Model_areLess_2 at h
      refine lv_iload_n hx hb dX11_areLess_2 rfl (lv_at hl 1 rfl) ?_
      refine lv_aload_n hx hb dX11_areLess_3 rfl (lv_at hl 0 rfl) ?_
      refine zg_Model_many X hW h0 zu_1038 dX11_areLess_4 ?_
      refine lv_icmp_ge (tgt := 52) hx hb dX11_areLess_7 rfl (fun c => ?_) (fun c => ?_)
      · replace h := h.1 c
        refine lv_iconst hx hb dX11_areLess_52 zc_i0 ?_
        exact zretz X hr hlk hW rfl h dX11_areLess_53
      · replace h := h.2 c
        refine lv_aload_n hx hb dX11_areLess_10 rfl (lv_at hl 0 rfl) ?_
        refine zg_Model_ends X hW h0 zu_1041 dX11_areLess_11 ?_
        refine lv_iload_n hx hb dX11_areLess_14 rfl (lv_at hl 1 rfl) ?_
        obtain ⟨g, h⟩ := h
        refine ziald X hW h0.2.2.2.2.2.2.2.2.1 g dX11_areLess_15 ?_
        refine lv_aload_n hx hb dX11_areLess_16 rfl (lv_at hl 0 rfl) ?_
        refine zg_Model_bestEnds X hW h0 zu_1055 dX11_areLess_17 ?_
        refine lv_iload_n hx hb dX11_areLess_20 rfl (lv_at hl 1 rfl) ?_
        obtain ⟨g, h⟩ := h
        refine ziald X hW h0.2.2.2.2.2.2.2.2.2.2.2.2.2.2.1 g dX11_areLess_21 ?_
        refine lv_icmp_eq (tgt := 46) hx hb dX11_areLess_22 rfl (fun c => ?_) (fun c => ?_)
        · replace h := h.1 c
          obtain ⟨zx1, ezx1⟩ : ∃ y : Int32, y = x_1 + 1 := ⟨_, rfl⟩
          replace h := h zx1 ezx1
          refine lv_iinc (v := zx1) (lv' := [(1, .int zx1), (0, .ref (zad w 0))]) hx hb dX11_areLess_46 hl (k := 1) rfl (by rw [ezx1, zc_i1]) (Nat.le_of_ble_eq_true rfl) rfl (fun ls hl => ?_)
          refine lv_goto (tgt := 2) hx hb dX11_areLess_49 rfl ?_
          exact zJ zx1 M H locs ls hW (lv_sub hl [1, 0] rfl) h
        · replace h := h.2 c
          exact zK25 x_1 M H locs ls hW (lv_sub hl [0, 1] rfl) h
  unfold wp_Model_areLess at h
  have zMain : ∀ (H : Heap) (locs : List Loc) (ls : Array Slot), zWo w s.heap M H locs → lv_has ls 2 [(0, .ref (zad w 0))] → W p l e (zRm 0 0) s m ([.ref (zad w 0)] : List Value).toArray below meth c H locs 0 0 (MQ below (va_Qi post (zB w) (zA w)) ([.ref (zad w 0)] : List Value).toArray s 0 0 (zA w)) (F0 m 0 ls []) := by
    intro H locs ls hW hl
    refine lv_iconst hx hb dX11_areLess_0 zc_i0 ?_
    refine lv_istore_n (lv' := [(1, .int 0), (0, .ref (zad w 0))]) hx hb dX11_areLess_1 rfl hl (Nat.le_of_ble_eq_true rfl) rfl (fun ls hl => ?_)
    obtain ⟨n, h⟩ := h
    refine zL_2  _ (fun zx3 zm2 H locs ls hW hl h => ?_) n 0 M H locs ls hW (lv_sub hl [1, 0] rfl) h
    · skip
      refine lv_aload_n hx hb dX11_areLess_25 rfl (lv_at hl 0 rfl) ?_
      refine zg_Model_ends X hW h0 zu_1041 dX11_areLess_26 ?_
      refine lv_iload_n hx hb dX11_areLess_29 rfl (lv_at hl 1 rfl) ?_
      obtain ⟨g, h⟩ := h
      refine ziald X hW h0.2.2.2.2.2.2.2.2.1 g dX11_areLess_30 ?_
      refine lv_aload_n hx hb dX11_areLess_31 rfl (lv_at hl 0 rfl) ?_
      refine zg_Model_bestEnds X hW h0 zu_1055 dX11_areLess_32 ?_
      refine lv_iload_n hx hb dX11_areLess_35 rfl (lv_at hl 1 rfl) ?_
      obtain ⟨g, h⟩ := h
      refine ziald X hW h0.2.2.2.2.2.2.2.2.2.2.2.2.2.2.1 g dX11_areLess_36 ?_
      refine lv_icmp_ge (tgt := 44) hx hb dX11_areLess_37 rfl (fun c => ?_) (fun c => ?_)
      · replace h := h.1 c
        refine lv_iconst hx hb dX11_areLess_44 zc_i0 ?_
        exact zretz X hr hlk hW rfl h dX11_areLess_45
      · replace h := h.2 c
        refine lv_iconst hx hb dX11_areLess_40 zc_i1 ?_
        refine lv_goto (tgt := 45) hx hb dX11_areLess_41 rfl ?_
        exact zretz X hr hlk hW rfl h dX11_areLess_45
  exact zMain s.heap [] ls hW hl
def wpB_Model_parts_82 (a1 : Int32) (x_2 : Int32) (x_3 : Int32) (K134 : Int32 → zMem → Prop) (Q : Int32 → zMem → Prop) (J : Int32 → Int32 → zMem → Prop) (x_4 : Int32) (x_5 : Int32) (M : zMem) : Prop :=
  vp_in 0 100 ∧ ((M 4 (ix 0)) ≤ x_5 → K134 x_4 M) ∧ (¬ (M 4 (ix 0)) ≤ x_5 → (¬ ((x_3 >>> (x_5 &&& 31)) &&& 1) = 1 → ∀ zx6 : Int32, zx6 = x_5 + 1 → J x_4 zx6 M) ∧ (((x_3 >>> (x_5 &&& 31)) &&& 1) = 1 → ((M 0 18) ≤ x_4 → vp_in 0 5 ∧ ∀ zm7 : zMem, zm7 = zup M 9 (ix 0) x_5 → ∀ zx8 : Int32, zx8 = x_4 + 1 → ∀ zx9 : Int32, zx9 = x_5 + 1 → J zx8 zx9 zm7) ∧ (¬ (M 0 18) ≤ x_4 → vp_in x_4 5 ∧ ∀ zm10 : zMem, zm10 = zup M 9 (ix x_4) x_5 → ∀ zx11 : Int32, zx11 = x_4 + 1 → ∀ zx12 : Int32, zx12 = x_5 + 1 → J zx11 zx12 zm10)))
def wpB_Model_parts_207 (a1 : Int32) (x_2 : Int32) (x_3 : Int32) (K233 : zMem → Prop) (Q : Int32 → zMem → Prop) (J : Int32 → zMem → Prop) (x_5 : Int32) (M : zMem) : Prop :=
  (5 ≤ x_5 → K233 M) ∧ (¬ 5 ≤ x_5 → vp_in x_5 5 ∧ vp_in x_5 5 ∧ ∀ zm22 : zMem, zm22 = zup M 15 (ix x_5) (M 9 (ix x_5)) → ∀ zx23 : Int32, zx23 = x_5 + 1 → J zx23 zm22)
def wpB_Model_parts_55 (a1 : Int32)  (K239 : zMem → Prop) (Q : Int32 → zMem → Prop) (J : Int32 → Int32 → zMem → Prop) (x_2 : Int32) (x_3 : Int32) (M : zMem) : Prop :=
  vp_in 0 100 ∧ ((1 <<< ((M 4 (ix 0)) &&& 31)) ≤ x_3 → K239 M) ∧ (¬ (1 <<< ((M 4 (ix 0)) &&& 31)) ≤ x_3 → wp_Model_asNumbered M (fun zm3 => ∀ zm5 : zMem, zm5 = zup zm3 0 19 2 → ∃ n : Nat, zlp2 (wpB_Model_parts_82 a1 x_2 x_3 (fun (zx14 : Int32) (zm13 : zMem) => (¬ zx14 = ((zm13 0 18) - 1) → ∀ zx15 : Int32, zx15 = x_3 + 1 → J x_2 zx15 zm13) ∧ (zx14 = ((zm13 0 18) - 1) → (¬ (x_3 &&& 1) = 0 → ∀ zx16 : Int32, zx16 = x_3 + 1 → J x_2 zx16 zm13) ∧ ((x_3 &&& 1) = 0 → vp_in 0 100 ∧ vp_in ((zm13 0 18) - 1) 5 ∧ ∀ zm17 : zMem, zm17 = zup zm13 9 (ix ((zm13 0 18) - 1)) (zm13 4 (ix 0)) → wp_Model_hasRing zm17 (fun zr19 zm18 => (x_2 = 0 → wp_Model_keepBest zm18 (fun zm20 => ∃ n : Nat, zlp1 (wpB_Model_parts_207 a1 1 x_3 (fun (zm24 : zMem) => ∀ zx25 : Int32, zx25 = x_3 + 1 → J 1 zx25 zm24) Q) n 0 zm20)) ∧ (¬ x_2 = 0 → wp_Model_isMore zm18 (fun zr27 zm26 => (¬ zr27 = 0 → wp_Model_keepBest zm26 (fun zm28 => ∃ n : Nat, zlp1 (wpB_Model_parts_207 a1 1 x_3 (fun (zm30 : zMem) => ∀ zx31 : Int32, zx31 = x_3 + 1 → J 1 zx31 zm30) Q) n 0 zm28)) ∧ (zr27 = 0 → wp_Model_isLike zm26 (fun zr33 zm32 => (zr33 = 0 → ∀ zx34 : Int32, zx34 = x_3 + 1 → J x_2 zx34 zm32) ∧ (¬ zr33 = 0 → wp_Model_areLess zm32 (fun zr36 zm35 => (zr36 = 0 → ∀ zx37 : Int32, zx37 = x_3 + 1 → J x_2 zx37 zm35) ∧ (¬ zr36 = 0 → wp_Model_keepBest zm35 (fun zm38 => ∃ n : Nat, zlp1 (wpB_Model_parts_207 a1 1 x_3 (fun (zm40 : zMem) => ∀ zx41 : Int32, zx41 = x_3 + 1 → J 1 zx41 zm40) Q) n 0 zm38)))))))))))) Q) n 0 1 zm5))
def wpJ_Model_parts_33 (a1 : Int32)  (Q : Int32 → zMem → Prop)   (M : zMem) : Prop :=
  vp_in 0 100 ∧ vp_in 1 100 ∧ ((M 4 (ix 1)) ≤ (M 4 (ix 0)) → ∃ n : Nat, zlp2 (wpB_Model_parts_55 a1  (fun (zm42 : zMem) => (2 ≤ a1 → vp_in (a1 - 10) 5 ∧ Q (zm42 15 (ix (a1 - 10))) zm42) ∧ (¬ 2 ≤ a1 → wp_Model_lowest ((zm42 0 33).toInt64) ((zm42 0 34).toInt64) a1 zm42 (fun zr44 zm43 => Q zr44.toInt32 zm43))) Q) n 0 0 M) ∧ (¬ (M 4 (ix 1)) ≤ (M 4 (ix 0)) → Q ((-4)) M)
def wp_Model_parts (a1 : Int32) (M : zMem) (Q : Int32 → zMem → Prop) : Prop :=
  wp_Model_in a1.toInt64 0 1 M (fun zr2 zm1 => (¬ zr2 = 0 → wpJ_Model_parts_33 a1 Q zm1) ∧ (zr2 = 0 → vp_in 1 100 ∧ wp_Model_in a1.toInt64 10 ((8 + (zm1 4 (ix 1))).toInt64) zm1 (fun zr46 zm45 => (¬ zr46 = 0 → wpJ_Model_parts_33 a1 Q zm45) ∧ (zr46 = 0 → Q ((-1)) zm45))))
set_option maxHeartbeats 4000000 in
set_option maxRecDepth 20000 in
theorem c_Model_parts {l : Launch} {w : zWd} {a1 : Int32} {M : zMem} {post : Int32 → zMem → Prop} (h0 : zI_Model w) (h : wp_Model_parts a1 M post) : zMi l ⟨"HandToHandModel", "parts", "(I)I"⟩ prog_13_method_84_code 6 (Option.some .int) 9 210 w [.ref (zad w 0), .int a1] M post := by
  refine zMet (by decide) (Nat.le_of_ble_eq_true rfl) ?_
  intro p e s m below meth c X hr hlk hml hW ls hl
  have hx := X.1
  have hb := X.2.1
  have hl : lv_has ls 6 [(0, .ref (zad w 0)), (1, .int a1)] := hl
  have zL_82 : ∀ (x_2 : Int32) (x_3 : Int32) (K134 : Int32 → zMem → Prop) (zK134 : ∀ (y_4 : Int32) (M : zMem) (H : Heap) (locs : List Loc) (ls : Array Slot), zWo w s.heap M H locs → lv_has ls 6 [(0, .ref (zad w 0)), (1, .int a1), (2, .int x_2), (3, .int x_3), (4, .int y_4)] → K134 y_4 M → W p l e (zRm 9 210) s m ([.ref (zad w 0), .int a1] : List Value).toArray below meth c H locs 0 0 (MQ below (va_Qi post (zB w) (zA w)) ([.ref (zad w 0), .int a1] : List Value).toArray s 0 0 (zA w)) (F0 m 134 ls [])), ∀ (n : Nat) (x_4 : Int32) (x_5 : Int32) (M : zMem) (H : Heap) (locs : List Loc) (ls : Array Slot), zWo w s.heap M H locs → lv_has ls 6 [(0, .ref (zad w 0)), (1, .int a1), (2, .int x_2), (3, .int x_3), (4, .int x_4), (5, .int x_5)] → zlp2 (wpB_Model_parts_82 a1 x_2 x_3 K134 post) n x_4 x_5 M → W p l e (zRm 9 210) s m ([.ref (zad w 0), .int a1] : List Value).toArray below meth c H locs 0 0 (MQ below (va_Qi post (zB w) (zA w)) ([.ref (zad w 0), .int a1] : List Value).toArray s 0 0 (zA w)) (F0 m 82 ls []) := by
    intro x_2 x_3 K134 zK134 n
    induction n with
    | zero => intro x_4 x_5 M H locs ls hW hl h; exact h.elim
    | succ n zJ =>
      intro x_4 x_5 M H locs ls hW hl h
      have h : wpB_Model_parts_82 a1 x_2 x_3 K134 post (zlp2 (wpB_Model_parts_82 a1 x_2 x_3 K134 post) n) x_4 x_5 M := h
      unfold wpB_Model_parts_82 at h
      refine lv_iload hx hb dX11_parts_82 (lv_at hl 5 rfl) ?_
      refine lv_aload_n hx hb dX11_parts_84 rfl (lv_at hl 0 rfl) ?_
      refine zg_Model_holds X hW h0 zu_1031 dX11_parts_85 ?_
      refine lv_iconst hx hb dX11_parts_88 zc_i0 ?_
      obtain ⟨g, h⟩ := h
      refine ziald X hW h0.2.2.2.2.1 g dX11_parts_89 ?_
      refine lv_icmp_ge (tgt := 134) hx hb dX11_parts_90 rfl (fun c => ?_) (fun c => ?_)
      · replace h := h.1 c
        exact zK134 x_4 M H locs ls hW (lv_sub hl [0, 1, 2, 3, 4] rfl) h
      · replace h := h.2 c
        refine lv_iload_n hx hb dX11_parts_93 rfl (lv_at hl 3 rfl) ?_
        refine lv_iload hx hb dX11_parts_94 (lv_at hl 5 rfl) ?_
        refine lv_ishr hx hb dX11_parts_96 ?_
        refine lv_iconst hx hb dX11_parts_97 zc_i1 ?_
        refine lv_iand hx hb dX11_parts_98 ?_
        refine lv_iconst hx hb dX11_parts_99 zc_i1 ?_
        refine lv_icmp_ne (tgt := 128) hx hb dX11_parts_100 rfl (fun c => ?_) (fun c => ?_)
        · replace h := h.1 c
          obtain ⟨zx6, ezx6⟩ : ∃ y : Int32, y = x_5 + 1 := ⟨_, rfl⟩
          replace h := h zx6 ezx6
          refine lv_iinc (v := zx6) (lv' := [(5, .int zx6), (0, .ref (zad w 0)), (1, .int a1), (2, .int x_2), (3, .int x_3), (4, .int x_4)]) hx hb dX11_parts_128 hl (k := 5) rfl (by rw [ezx6, zc_i1]) (Nat.le_of_ble_eq_true rfl) rfl (fun ls hl => ?_)
          refine lv_goto (tgt := 82) hx hb dX11_parts_131 rfl ?_
          exact zJ x_4 zx6 M H locs ls hW (lv_sub hl [1, 2, 3, 4, 5, 0] rfl) h
        · replace h := h.2 c
          refine lv_aload_n hx hb dX11_parts_103 rfl (lv_at hl 0 rfl) ?_
          refine zg_Model_ends X hW h0 zu_1041 dX11_parts_104 ?_
          refine lv_iload hx hb dX11_parts_107 (lv_at hl 4 rfl) ?_
          refine lv_aload_n hx hb dX11_parts_109 rfl (lv_at hl 0 rfl) ?_
          refine zg_Model_many X hW h0 zu_1038 dX11_parts_110 ?_
          refine lv_icmp_ge (tgt := 121) hx hb dX11_parts_113 rfl (fun c => ?_) (fun c => ?_)
          · replace h := h.1 c
            refine lv_iconst hx hb dX11_parts_121 zc_i0 ?_
            refine lv_iload hx hb dX11_parts_122 (lv_at hl 5 rfl) ?_
            obtain ⟨g, h⟩ := h
            refine ziast X hW h0.2.2.2.2.2.2.2.2.1 g dX11_parts_124 (fun H locs zm7 ezm7 hW => ?_)
            replace h := h zm7 ezm7
            obtain ⟨zx8, ezx8⟩ : ∃ y : Int32, y = x_4 + 1 := ⟨_, rfl⟩
            replace h := h zx8 ezx8
            refine lv_iinc (v := zx8) (lv' := [(4, .int zx8), (0, .ref (zad w 0)), (1, .int a1), (2, .int x_2), (3, .int x_3), (5, .int x_5)]) hx hb dX11_parts_125 hl (k := 4) rfl (by rw [ezx8, zc_i1]) (Nat.le_of_ble_eq_true rfl) rfl (fun ls hl => ?_)
            obtain ⟨zx9, ezx9⟩ : ∃ y : Int32, y = x_5 + 1 := ⟨_, rfl⟩
            replace h := h zx9 ezx9
            refine lv_iinc (v := zx9) (lv' := [(5, .int zx9), (4, .int zx8), (0, .ref (zad w 0)), (1, .int a1), (2, .int x_2), (3, .int x_3)]) hx hb dX11_parts_128 hl (k := 5) rfl (by rw [ezx9, zc_i1]) (Nat.le_of_ble_eq_true rfl) rfl (fun ls hl => ?_)
            refine lv_goto (tgt := 82) hx hb dX11_parts_131 rfl ?_
            exact zJ zx8 zx9 zm7 H locs ls hW (lv_sub hl [2, 3, 4, 5, 1, 0] rfl) h
          · replace h := h.2 c
            refine lv_iload hx hb dX11_parts_116 (lv_at hl 4 rfl) ?_
            refine lv_goto (tgt := 122) hx hb dX11_parts_118 rfl ?_
            refine lv_iload hx hb dX11_parts_122 (lv_at hl 5 rfl) ?_
            obtain ⟨g, h⟩ := h
            refine ziast X hW h0.2.2.2.2.2.2.2.2.1 g dX11_parts_124 (fun H locs zm10 ezm10 hW => ?_)
            replace h := h zm10 ezm10
            obtain ⟨zx11, ezx11⟩ : ∃ y : Int32, y = x_4 + 1 := ⟨_, rfl⟩
            replace h := h zx11 ezx11
            refine lv_iinc (v := zx11) (lv' := [(4, .int zx11), (0, .ref (zad w 0)), (1, .int a1), (2, .int x_2), (3, .int x_3), (5, .int x_5)]) hx hb dX11_parts_125 hl (k := 4) rfl (by rw [ezx11, zc_i1]) (Nat.le_of_ble_eq_true rfl) rfl (fun ls hl => ?_)
            obtain ⟨zx12, ezx12⟩ : ∃ y : Int32, y = x_5 + 1 := ⟨_, rfl⟩
            replace h := h zx12 ezx12
            refine lv_iinc (v := zx12) (lv' := [(5, .int zx12), (4, .int zx11), (0, .ref (zad w 0)), (1, .int a1), (2, .int x_2), (3, .int x_3)]) hx hb dX11_parts_128 hl (k := 5) rfl (by rw [ezx12, zc_i1]) (Nat.le_of_ble_eq_true rfl) rfl (fun ls hl => ?_)
            refine lv_goto (tgt := 82) hx hb dX11_parts_131 rfl ?_
            exact zJ zx11 zx12 zm10 H locs ls hW (lv_sub hl [2, 3, 4, 5, 1, 0] rfl) h
  have zL_207 : ∀ (x_2 : Int32) (x_3 : Int32) (K233 : zMem → Prop) (zK233 : ∀ (M : zMem) (H : Heap) (locs : List Loc) (ls : Array Slot), zWo w s.heap M H locs → lv_has ls 6 [(0, .ref (zad w 0)), (1, .int a1), (2, .int x_2), (3, .int x_3)] → K233 M → W p l e (zRm 9 210) s m ([.ref (zad w 0), .int a1] : List Value).toArray below meth c H locs 0 0 (MQ below (va_Qi post (zB w) (zA w)) ([.ref (zad w 0), .int a1] : List Value).toArray s 0 0 (zA w)) (F0 m 233 ls [])), ∀ (n : Nat) (x_5 : Int32) (M : zMem) (H : Heap) (locs : List Loc) (ls : Array Slot), zWo w s.heap M H locs → lv_has ls 6 [(0, .ref (zad w 0)), (1, .int a1), (2, .int x_2), (3, .int x_3), (5, .int x_5)] → zlp1 (wpB_Model_parts_207 a1 x_2 x_3 K233 post) n x_5 M → W p l e (zRm 9 210) s m ([.ref (zad w 0), .int a1] : List Value).toArray below meth c H locs 0 0 (MQ below (va_Qi post (zB w) (zA w)) ([.ref (zad w 0), .int a1] : List Value).toArray s 0 0 (zA w)) (F0 m 207 ls []) := by
    intro x_2 x_3 K233 zK233 n
    induction n with
    | zero => intro x_5 M H locs ls hW hl h; exact h.elim
    | succ n zJ =>
      intro x_5 M H locs ls hW hl h
      have h : wpB_Model_parts_207 a1 x_2 x_3 K233 post (zlp1 (wpB_Model_parts_207 a1 x_2 x_3 K233 post) n) x_5 M := h
      unfold wpB_Model_parts_207 at h
      refine lv_iload hx hb dX11_parts_207 (lv_at hl 4 rfl) ?_
      refine lv_iconst hx hb dX11_parts_209 zc_i5 ?_
      refine lv_icmp_ge (tgt := 233) hx hb dX11_parts_210 rfl (fun c => ?_) (fun c => ?_)
      · replace h := h.1 c
        exact zK233 M H locs ls hW (lv_sub hl [0, 1, 2, 3] rfl) h
      · replace h := h.2 c
        refine lv_aload_n hx hb dX11_parts_213 rfl (lv_at hl 0 rfl) ?_
        refine zg_Model_bestEnds X hW h0 zu_1055 dX11_parts_214 ?_
        refine lv_iload hx hb dX11_parts_217 (lv_at hl 4 rfl) ?_
        refine lv_aload_n hx hb dX11_parts_219 rfl (lv_at hl 0 rfl) ?_
        refine zg_Model_ends X hW h0 zu_1041 dX11_parts_220 ?_
        refine lv_iload hx hb dX11_parts_223 (lv_at hl 4 rfl) ?_
        obtain ⟨g, h⟩ := h
        refine ziald X hW h0.2.2.2.2.2.2.2.2.1 g dX11_parts_225 ?_
        obtain ⟨g, h⟩ := h
        refine ziast X hW h0.2.2.2.2.2.2.2.2.2.2.2.2.2.2.1 g dX11_parts_226 (fun H locs zm22 ezm22 hW => ?_)
        replace h := h zm22 ezm22
        obtain ⟨zx23, ezx23⟩ : ∃ y : Int32, y = x_5 + 1 := ⟨_, rfl⟩
        replace h := h zx23 ezx23
        refine lv_iinc (v := zx23) (lv' := [(5, .int zx23), (0, .ref (zad w 0)), (1, .int a1), (2, .int x_2), (3, .int x_3)]) hx hb dX11_parts_227 hl (k := 4) rfl (by rw [ezx23, zc_i1]) (Nat.le_of_ble_eq_true rfl) rfl (fun ls hl => ?_)
        refine lv_goto (tgt := 207) hx hb dX11_parts_230 rfl ?_
        exact zJ zx23 zm22 H locs ls hW (lv_sub hl [1, 2, 3, 4, 0] rfl) h
  have zL_55 : ∀ (K239 : zMem → Prop) (zK239 : ∀ (M : zMem) (H : Heap) (locs : List Loc) (ls : Array Slot), zWo w s.heap M H locs → lv_has ls 6 [(0, .ref (zad w 0)), (1, .int a1)] → K239 M → W p l e (zRm 9 210) s m ([.ref (zad w 0), .int a1] : List Value).toArray below meth c H locs 0 0 (MQ below (va_Qi post (zB w) (zA w)) ([.ref (zad w 0), .int a1] : List Value).toArray s 0 0 (zA w)) (F0 m 239 ls [])), ∀ (n : Nat) (x_2 : Int32) (x_3 : Int32) (M : zMem) (H : Heap) (locs : List Loc) (ls : Array Slot), zWo w s.heap M H locs → lv_has ls 6 [(0, .ref (zad w 0)), (1, .int a1), (2, .int x_2), (3, .int x_3)] → zlp2 (wpB_Model_parts_55 a1  K239 post) n x_2 x_3 M → W p l e (zRm 9 210) s m ([.ref (zad w 0), .int a1] : List Value).toArray below meth c H locs 0 0 (MQ below (va_Qi post (zB w) (zA w)) ([.ref (zad w 0), .int a1] : List Value).toArray s 0 0 (zA w)) (F0 m 55 ls []) := by
    intro K239 zK239 n
    induction n with
    | zero => intro x_2 x_3 M H locs ls hW hl h; exact h.elim
    | succ n zJ =>
      intro x_2 x_3 M H locs ls hW hl h
      have h : wpB_Model_parts_55 a1  K239 post (zlp2 (wpB_Model_parts_55 a1  K239 post) n) x_2 x_3 M := h
      unfold wpB_Model_parts_55 at h
      refine lv_iload_n hx hb dX11_parts_55 rfl (lv_at hl 3 rfl) ?_
      refine lv_iconst hx hb dX11_parts_56 zc_i1 ?_
      refine lv_aload_n hx hb dX11_parts_57 rfl (lv_at hl 0 rfl) ?_
      refine zg_Model_holds X hW h0 zu_1031 dX11_parts_58 ?_
      refine lv_iconst hx hb dX11_parts_61 zc_i0 ?_
      obtain ⟨g, h⟩ := h
      refine ziald X hW h0.2.2.2.2.1 g dX11_parts_62 ?_
      refine lv_ishl hx hb dX11_parts_63 ?_
      refine lv_icmp_ge (tgt := 239) hx hb dX11_parts_64 rfl (fun c => ?_) (fun c => ?_)
      · replace h := h.1 c
        exact zK239 M H locs ls hW (lv_sub hl [0, 1] rfl) h
      · replace h := h.2 c
        refine lv_iconst hx hb dX11_parts_67 zc_i0 ?_
        refine lv_istore (lv' := [(4, .int 0), (0, .ref (zad w 0)), (1, .int a1), (2, .int x_2), (3, .int x_3)]) hx hb dX11_parts_68 hl (Nat.le_of_ble_eq_true rfl) rfl (fun ls hl => ?_)
        refine lv_aload_n hx hb dX11_parts_70 rfl (lv_at hl 1 rfl) ?_
        refine zcallv (zrunV (As := []) (rest := []) X hml hl hW h0.1 rfl zk_Model_243 (c_Model_asNumbered h0 h) rfl ⟨Nat.le_of_ble_eq_true rfl, Nat.le_of_ble_eq_true rfl⟩ ⟨Nat.le_refl 0, Nat.le_refl 0⟩ rfl (Nat.le_of_ble_eq_true rfl) dX11_parts_71) hW (fun zm3 H locs h hW => ?_)
        refine lv_aload_n hx hb dX11_parts_74 rfl (lv_at hl 1 rfl) ?_
        refine lv_iconst hx hb dX11_parts_75 zc_i2 ?_
        refine zp_Model_ruleNow X hW h0 zu_1039 dX11_parts_76 (fun H locs zm5 ezm5 hW => ?_)
        replace h := h zm5 ezm5
        refine lv_iconst hx hb dX11_parts_79 zc_i1 ?_
        refine lv_istore (lv' := [(5, .int 1), (4, .int 0), (0, .ref (zad w 0)), (1, .int a1), (2, .int x_2), (3, .int x_3)]) hx hb dX11_parts_80 hl (Nat.le_of_ble_eq_true rfl) rfl (fun ls hl => ?_)
        obtain ⟨n, h⟩ := h
        refine zL_82 x_2 x_3 _ (fun zx14 zm13 H locs ls hW hl h => ?_) n 0 1 zm5 H locs ls hW (lv_sub hl [2, 3, 4, 5, 1, 0] rfl) h
        · skip
          refine lv_iload hx hb dX11_parts_134 (lv_at hl 4 rfl) ?_
          refine lv_aload_n hx hb dX11_parts_136 rfl (lv_at hl 0 rfl) ?_
          refine zg_Model_many X hW h0 zu_1038 dX11_parts_137 ?_
          refine lv_iconst hx hb dX11_parts_140 zc_i1 ?_
          refine lv_isub hx hb dX11_parts_141 ?_
          refine lv_icmp_ne (tgt := 233) hx hb dX11_parts_142 rfl (fun c => ?_) (fun c => ?_)
          · replace h := h.1 c
            obtain ⟨zx15, ezx15⟩ : ∃ y : Int32, y = x_3 + 1 := ⟨_, rfl⟩
            replace h := h zx15 ezx15
            refine lv_iinc (v := zx15) (lv' := [(3, .int zx15), (0, .ref (zad w 0)), (1, .int a1), (2, .int x_2), (4, .int zx14)]) hx hb dX11_parts_233 hl (k := 3) rfl (by rw [ezx15, zc_i1]) (Nat.le_of_ble_eq_true rfl) rfl (fun ls hl => ?_)
            refine lv_goto (tgt := 55) hx hb dX11_parts_236 rfl ?_
            exact zJ x_2 zx15 zm13 H locs ls hW (lv_sub hl [1, 2, 3, 0] rfl) h
          · replace h := h.2 c
            refine lv_iload_n hx hb dX11_parts_145 rfl (lv_at hl 3 rfl) ?_
            refine lv_iconst hx hb dX11_parts_146 zc_i1 ?_
            refine lv_iand hx hb dX11_parts_147 ?_
            refine lv_if_ne (tgt := 233) hx hb dX11_parts_148 rfl (fun c => ?_) (fun c => ?_)
            · replace h := h.1 c
              obtain ⟨zx16, ezx16⟩ : ∃ y : Int32, y = x_3 + 1 := ⟨_, rfl⟩
              replace h := h zx16 ezx16
              refine lv_iinc (v := zx16) (lv' := [(3, .int zx16), (0, .ref (zad w 0)), (1, .int a1), (2, .int x_2), (4, .int zx14)]) hx hb dX11_parts_233 hl (k := 3) rfl (by rw [ezx16, zc_i1]) (Nat.le_of_ble_eq_true rfl) rfl (fun ls hl => ?_)
              refine lv_goto (tgt := 55) hx hb dX11_parts_236 rfl ?_
              exact zJ x_2 zx16 zm13 H locs ls hW (lv_sub hl [1, 2, 3, 0] rfl) h
            · replace h := h.2 c
              refine lv_aload_n hx hb dX11_parts_151 rfl (lv_at hl 0 rfl) ?_
              refine zg_Model_ends X hW h0 zu_1041 dX11_parts_152 ?_
              refine lv_aload_n hx hb dX11_parts_155 rfl (lv_at hl 0 rfl) ?_
              refine zg_Model_many X hW h0 zu_1038 dX11_parts_156 ?_
              refine lv_iconst hx hb dX11_parts_159 zc_i1 ?_
              refine lv_isub hx hb dX11_parts_160 ?_
              refine lv_aload_n hx hb dX11_parts_161 rfl (lv_at hl 0 rfl) ?_
              refine zg_Model_holds X hW h0 zu_1031 dX11_parts_162 ?_
              refine lv_iconst hx hb dX11_parts_165 zc_i0 ?_
              obtain ⟨g, h⟩ := h
              refine ziald X hW h0.2.2.2.2.1 g dX11_parts_166 ?_
              obtain ⟨g, h⟩ := h
              refine ziast X hW h0.2.2.2.2.2.2.2.2.1 g dX11_parts_167 (fun H locs zm17 ezm17 hW => ?_)
              replace h := h zm17 ezm17
              refine lv_aload_n hx hb dX11_parts_168 rfl (lv_at hl 0 rfl) ?_
              refine zcalli (zrunV (As := []) (rest := []) X hml hl hW h0.1 rfl zk_Model_295 (c_Model_hasRing h0 h) rfl ⟨Nat.le_of_ble_eq_true rfl, Nat.le_of_ble_eq_true rfl⟩ ⟨Nat.le_refl 0, Nat.le_refl 0⟩ rfl (Nat.le_of_ble_eq_true rfl) dX11_parts_169) hW (fun zr19 zm18 H locs h hW => ?_)
              refine lv_pop hx hb dX11_parts_172 rfl ?_
              refine lv_iload_n hx hb dX11_parts_173 rfl (lv_at hl 2 rfl) ?_
              refine lv_if_eq (tgt := 198) hx hb dX11_parts_174 rfl (fun c => ?_) (fun c => ?_)
              · replace h := h.1 c
                refine lv_iconst hx hb dX11_parts_198 zc_i1 ?_
                refine lv_istore_n (lv' := [(2, .int 1), (0, .ref (zad w 0)), (1, .int a1), (3, .int x_3), (4, .int zx14)]) hx hb dX11_parts_199 rfl hl (Nat.le_of_ble_eq_true rfl) rfl (fun ls hl => ?_)
                refine lv_aload_n hx hb dX11_parts_200 rfl (lv_at hl 1 rfl) ?_
                refine zcallv (zrunV (As := []) (rest := []) X hml hl hW h0.1 rfl zk_Model_328 (c_Model_keepBest h0 h) rfl ⟨Nat.le_of_ble_eq_true rfl, Nat.le_of_ble_eq_true rfl⟩ ⟨Nat.le_refl 0, Nat.le_refl 0⟩ rfl (Nat.le_of_ble_eq_true rfl) dX11_parts_201) hW (fun zm20 H locs h hW => ?_)
                refine lv_iconst hx hb dX11_parts_204 zc_i0 ?_
                refine lv_istore (lv' := [(5, .int 0), (2, .int 1), (0, .ref (zad w 0)), (1, .int a1), (3, .int x_3), (4, .int zx14)]) hx hb dX11_parts_205 hl (Nat.le_of_ble_eq_true rfl) rfl (fun ls hl => ?_)
                obtain ⟨n, h⟩ := h
                refine zL_207 1 x_3 _ (fun  zm24 H locs ls hW hl h => ?_) n 0 zm20 H locs ls hW (lv_sub hl [2, 3, 1, 4, 0] rfl) h
                · skip
                  obtain ⟨zx25, ezx25⟩ : ∃ y : Int32, y = x_3 + 1 := ⟨_, rfl⟩
                  replace h := h zx25 ezx25
                  refine lv_iinc (v := zx25) (lv' := [(3, .int zx25), (0, .ref (zad w 0)), (1, .int a1), (2, .int 1)]) hx hb dX11_parts_233 hl (k := 3) rfl (by rw [ezx25, zc_i1]) (Nat.le_of_ble_eq_true rfl) rfl (fun ls hl => ?_)
                  refine lv_goto (tgt := 55) hx hb dX11_parts_236 rfl ?_
                  exact zJ 1 zx25 zm24 H locs ls hW (lv_sub hl [1, 2, 3, 0] rfl) h
              · replace h := h.2 c
                refine lv_aload_n hx hb dX11_parts_177 rfl (lv_at hl 0 rfl) ?_
                refine zcalli (zrunV (As := []) (rest := []) X hml hl hW h0.1 rfl zk_Model_325 (c_Model_isMore h0 h) rfl ⟨Nat.le_of_ble_eq_true rfl, Nat.le_of_ble_eq_true rfl⟩ ⟨Nat.le_refl 0, Nat.le_refl 0⟩ rfl (Nat.le_of_ble_eq_true rfl) dX11_parts_178) hW (fun zr27 zm26 H locs h hW => ?_)
                refine lv_if_ne (tgt := 198) hx hb dX11_parts_181 rfl (fun c => ?_) (fun c => ?_)
                · replace h := h.1 c
                  refine lv_iconst hx hb dX11_parts_198 zc_i1 ?_
                  refine lv_istore_n (lv' := [(2, .int 1), (0, .ref (zad w 0)), (1, .int a1), (3, .int x_3), (4, .int zx14)]) hx hb dX11_parts_199 rfl hl (Nat.le_of_ble_eq_true rfl) rfl (fun ls hl => ?_)
                  refine lv_aload_n hx hb dX11_parts_200 rfl (lv_at hl 1 rfl) ?_
                  refine zcallv (zrunV (As := []) (rest := []) X hml hl hW h0.1 rfl zk_Model_328 (c_Model_keepBest h0 h) rfl ⟨Nat.le_of_ble_eq_true rfl, Nat.le_of_ble_eq_true rfl⟩ ⟨Nat.le_refl 0, Nat.le_refl 0⟩ rfl (Nat.le_of_ble_eq_true rfl) dX11_parts_201) hW (fun zm28 H locs h hW => ?_)
                  refine lv_iconst hx hb dX11_parts_204 zc_i0 ?_
                  refine lv_istore (lv' := [(5, .int 0), (2, .int 1), (0, .ref (zad w 0)), (1, .int a1), (3, .int x_3), (4, .int zx14)]) hx hb dX11_parts_205 hl (Nat.le_of_ble_eq_true rfl) rfl (fun ls hl => ?_)
                  obtain ⟨n, h⟩ := h
                  refine zL_207 1 x_3 _ (fun  zm30 H locs ls hW hl h => ?_) n 0 zm28 H locs ls hW (lv_sub hl [2, 3, 1, 4, 0] rfl) h
                  · skip
                    obtain ⟨zx31, ezx31⟩ : ∃ y : Int32, y = x_3 + 1 := ⟨_, rfl⟩
                    replace h := h zx31 ezx31
                    refine lv_iinc (v := zx31) (lv' := [(3, .int zx31), (0, .ref (zad w 0)), (1, .int a1), (2, .int 1)]) hx hb dX11_parts_233 hl (k := 3) rfl (by rw [ezx31, zc_i1]) (Nat.le_of_ble_eq_true rfl) rfl (fun ls hl => ?_)
                    refine lv_goto (tgt := 55) hx hb dX11_parts_236 rfl ?_
                    exact zJ 1 zx31 zm30 H locs ls hW (lv_sub hl [1, 2, 3, 0] rfl) h
                · replace h := h.2 c
                  refine lv_aload_n hx hb dX11_parts_184 rfl (lv_at hl 0 rfl) ?_
                  refine zcalli (zrunV (As := []) (rest := []) X hml hl hW h0.1 rfl zk_Model_331 (c_Model_isLike h0 h) rfl ⟨Nat.le_of_ble_eq_true rfl, Nat.le_of_ble_eq_true rfl⟩ ⟨Nat.le_refl 0, Nat.le_refl 0⟩ rfl (Nat.le_of_ble_eq_true rfl) dX11_parts_185) hW (fun zr33 zm32 H locs h hW => ?_)
                  refine lv_if_eq (tgt := 233) hx hb dX11_parts_188 rfl (fun c => ?_) (fun c => ?_)
                  · replace h := h.1 c
                    obtain ⟨zx34, ezx34⟩ : ∃ y : Int32, y = x_3 + 1 := ⟨_, rfl⟩
                    replace h := h zx34 ezx34
                    refine lv_iinc (v := zx34) (lv' := [(3, .int zx34), (0, .ref (zad w 0)), (1, .int a1), (2, .int x_2), (4, .int zx14)]) hx hb dX11_parts_233 hl (k := 3) rfl (by rw [ezx34, zc_i1]) (Nat.le_of_ble_eq_true rfl) rfl (fun ls hl => ?_)
                    refine lv_goto (tgt := 55) hx hb dX11_parts_236 rfl ?_
                    exact zJ x_2 zx34 zm32 H locs ls hW (lv_sub hl [1, 2, 3, 0] rfl) h
                  · replace h := h.2 c
                    refine lv_aload_n hx hb dX11_parts_191 rfl (lv_at hl 0 rfl) ?_
                    refine zcalli (zrunV (As := []) (rest := []) X hml hl hW h0.1 rfl zk_Model_334 (c_Model_areLess h0 h) rfl ⟨Nat.le_of_ble_eq_true rfl, Nat.le_of_ble_eq_true rfl⟩ ⟨Nat.le_refl 0, Nat.le_refl 0⟩ rfl (Nat.le_of_ble_eq_true rfl) dX11_parts_192) hW (fun zr36 zm35 H locs h hW => ?_)
                    refine lv_if_eq (tgt := 233) hx hb dX11_parts_195 rfl (fun c => ?_) (fun c => ?_)
                    · replace h := h.1 c
                      obtain ⟨zx37, ezx37⟩ : ∃ y : Int32, y = x_3 + 1 := ⟨_, rfl⟩
                      replace h := h zx37 ezx37
                      refine lv_iinc (v := zx37) (lv' := [(3, .int zx37), (0, .ref (zad w 0)), (1, .int a1), (2, .int x_2), (4, .int zx14)]) hx hb dX11_parts_233 hl (k := 3) rfl (by rw [ezx37, zc_i1]) (Nat.le_of_ble_eq_true rfl) rfl (fun ls hl => ?_)
                      refine lv_goto (tgt := 55) hx hb dX11_parts_236 rfl ?_
                      exact zJ x_2 zx37 zm35 H locs ls hW (lv_sub hl [1, 2, 3, 0] rfl) h
                    · replace h := h.2 c
                      refine lv_iconst hx hb dX11_parts_198 zc_i1 ?_
                      refine lv_istore_n (lv' := [(2, .int 1), (0, .ref (zad w 0)), (1, .int a1), (3, .int x_3), (4, .int zx14)]) hx hb dX11_parts_199 rfl hl (Nat.le_of_ble_eq_true rfl) rfl (fun ls hl => ?_)
                      refine lv_aload_n hx hb dX11_parts_200 rfl (lv_at hl 1 rfl) ?_
                      refine zcallv (zrunV (As := []) (rest := []) X hml hl hW h0.1 rfl zk_Model_328 (c_Model_keepBest h0 h) rfl ⟨Nat.le_of_ble_eq_true rfl, Nat.le_of_ble_eq_true rfl⟩ ⟨Nat.le_refl 0, Nat.le_refl 0⟩ rfl (Nat.le_of_ble_eq_true rfl) dX11_parts_201) hW (fun zm38 H locs h hW => ?_)
                      refine lv_iconst hx hb dX11_parts_204 zc_i0 ?_
                      refine lv_istore (lv' := [(5, .int 0), (2, .int 1), (0, .ref (zad w 0)), (1, .int a1), (3, .int x_3), (4, .int zx14)]) hx hb dX11_parts_205 hl (Nat.le_of_ble_eq_true rfl) rfl (fun ls hl => ?_)
                      obtain ⟨n, h⟩ := h
                      refine zL_207 1 x_3 _ (fun  zm40 H locs ls hW hl h => ?_) n 0 zm38 H locs ls hW (lv_sub hl [2, 3, 1, 4, 0] rfl) h
                      · skip
                        obtain ⟨zx41, ezx41⟩ : ∃ y : Int32, y = x_3 + 1 := ⟨_, rfl⟩
                        replace h := h zx41 ezx41
                        refine lv_iinc (v := zx41) (lv' := [(3, .int zx41), (0, .ref (zad w 0)), (1, .int a1), (2, .int 1)]) hx hb dX11_parts_233 hl (k := 3) rfl (by rw [ezx41, zc_i1]) (Nat.le_of_ble_eq_true rfl) rfl (fun ls hl => ?_)
                        refine lv_goto (tgt := 55) hx hb dX11_parts_236 rfl ?_
                        exact zJ 1 zx41 zm40 H locs ls hW (lv_sub hl [1, 2, 3, 0] rfl) h
  have zJ_33 : ∀ (M : zMem) (H : Heap) (locs : List Loc) (ls : Array Slot), zWo w s.heap M H locs → lv_has ls 6 [(0, .ref (zad w 0)), (1, .int a1)] → wpJ_Model_parts_33 a1 post M → W p l e (zRm 9 210) s m ([.ref (zad w 0), .int a1] : List Value).toArray below meth c H locs 0 0 (MQ below (va_Qi post (zB w) (zA w)) ([.ref (zad w 0), .int a1] : List Value).toArray s 0 0 (zA w)) (F0 m 33 ls []) := by
    intro  M H locs ls hW hl h
    unfold wpJ_Model_parts_33 at h
    refine lv_aload_n hx hb dX11_parts_33 rfl (lv_at hl 0 rfl) ?_
    refine zg_Model_holds X hW h0 zu_1031 dX11_parts_34 ?_
    refine lv_iconst hx hb dX11_parts_37 zc_i0 ?_
    obtain ⟨g, h⟩ := h
    refine ziald X hW h0.2.2.2.2.1 g dX11_parts_38 ?_
    refine lv_aload_n hx hb dX11_parts_39 rfl (lv_at hl 0 rfl) ?_
    refine zg_Model_holds X hW h0 zu_1031 dX11_parts_40 ?_
    refine lv_iconst hx hb dX11_parts_43 zc_i1 ?_
    obtain ⟨g, h⟩ := h
    refine ziald X hW h0.2.2.2.2.1 g dX11_parts_44 ?_
    refine lv_icmp_ge (tgt := 51) hx hb dX11_parts_45 rfl (fun c => ?_) (fun c => ?_)
    · replace h := h.1 c
      refine lv_iconst hx hb dX11_parts_51 zc_i0 ?_
      refine lv_istore_n (lv' := [(2, .int 0), (0, .ref (zad w 0)), (1, .int a1)]) hx hb dX11_parts_52 rfl hl (Nat.le_of_ble_eq_true rfl) rfl (fun ls hl => ?_)
      refine lv_iconst hx hb dX11_parts_53 zc_i0 ?_
      refine lv_istore_n (lv' := [(3, .int 0), (2, .int 0), (0, .ref (zad w 0)), (1, .int a1)]) hx hb dX11_parts_54 rfl hl (Nat.le_of_ble_eq_true rfl) rfl (fun ls hl => ?_)
      obtain ⟨n, h⟩ := h
      refine zL_55  _ (fun  zm42 H locs ls hW hl h => ?_) n 0 0 M H locs ls hW (lv_sub hl [2, 3, 1, 0] rfl) h
      · skip
        refine lv_iload_n hx hb dX11_parts_239 rfl (lv_at hl 1 rfl) ?_
        refine lv_iconst hx hb dX11_parts_240 zc_i2 ?_
        refine lv_icmp_ge (tgt := 262) hx hb dX11_parts_241 rfl (fun c => ?_) (fun c => ?_)
        · replace h := h.1 c
          refine lv_aload_n hx hb dX11_parts_262 rfl (lv_at hl 0 rfl) ?_
          refine zg_Model_bestEnds X hW h0 zu_1055 dX11_parts_263 ?_
          refine lv_iload_n hx hb dX11_parts_266 rfl (lv_at hl 1 rfl) ?_
          refine lv_bipush hx hb dX11_parts_267 zc_b10 ?_
          refine lv_isub hx hb dX11_parts_269 ?_
          obtain ⟨g, h⟩ := h
          refine ziald X hW h0.2.2.2.2.2.2.2.2.2.2.2.2.2.2.1 g dX11_parts_270 ?_
          exact zreti X hr hlk hW h dX11_parts_271
        · replace h := h.2 c
          refine lv_aload_n hx hb dX11_parts_244 rfl (lv_at hl 0 rfl) ?_
          refine zg_Model_bestCoats X hW h0 zu_1053 dX11_parts_245 ?_
          refine lv_i2l hx hb dX11_parts_248 rfl ?_
          refine lv_aload_n hx hb dX11_parts_249 rfl (lv_at hl 0 rfl) ?_
          refine zg_Model_bestTicks X hW h0 zu_1054 dX11_parts_250 ?_
          refine lv_i2l hx hb dX11_parts_253 rfl ?_
          refine lv_iload_n hx hb dX11_parts_254 rfl (lv_at hl 1 rfl) ?_
          refine zcalll (zrunS (As := [.long ((zm42 0 33).toInt64), .long ((zm42 0 34).toInt64), .int a1]) (rest := []) X hml hl hW zk_Model_301 (c_Model_lowest  h) rfl ⟨Nat.le_of_ble_eq_true rfl, Nat.le_of_ble_eq_true rfl⟩ ⟨Nat.le_refl 0, Nat.le_refl 0⟩ rfl (Nat.le_of_ble_eq_true rfl) dX11_parts_255) hW (fun zr44 zm43 H locs h hW => ?_)
          refine lv_l2i hx hb dX11_parts_258 rfl ?_
          refine lv_goto (tgt := 271) hx hb dX11_parts_259 rfl ?_
          exact zreti X hr hlk hW h dX11_parts_271
    · replace h := h.2 c
      refine lv_bipush hx hb dX11_parts_48 zc_bm4 ?_
      exact zreti X hr hlk hW h dX11_parts_50
  unfold wp_Model_parts at h
  have zMain : ∀ (H : Heap) (locs : List Loc) (ls : Array Slot), zWo w s.heap M H locs → lv_has ls 6 [(0, .ref (zad w 0)), (1, .int a1)] → W p l e (zRm 9 210) s m ([.ref (zad w 0), .int a1] : List Value).toArray below meth c H locs 0 0 (MQ below (va_Qi post (zB w) (zA w)) ([.ref (zad w 0), .int a1] : List Value).toArray s 0 0 (zA w)) (F0 m 0 ls []) := by
    intro H locs ls hW hl
    refine lv_iload_n hx hb dX11_parts_0 rfl (lv_at hl 1 rfl) ?_
    refine lv_i2l hx hb dX11_parts_1 rfl ?_
    refine lv_lconst hx hb dX11_parts_2 zc_l0 ?_
    refine lv_lconst hx hb dX11_parts_3 zc_l1 ?_
    refine zcalli (zrunS (As := [.long a1.toInt64, .long 0, .long 1]) (rest := []) X hml hl hW zk_Model_69 (c_Model_in  h) rfl ⟨Nat.le_of_ble_eq_true rfl, Nat.le_of_ble_eq_true rfl⟩ ⟨Nat.le_refl 0, Nat.le_refl 0⟩ rfl (Nat.le_of_ble_eq_true rfl) dX11_parts_4) hW (fun zr2 zm1 H locs h hW => ?_)
    refine lv_if_ne (tgt := 33) hx hb dX11_parts_7 rfl (fun c => ?_) (fun c => ?_)
    · replace h := h.1 c
      exact zJ_33  zm1 H locs ls hW (lv_sub hl [0, 1] rfl) h
    · replace h := h.2 c
      refine lv_iload_n hx hb dX11_parts_10 rfl (lv_at hl 1 rfl) ?_
      refine lv_i2l hx hb dX11_parts_11 rfl ?_
      refine lv_ldc2 hx hb X.2.2.1 (X.2.2.2.1 _ zu_1311) dX11_parts_12 ?_
      refine lv_bipush hx hb dX11_parts_15 zc_b8 ?_
      refine lv_aload_n hx hb dX11_parts_17 rfl (lv_at hl 0 rfl) ?_
      refine zg_Model_holds X hW h0 zu_1031 dX11_parts_18 ?_
      refine lv_iconst hx hb dX11_parts_21 zc_i1 ?_
      obtain ⟨g, h⟩ := h
      refine ziald X hW h0.2.2.2.2.1 g dX11_parts_22 ?_
      refine lv_iadd hx hb dX11_parts_23 ?_
      refine lv_i2l hx hb dX11_parts_24 rfl ?_
      refine zcalli (zrunS (As := [.long a1.toInt64, .long 10, .long ((8 + (zm1 4 (ix 1))).toInt64)]) (rest := []) X hml hl hW zk_Model_69 (c_Model_in  h) rfl ⟨Nat.le_of_ble_eq_true rfl, Nat.le_of_ble_eq_true rfl⟩ ⟨Nat.le_refl 0, Nat.le_refl 0⟩ rfl (Nat.le_of_ble_eq_true rfl) dX11_parts_25) hW (fun zr46 zm45 H locs h hW => ?_)
      refine lv_if_ne (tgt := 33) hx hb dX11_parts_28 rfl (fun c => ?_) (fun c => ?_)
      · replace h := h.1 c
        exact zJ_33  zm45 H locs ls hW (lv_sub hl [0, 1] rfl) h
      · replace h := h.2 c
        refine lv_iconst hx hb dX11_parts_31 zc_im1 ?_
        exact zreti X hr hlk hW h dX11_parts_32
  exact zMain s.heap [] ls hW hl
