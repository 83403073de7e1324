def wpB_Reader_readSort_57 (k : Nat) (x_1 : Int32)  (Q : Int32 → zMem → Prop) (J : Int32 → zMem → Prop) (x_2 : Int32) (M : zMem) : Prop :=
  ((M (k + 1) 0) ≤ x_2 → wp_Reader_readSign k M (fun zr7 zm6 => zbo zr7 ∧ Q zr7 zm6)) ∧ (¬ (M (k + 1) 0) ≤ x_2 → wp_Reader_readNumber k 0 6 M (fun zr9 zm8 => (¬ zr9 = 0 → vp_in ((x_1 * 8) + x_2) 24 ∧ ∀ zm10 : zMem, zm10 = zup zm8 (k + 3) (ix ((x_1 * 8) + x_2)) (zm8 k 9) → ∀ zx11 : Int32, zx11 = x_2 + 1 → J zx11 zm10) ∧ (zr9 = 0 → Q 0 zm8)))
def wp_Reader_readSort (k : Nat) (M : zMem) (Q : Int32 → zMem → Prop) : Prop :=
  ∀ zm1 : zMem, zm1 = zup M k 12 1 → wp_Reader_readNumber k 1 2 zm1 (fun zr3 zm2 => (¬ zr3 = 0 → ∀ zx4 : Int32, zx4 = zm2 k 9 → (¬ (((zm2 k 11) >>> (zx4 &&& 31)) &&& 1) = 1 → ∀ zm5 : zMem, zm5 = zup zm2 k 11 ((zm2 k 11) ||| (1 <<< (zx4 &&& 31))) → ∃ n : Nat, zlp1 (wpB_Reader_readSort_57 k zx4  Q) n 0 zm5) ∧ ((((zm2 k 11) >>> (zx4 &&& 31)) &&& 1) = 1 → wp_Reader_refuse k 4 (zm2 k 8) zm2 (fun zr13 zm12 => zbo zr13 ∧ Q zr13 zm12))) ∧ (zr3 = 0 → Q 0 zm2))
set_option maxHeartbeats 4000000 in
set_option maxRecDepth 20000 in
theorem c_Reader_readSort {l : Launch} {w : zWd} {k : Nat} {M : zMem} {post : Int32 → zMem → Prop} (h0 : zI_Reader w k) (h : wp_Reader_readSort k M post) : zMi l ⟨"HandToHand$Reader", "readSort", "()Z"⟩ prog_7_method_9_code 3 (Option.some .boolean) 7 150 w [.ref (zad w k)] M post := by
  refine zMet (by decide) (Nat.le_of_ble_eq_true rfl) ?_
  intro p e s m below meth c X hr hlk hml hW ls hl
  have hx := X.1
  have hb := X.2.1
  have hl : lv_has ls 3 [(0, .ref (zad w k))] := hl
  have zL_57 : ∀ (x_1 : Int32), ∀ (n : Nat) (x_2 : Int32) (M : zMem) (H : Heap) (locs : List Loc) (ls : Array Slot), zWo w s.heap M H locs → lv_has ls 3 [(0, .ref (zad w k)), (1, .int x_1), (2, .int x_2)] → zlp1 (wpB_Reader_readSort_57 k x_1  post) n x_2 M → W p l e (zRm 7 150) s m ([.ref (zad w k)] : List Value).toArray below meth c H locs 0 0 (MQ below (va_Qi post (zB w) (zA w)) ([.ref (zad w k)] : List Value).toArray s 0 0 (zA w)) (F0 m 57 ls []) := by
    intro x_1 n
    induction n with
    | zero => intro x_2 M H locs ls hW hl h; exact h.elim
    | succ n zJ =>
      intro x_2 M H locs ls hW hl h
      have h : wpB_Reader_readSort_57 k x_1  post (zlp1 (wpB_Reader_readSort_57 k x_1  post) n) x_2 M := h
      unfold wpB_Reader_readSort_57 at h
      refine lv_iload_n hx hb dX5_readSort_57 rfl (lv_at hl 2 rfl) ?_
      refine lv_aload_n hx hb dX5_readSort_58 rfl (lv_at hl 0 rfl) ?_
      refine zg_Reader_draft X hW h0 zu_104 dX5_readSort_59 ?_
      refine zg_Told_pieces X hW h0.2.2 zu_34 dX5_readSort_62 ?_
      refine lv_icmp_ge (tgt := 104) hx hb dX5_readSort_65 rfl (fun c => ?_) (fun c => ?_)
      · replace h := h.1 c
        refine lv_aload_n hx hb dX5_readSort_104 rfl (lv_at hl 0 rfl) ?_
        refine zcalli (zrunV (As := []) (rest := []) X hml hl hW h0.1 rfl zk_Reader_125 (c_Reader_readSign h0 h) rfl ⟨Nat.le_of_ble_eq_true rfl, Nat.le_of_ble_eq_true rfl⟩ ⟨Nat.le_refl 0, Nat.le_refl 0⟩ rfl (Nat.le_of_ble_eq_true rfl) dX5_readSort_105) hW (fun zr7 zm6 H locs h hW => ?_)
        exact zretz X hr hlk hW (zbo_n h.1) h.2 dX5_readSort_108
      · replace h := h.2 c
        refine lv_aload_n hx hb dX5_readSort_68 rfl (lv_at hl 0 rfl) ?_
        refine lv_iconst hx hb dX5_readSort_69 zc_i0 ?_
        refine lv_bipush hx hb dX5_readSort_70 zc_b6 ?_
        refine zcalli (zrunV (As := [.int 0, .int 6]) (rest := []) X hml hl hW h0.1 rfl zk_Reader_131 (c_Reader_readNumber h0 h) rfl ⟨Nat.le_of_ble_eq_true rfl, Nat.le_of_ble_eq_true rfl⟩ ⟨Nat.le_refl 0, Nat.le_refl 0⟩ rfl (Nat.le_of_ble_eq_true rfl) dX5_readSort_72) hW (fun zr9 zm8 H locs h hW => ?_)
        refine lv_if_ne (tgt := 80) hx hb dX5_readSort_75 rfl (fun c => ?_) (fun c => ?_)
        · replace h := h.1 c
          refine lv_aload_n hx hb dX5_readSort_80 rfl (lv_at hl 0 rfl) ?_
          refine zg_Reader_draft X hW h0 zu_104 dX5_readSort_81 ?_
          refine zg_Told_units X hW h0.2.2 zu_64 dX5_readSort_84 ?_
          refine lv_iload_n hx hb dX5_readSort_87 rfl (lv_at hl 1 rfl) ?_
          refine lv_bipush hx hb dX5_readSort_88 zc_b8 ?_
          refine lv_imul hx hb dX5_readSort_90 ?_
          refine lv_iload_n hx hb dX5_readSort_91 rfl (lv_at hl 2 rfl) ?_
          refine lv_iadd hx hb dX5_readSort_92 ?_
          refine lv_aload_n hx hb dX5_readSort_93 rfl (lv_at hl 0 rfl) ?_
          refine zg_Reader_value X hW h0 zu_119 dX5_readSort_94 ?_
          obtain ⟨g, h⟩ := h
          refine ziast X hW h0.2.2.2.2.1 g dX5_readSort_97 (fun H locs zm10 ezm10 hW => ?_)
          replace h := h zm10 ezm10
          obtain ⟨zx11, ezx11⟩ : ∃ y : Int32, y = x_2 + 1 := ⟨_, rfl⟩
          replace h := h zx11 ezx11
          refine lv_iinc (v := zx11) (lv' := [(2, .int zx11), (0, .ref (zad w k)), (1, .int x_1)]) hx hb dX5_readSort_98 hl (k := 2) rfl (by rw [ezx11, zc_i1]) (Nat.le_of_ble_eq_true rfl) rfl (fun ls hl => ?_)
          refine lv_goto (tgt := 57) hx hb dX5_readSort_101 rfl ?_
          exact zJ zx11 zm10 H locs ls hW (lv_sub hl [1, 2, 0] rfl) h
        · replace h := h.2 c
          refine lv_iconst hx hb dX5_readSort_78 zc_i0 ?_
          exact zretz X hr hlk hW rfl h dX5_readSort_79
  unfold wp_Reader_readSort at h
  have zMain : ∀ (H : Heap) (locs : List Loc) (ls : Array Slot), zWo w s.heap M H locs → lv_has ls 3 [(0, .ref (zad w k))] → W p l e (zRm 7 150) s m ([.ref (zad w k)] : List Value).toArray below meth c H locs 0 0 (MQ below (va_Qi post (zB w) (zA w)) ([.ref (zad w k)] : List Value).toArray s 0 0 (zA w)) (F0 m 0 ls []) := by
    intro H locs ls hW hl
    refine lv_aload_n hx hb dX5_readSort_0 rfl (lv_at hl 0 rfl) ?_
    refine lv_iconst hx hb dX5_readSort_1 zc_i1 ?_
    refine zp_Reader_piecesClosed X hW h0 zbo_1 zu_122 dX5_readSort_2 (fun H locs zm1 ezm1 hW => ?_)
    replace h := h zm1 ezm1
    refine lv_aload_n hx hb dX5_readSort_5 rfl (lv_at hl 0 rfl) ?_
    refine lv_iconst hx hb dX5_readSort_6 zc_i1 ?_
    refine lv_iconst hx hb dX5_readSort_7 zc_i2 ?_
    refine zcalli (zrunV (As := [.int 1, .int 2]) (rest := []) X hml hl hW h0.1 rfl zk_Reader_131 (c_Reader_readNumber h0 h) rfl ⟨Nat.le_of_ble_eq_true rfl, Nat.le_of_ble_eq_true rfl⟩ ⟨Nat.le_refl 0, Nat.le_refl 0⟩ rfl (Nat.le_of_ble_eq_true rfl) dX5_readSort_8) hW (fun zr3 zm2 H locs h hW => ?_)
    refine lv_if_ne (tgt := 16) hx hb dX5_readSort_11 rfl (fun c => ?_) (fun c => ?_)
    · replace h := h.1 c
      refine lv_aload_n hx hb dX5_readSort_16 rfl (lv_at hl 0 rfl) ?_
      refine zg_Reader_value X hW h0 zu_119 dX5_readSort_17 ?_
      refine lv_topi (fun zx4 ezx4 => ?_)
      replace h := h zx4 ezx4
      refine lv_istore_n (lv' := [(1, .int zx4), (0, .ref (zad w k))]) hx hb dX5_readSort_20 rfl hl (Nat.le_of_ble_eq_true rfl) rfl (fun ls hl => ?_)
      refine lv_aload_n hx hb dX5_readSort_21 rfl (lv_at hl 1 rfl) ?_
      refine zg_Reader_sorts X hW h0 zu_121 dX5_readSort_22 ?_
      refine lv_iload_n hx hb dX5_readSort_25 rfl (lv_at hl 0 rfl) ?_
      refine lv_ishr hx hb dX5_readSort_26 ?_
      refine lv_iconst hx hb dX5_readSort_27 zc_i1 ?_
      refine lv_iand hx hb dX5_readSort_28 ?_
      refine lv_iconst hx hb dX5_readSort_29 zc_i1 ?_
      refine lv_icmp_ne (tgt := 43) hx hb dX5_readSort_30 rfl (fun c => ?_) (fun c => ?_)
      · replace h := h.1 c
        refine lv_aload_n hx hb dX5_readSort_43 rfl (lv_at hl 1 rfl) ?_
        refine lv_dup hx hb dX5_readSort_44 rfl ?_
        refine zg_Reader_sorts X hW h0 zu_121 dX5_readSort_45 ?_
        refine lv_iconst hx hb dX5_readSort_48 zc_i1 ?_
        refine lv_iload_n hx hb dX5_readSort_49 rfl (lv_at hl 0 rfl) ?_
        refine lv_ishl hx hb dX5_readSort_50 ?_
        refine lv_ior hx hb dX5_readSort_51 ?_
        refine zp_Reader_sorts X hW h0 zu_121 dX5_readSort_52 (fun H locs zm5 ezm5 hW => ?_)
        replace h := h zm5 ezm5
        refine lv_iconst hx hb dX5_readSort_55 zc_i0 ?_
        refine lv_istore_n (lv' := [(2, .int 0), (1, .int zx4), (0, .ref (zad w k))]) hx hb dX5_readSort_56 rfl hl (Nat.le_of_ble_eq_true rfl) rfl (fun ls hl => ?_)
        obtain ⟨n, h⟩ := h
        refine zL_57 zx4  n 0 zm5 H locs ls hW (lv_sub hl [2, 1, 0] rfl) h
      · replace h := h.2 c
        refine lv_aload_n hx hb dX5_readSort_33 rfl (lv_at hl 1 rfl) ?_
        refine lv_iconst hx hb dX5_readSort_34 zc_i4 ?_
        refine lv_aload_n hx hb dX5_readSort_35 rfl (lv_at hl 1 rfl) ?_
        refine zg_Reader_start X hW h0 zu_118 dX5_readSort_36 ?_
        refine zcalli (zrunV (As := [.int 4, .int (zm2 k 8)]) (rest := []) X hml hl hW h0.1 rfl zk_Reader_73 (c_Reader_refuse h0 h) rfl ⟨Nat.le_of_ble_eq_true rfl, Nat.le_of_ble_eq_true rfl⟩ ⟨Nat.le_refl 0, Nat.le_refl 0⟩ rfl (Nat.le_of_ble_eq_true rfl) dX5_readSort_39) hW (fun zr13 zm12 H locs h hW => ?_)
        exact zretz X hr hlk hW (zbo_n h.1) h.2 dX5_readSort_42
    · replace h := h.2 c
      refine lv_iconst hx hb dX5_readSort_14 zc_i0 ?_
      exact zretz X hr hlk hW rfl h dX5_readSort_15
  exact zMain s.heap [] ls hW hl
def wp_Reader_readOnce (k : Nat) (a1 : Int32) (M : zMem) (Q : Int32 → zMem → Prop) : Prop :=
  (¬ (((M k 10) >>> (a1 &&& 31)) &&& 1) = 1 → ∀ zm1 : zMem, zm1 = zup M k 10 ((M k 10) ||| (1 <<< (a1 &&& 31))) → Q 1 zm1) ∧ ((((M k 10) >>> (a1 &&& 31)) &&& 1) = 1 → wp_Reader_refuse k 4 (M k 8) M (fun zr3 zm2 => zbo zr3 ∧ Q zr3 zm2))
set_option maxHeartbeats 4000000 in
set_option maxRecDepth 20000 in
theorem c_Reader_readOnce {l : Launch} {w : zWd} {k : Nat} {a1 : Int32} {M : zMem} {post : Int32 → zMem → Prop} (h0 : zI_Reader w k) (h : wp_Reader_readOnce k a1 M post) : zMi l ⟨"HandToHand$Reader", "readOnce", "(I)Z"⟩ prog_7_method_6_code 2 (Option.some .boolean) 1 22 w [.ref (zad w k), .int a1] M post := by
  refine zMet (by decide) (Nat.le_of_ble_eq_true rfl) ?_
  intro p e s m below meth c X hr hlk hml hW ls hl
  have hx := X.1
  have hb := X.2.1
  have hl : lv_has ls 2 [(0, .ref (zad w k)), (1, .int a1)] := hl
  unfold wp_Reader_readOnce at h
  have zMain : ∀ (H : Heap) (locs : List Loc) (ls : Array Slot), zWo w s.heap M H locs → lv_has ls 2 [(0, .ref (zad w k)), (1, .int a1)] → W p l e (zRm 1 22) s m ([.ref (zad w k), .int a1] : List Value).toArray below meth c H locs 0 0 (MQ below (va_Qi post (zB w) (zA w)) ([.ref (zad w k), .int a1] : List Value).toArray s 0 0 (zA w)) (F0 m 0 ls []) := by
    intro H locs ls hW hl
    refine lv_aload_n hx hb dX5_readOnce_0 rfl (lv_at hl 0 rfl) ?_
    refine zg_Reader_names X hW h0 zu_120 dX5_readOnce_1 ?_
    refine lv_iload_n hx hb dX5_readOnce_4 rfl (lv_at hl 1 rfl) ?_
    refine lv_ishr hx hb dX5_readOnce_5 ?_
    refine lv_iconst hx hb dX5_readOnce_6 zc_i1 ?_
    refine lv_iand hx hb dX5_readOnce_7 ?_
    refine lv_iconst hx hb dX5_readOnce_8 zc_i1 ?_
    refine lv_icmp_ne (tgt := 22) hx hb dX5_readOnce_9 rfl (fun c => ?_) (fun c => ?_)
    · replace h := h.1 c
      refine lv_aload_n hx hb dX5_readOnce_22 rfl (lv_at hl 0 rfl) ?_
      refine lv_dup hx hb dX5_readOnce_23 rfl ?_
      refine zg_Reader_names X hW h0 zu_120 dX5_readOnce_24 ?_
      refine lv_iconst hx hb dX5_readOnce_27 zc_i1 ?_
      refine lv_iload_n hx hb dX5_readOnce_28 rfl (lv_at hl 1 rfl) ?_
      refine lv_ishl hx hb dX5_readOnce_29 ?_
      refine lv_ior hx hb dX5_readOnce_30 ?_
      refine zp_Reader_names X hW h0 zu_120 dX5_readOnce_31 (fun H locs zm1 ezm1 hW => ?_)
      replace h := h zm1 ezm1
      refine lv_iconst hx hb dX5_readOnce_34 zc_i1 ?_
      exact zretz X hr hlk hW rfl h dX5_readOnce_35
    · replace h := h.2 c
      refine lv_aload_n hx hb dX5_readOnce_12 rfl (lv_at hl 0 rfl) ?_
      refine lv_iconst hx hb dX5_readOnce_13 zc_i4 ?_
      refine lv_aload_n hx hb dX5_readOnce_14 rfl (lv_at hl 0 rfl) ?_
      refine zg_Reader_start X hW h0 zu_118 dX5_readOnce_15 ?_
      refine zcalli (zrunV (As := [.int 4, .int (M k 8)]) (rest := []) X hml hl hW h0.1 rfl zk_Reader_73 (c_Reader_refuse h0 h) rfl ⟨Nat.le_of_ble_eq_true rfl, Nat.le_of_ble_eq_true rfl⟩ ⟨Nat.le_refl 0, Nat.le_refl 0⟩ rfl (Nat.le_of_ble_eq_true rfl) dX5_readOnce_18) hW (fun zr3 zm2 H locs h hW => ?_)
      exact zretz X hr hlk hW (zbo_n h.1) h.2 dX5_readOnce_21
  exact zMain s.heap [] ls hW hl
def wpB_Reader_readRow_31 (k : Nat)  (K94 : Int32 → zMem → Prop) (Q : Int32 → zMem → Prop) (J : Int32 → Int32 → zMem → Prop) (x_1 : Int32) (x_2 : Int32) (M : zMem) : Prop :=
  (6 ≤ x_2 → K94 x_1 M) ∧ (¬ 6 ≤ x_2 → (x_1 = 0 → K94 x_1 M) ∧ (¬ x_1 = 0 → (¬ (M k 7) = 2 → K94 x_1 M) ∧ ((M k 7) = 2 → wp_Reader_isWithin k 0 2 M (fun zr7 zm6 => (¬ zr7 = 0 → vp_in x_2 6 ∧ ∀ zm8 : zMem, zm8 = zup zm6 (k + 2) (ix x_2) (zm6 k 9) → ∀ zm9 : zMem, zm9 = zup zm8 (k + 1) 6 (x_2 + 1) → wp_Reader_readToken k zm9 (fun zr11 zm10 => ∀ zx12 : Int32, zx12 = x_2 + 1 → J zr11 zx12 zm10)) ∧ (zr7 = 0 → Q 0 zm6)))))
def wpJ_Reader_readRow_94 (k : Nat)  (Q : Int32 → zMem → Prop) (x_1 : Int32)  (M : zMem) : Prop :=
  (x_1 = 0 → (x_1 = 0 → Q 0 M) ∧ (¬ x_1 = 0 → wp_Reader_isSign k M (fun zr16 zm15 => (zr16 = 0 → Q 0 zm15) ∧ (¬ zr16 = 0 → Q 1 zm15)))) ∧ (¬ x_1 = 0 → (¬ (M k 7) = 2 → (x_1 = 0 → Q 0 M) ∧ (¬ x_1 = 0 → wp_Reader_isSign k M (fun zr18 zm17 => (zr18 = 0 → Q 0 zm17) ∧ (¬ zr18 = 0 → Q 1 zm17)))) ∧ ((M k 7) = 2 → wp_Reader_refuse k 5 (M k 8) M (fun zr20 zm19 => zbo zr20 ∧ Q zr20 zm19)))
def wp_Reader_readRow (k : Nat) (M : zMem) (Q : Int32 → zMem → Prop) : Prop :=
  wp_Reader_readNumber k 0 2 M (fun zr2 zm1 => (¬ zr2 = 0 → vp_in 0 6 ∧ ∀ zm3 : zMem, zm3 = zup zm1 (k + 2) (ix 0) (zm1 k 9) → wp_Reader_readToken k zm3 (fun zr5 zm4 => ∃ n : Nat, zlp2 (wpB_Reader_readRow_31 k  (fun (zx14 : Int32) (zm13 : zMem) => wpJ_Reader_readRow_94 k Q zx14 zm13) Q) n zr5 1 zm4)) ∧ (zr2 = 0 → Q 0 zm1))
set_option maxHeartbeats 4000000 in
set_option maxRecDepth 20000 in
theorem c_Reader_readRow {l : Launch} {w : zWd} {k : Nat} {M : zMem} {post : Int32 → zMem → Prop} (h0 : zI_Reader w k) (h : wp_Reader_readRow k M post) : zMi l ⟨"HandToHand$Reader", "readRow", "()Z"⟩ prog_7_method_10_code 3 (Option.some .boolean) 7 150 w [.ref (zad w k)] M post := by
  refine zMet (by decide) (Nat.le_of_ble_eq_true rfl) ?_
  intro p e s m below meth c X hr hlk hml hW ls hl
  have hx := X.1
  have hb := X.2.1
  have hl : lv_has ls 3 [(0, .ref (zad w k))] := hl
  have zL_31 : ∀ (K94 : Int32 → zMem → Prop) (zK94 : ∀ (y_1 : Int32) (M : zMem) (H : Heap) (locs : List Loc) (ls : Array Slot), zWo w s.heap M H locs → lv_has ls 3 [(0, .ref (zad w k)), (1, .int y_1)] → K94 y_1 M → W p l e (zRm 7 150) s m ([.ref (zad w k)] : List Value).toArray below meth c H locs 0 0 (MQ below (va_Qi post (zB w) (zA w)) ([.ref (zad w k)] : List Value).toArray s 0 0 (zA w)) (F0 m 94 ls [])), ∀ (n : Nat) (x_1 : Int32) (x_2 : Int32) (M : zMem) (H : Heap) (locs : List Loc) (ls : Array Slot), zWo w s.heap M H locs → lv_has ls 3 [(0, .ref (zad w k)), (1, .int x_1), (2, .int x_2)] → zlp2 (wpB_Reader_readRow_31 k  K94 post) n x_1 x_2 M → W p l e (zRm 7 150) s m ([.ref (zad w k)] : List Value).toArray below meth c H locs 0 0 (MQ below (va_Qi post (zB w) (zA w)) ([.ref (zad w k)] : List Value).toArray s 0 0 (zA w)) (F0 m 31 ls []) := by
    intro K94 zK94 n
    induction n with
    | zero => intro x_1 x_2 M H locs ls hW hl h; exact h.elim
    | succ n zJ =>
      intro x_1 x_2 M H locs ls hW hl h
      have h : wpB_Reader_readRow_31 k  K94 post (zlp2 (wpB_Reader_readRow_31 k  K94 post) n) x_1 x_2 M := h
      unfold wpB_Reader_readRow_31 at h
      refine lv_iload_n hx hb dX5_readRow_31 rfl (lv_at hl 2 rfl) ?_
      refine lv_bipush hx hb dX5_readRow_32 zc_b6 ?_
      refine lv_icmp_ge (tgt := 94) hx hb dX5_readRow_34 rfl (fun c => ?_) (fun c => ?_)
      · replace h := h.1 c
        exact zK94 x_1 M H locs ls hW (lv_sub hl [0, 1] rfl) h
      · replace h := h.2 c
        refine lv_iload_n hx hb dX5_readRow_37 rfl (lv_at hl 1 rfl) ?_
        refine lv_if_eq (tgt := 94) hx hb dX5_readRow_38 rfl (fun c => ?_) (fun c => ?_)
        · replace h := h.1 c
          exact zK94 x_1 M H locs ls hW (lv_sub hl [0, 1] rfl) h
        · replace h := h.2 c
          refine lv_aload_n hx hb dX5_readRow_41 rfl (lv_at hl 0 rfl) ?_
          refine zg_Reader_kind X hW h0 zu_117 dX5_readRow_42 ?_
          refine lv_iconst hx hb dX5_readRow_45 zc_i2 ?_
          refine lv_icmp_ne (tgt := 94) hx hb dX5_readRow_46 rfl (fun c => ?_) (fun c => ?_)
          · replace h := h.1 c
            exact zK94 x_1 M H locs ls hW (lv_sub hl [0, 1] rfl) h
          · replace h := h.2 c
            refine lv_aload_n hx hb dX5_readRow_49 rfl (lv_at hl 0 rfl) ?_
            refine lv_iconst hx hb dX5_readRow_50 zc_i0 ?_
            refine lv_iconst hx hb dX5_readRow_51 zc_i2 ?_
            refine zcalli (zrunV (As := [.int 0, .int 2]) (rest := []) X hml hl hW h0.1 rfl zk_Reader_140 (c_Reader_isWithin h0 h) rfl ⟨Nat.le_of_ble_eq_true rfl, Nat.le_of_ble_eq_true rfl⟩ ⟨Nat.le_refl 0, Nat.le_refl 0⟩ rfl (Nat.le_of_ble_eq_true rfl) dX5_readRow_52) hW (fun zr7 zm6 H locs h hW => ?_)
            refine lv_if_ne (tgt := 60) hx hb dX5_readRow_55 rfl (fun c => ?_) (fun c => ?_)
            · replace h := h.1 c
              refine lv_aload_n hx hb dX5_readRow_60 rfl (lv_at hl 0 rfl) ?_
              refine zg_Reader_draft X hW h0 zu_104 dX5_readRow_61 ?_
              refine zg_Told_row X hW h0.2.2 zu_62 dX5_readRow_64 ?_
              refine lv_iload_n hx hb dX5_readRow_67 rfl (lv_at hl 2 rfl) ?_
              refine lv_aload_n hx hb dX5_readRow_68 rfl (lv_at hl 0 rfl) ?_
              refine zg_Reader_value X hW h0 zu_119 dX5_readRow_69 ?_
              obtain ⟨g, h⟩ := h
              refine ziast X hW h0.2.2.2.1 g dX5_readRow_72 (fun H locs zm8 ezm8 hW => ?_)
              replace h := h zm8 ezm8
              refine lv_aload_n hx hb dX5_readRow_73 rfl (lv_at hl 0 rfl) ?_
              refine zg_Reader_draft X hW h0 zu_104 dX5_readRow_74 ?_
              refine lv_iload_n hx hb dX5_readRow_77 rfl (lv_at hl 2 rfl) ?_
              refine lv_iconst hx hb dX5_readRow_78 zc_i1 ?_
              refine lv_iadd hx hb dX5_readRow_79 ?_
              refine zp_Told_rowLength X hW h0.2.2 zu_58 dX5_readRow_80 (fun H locs zm9 ezm9 hW => ?_)
              replace h := h zm9 ezm9
              refine lv_aload_n hx hb dX5_readRow_83 rfl (lv_at hl 0 rfl) ?_
              refine zcalli (zrunV (As := []) (rest := []) X hml hl hW h0.1 rfl zk_Reader_51 (c_Reader_readToken h0 h) rfl ⟨Nat.le_of_ble_eq_true rfl, Nat.le_of_ble_eq_true rfl⟩ ⟨Nat.le_refl 0, Nat.le_refl 0⟩ rfl (Nat.le_of_ble_eq_true rfl) dX5_readRow_84) hW (fun zr11 zm10 H locs h hW => ?_)
              refine lv_istore_n (lv' := [(1, .int zr11), (0, .ref (zad w k)), (2, .int x_2)]) hx hb dX5_readRow_87 rfl hl (Nat.le_of_ble_eq_true rfl) rfl (fun ls hl => ?_)
              obtain ⟨zx12, ezx12⟩ : ∃ y : Int32, y = x_2 + 1 := ⟨_, rfl⟩
              replace h := h zx12 ezx12
              refine lv_iinc (v := zx12) (lv' := [(2, .int zx12), (1, .int zr11), (0, .ref (zad w k))]) hx hb dX5_readRow_88 hl (k := 2) rfl (by rw [ezx12, zc_i1]) (Nat.le_of_ble_eq_true rfl) rfl (fun ls hl => ?_)
              refine lv_goto (tgt := 31) hx hb dX5_readRow_91 rfl ?_
              exact zJ zr11 zx12 zm10 H locs ls hW (lv_sub hl [2, 1, 0] rfl) h
            · replace h := h.2 c
              refine lv_iconst hx hb dX5_readRow_58 zc_i0 ?_
              exact zretz X hr hlk hW rfl h dX5_readRow_59
  have zJ_94 : ∀ (x_1 : Int32) (M : zMem) (H : Heap) (locs : List Loc) (ls : Array Slot), zWo w s.heap M H locs → lv_has ls 3 [(0, .ref (zad w k)), (1, .int x_1)] → wpJ_Reader_readRow_94 k post x_1 M → W p l e (zRm 7 150) s m ([.ref (zad w k)] : List Value).toArray below meth c H locs 0 0 (MQ below (va_Qi post (zB w) (zA w)) ([.ref (zad w k)] : List Value).toArray s 0 0 (zA w)) (F0 m 94 ls []) := by
    intro x_1 M H locs ls hW hl h
    unfold wpJ_Reader_readRow_94 at h
    refine lv_iload_n hx hb dX5_readRow_94 rfl (lv_at hl 1 rfl) ?_
    refine lv_if_eq (tgt := 116) hx hb dX5_readRow_95 rfl (fun c => ?_) (fun c => ?_)
    · replace h := h.1 c
      refine lv_iload_n hx hb dX5_readRow_116 rfl (lv_at hl 1 rfl) ?_
      refine lv_if_eq (tgt := 131) hx hb dX5_readRow_117 rfl (fun c => ?_) (fun c => ?_)
      · replace h := h.1 c
        refine lv_iconst hx hb dX5_readRow_131 zc_i0 ?_
        exact zretz X hr hlk hW rfl h dX5_readRow_132
      · replace h := h.2 c
        refine lv_aload_n hx hb dX5_readRow_120 rfl (lv_at hl 0 rfl) ?_
        refine zcalli (zrunV (As := []) (rest := []) X hml hl hW h0.1 rfl zk_Reader_146 (c_Reader_isSign h0 h) rfl ⟨Nat.le_of_ble_eq_true rfl, Nat.le_of_ble_eq_true rfl⟩ ⟨Nat.le_refl 0, Nat.le_refl 0⟩ rfl (Nat.le_of_ble_eq_true rfl) dX5_readRow_121) hW (fun zr16 zm15 H locs h hW => ?_)
        refine lv_if_eq (tgt := 131) hx hb dX5_readRow_124 rfl (fun c => ?_) (fun c => ?_)
        · replace h := h.1 c
          refine lv_iconst hx hb dX5_readRow_131 zc_i0 ?_
          exact zretz X hr hlk hW rfl h dX5_readRow_132
        · replace h := h.2 c
          refine lv_iconst hx hb dX5_readRow_127 zc_i1 ?_
          refine lv_goto (tgt := 132) hx hb dX5_readRow_128 rfl ?_
          exact zretz X hr hlk hW rfl h dX5_readRow_132
    · replace h := h.2 c
      refine lv_aload_n hx hb dX5_readRow_98 rfl (lv_at hl 0 rfl) ?_
      refine zg_Reader_kind X hW h0 zu_117 dX5_readRow_99 ?_
      refine lv_iconst hx hb dX5_readRow_102 zc_i2 ?_
      refine lv_icmp_ne (tgt := 116) hx hb dX5_readRow_103 rfl (fun c => ?_) (fun c => ?_)
      · replace h := h.1 c
        refine lv_iload_n hx hb dX5_readRow_116 rfl (lv_at hl 1 rfl) ?_
        refine lv_if_eq (tgt := 131) hx hb dX5_readRow_117 rfl (fun c => ?_) (fun c => ?_)
        · replace h := h.1 c
          refine lv_iconst hx hb dX5_readRow_131 zc_i0 ?_
          exact zretz X hr hlk hW rfl h dX5_readRow_132
        · replace h := h.2 c
          refine lv_aload_n hx hb dX5_readRow_120 rfl (lv_at hl 0 rfl) ?_
          refine zcalli (zrunV (As := []) (rest := []) X hml hl hW h0.1 rfl zk_Reader_146 (c_Reader_isSign h0 h) rfl ⟨Nat.le_of_ble_eq_true rfl, Nat.le_of_ble_eq_true rfl⟩ ⟨Nat.le_refl 0, Nat.le_refl 0⟩ rfl (Nat.le_of_ble_eq_true rfl) dX5_readRow_121) hW (fun zr18 zm17 H locs h hW => ?_)
          refine lv_if_eq (tgt := 131) hx hb dX5_readRow_124 rfl (fun c => ?_) (fun c => ?_)
          · replace h := h.1 c
            refine lv_iconst hx hb dX5_readRow_131 zc_i0 ?_
            exact zretz X hr hlk hW rfl h dX5_readRow_132
          · replace h := h.2 c
            refine lv_iconst hx hb dX5_readRow_127 zc_i1 ?_
            refine lv_goto (tgt := 132) hx hb dX5_readRow_128 rfl ?_
            exact zretz X hr hlk hW rfl h dX5_readRow_132
      · replace h := h.2 c
        refine lv_aload_n hx hb dX5_readRow_106 rfl (lv_at hl 0 rfl) ?_
        refine lv_iconst hx hb dX5_readRow_107 zc_i5 ?_
        refine lv_aload_n hx hb dX5_readRow_108 rfl (lv_at hl 0 rfl) ?_
        refine zg_Reader_start X hW h0 zu_118 dX5_readRow_109 ?_
        refine zcalli (zrunV (As := [.int 5, .int (M k 8)]) (rest := []) X hml hl hW h0.1 rfl zk_Reader_73 (c_Reader_refuse h0 h) rfl ⟨Nat.le_of_ble_eq_true rfl, Nat.le_of_ble_eq_true rfl⟩ ⟨Nat.le_refl 0, Nat.le_refl 0⟩ rfl (Nat.le_of_ble_eq_true rfl) dX5_readRow_112) hW (fun zr20 zm19 H locs h hW => ?_)
        exact zretz X hr hlk hW (zbo_n h.1) h.2 dX5_readRow_115
  unfold wp_Reader_readRow at h
  have zMain : ∀ (H : Heap) (locs : List Loc) (ls : Array Slot), zWo w s.heap M H locs → lv_has ls 3 [(0, .ref (zad w k))] → W p l e (zRm 7 150) s m ([.ref (zad w k)] : List Value).toArray below meth c H locs 0 0 (MQ below (va_Qi post (zB w) (zA w)) ([.ref (zad w k)] : List Value).toArray s 0 0 (zA w)) (F0 m 0 ls []) := by
    intro H locs ls hW hl
    refine lv_aload_n hx hb dX5_readRow_0 rfl (lv_at hl 0 rfl) ?_
    refine lv_iconst hx hb dX5_readRow_1 zc_i0 ?_
    refine lv_iconst hx hb dX5_readRow_2 zc_i2 ?_
    refine zcalli (zrunV (As := [.int 0, .int 2]) (rest := []) X hml hl hW h0.1 rfl zk_Reader_131 (c_Reader_readNumber h0 h) rfl ⟨Nat.le_of_ble_eq_true rfl, Nat.le_of_ble_eq_true rfl⟩ ⟨Nat.le_refl 0, Nat.le_refl 0⟩ rfl (Nat.le_of_ble_eq_true rfl) dX5_readRow_3) hW (fun zr2 zm1 H locs h hW => ?_)
    refine lv_if_ne (tgt := 11) hx hb dX5_readRow_6 rfl (fun c => ?_) (fun c => ?_)
    · replace h := h.1 c
      refine lv_aload_n hx hb dX5_readRow_11 rfl (lv_at hl 0 rfl) ?_
      refine zg_Reader_draft X hW h0 zu_104 dX5_readRow_12 ?_
      refine zg_Told_row X hW h0.2.2 zu_62 dX5_readRow_15 ?_
      refine lv_iconst hx hb dX5_readRow_18 zc_i0 ?_
      refine lv_aload_n hx hb dX5_readRow_19 rfl (lv_at hl 0 rfl) ?_
      refine zg_Reader_value X hW h0 zu_119 dX5_readRow_20 ?_
      obtain ⟨g, h⟩ := h
      refine ziast X hW h0.2.2.2.1 g dX5_readRow_23 (fun H locs zm3 ezm3 hW => ?_)
      replace h := h zm3 ezm3
      refine lv_aload_n hx hb dX5_readRow_24 rfl (lv_at hl 0 rfl) ?_
      refine zcalli (zrunV (As := []) (rest := []) X hml hl hW h0.1 rfl zk_Reader_51 (c_Reader_readToken h0 h) rfl ⟨Nat.le_of_ble_eq_true rfl, Nat.le_of_ble_eq_true rfl⟩ ⟨Nat.le_refl 0, Nat.le_refl 0⟩ rfl (Nat.le_of_ble_eq_true rfl) dX5_readRow_25) hW (fun zr5 zm4 H locs h hW => ?_)
      refine lv_istore_n (lv' := [(1, .int zr5), (0, .ref (zad w k))]) hx hb dX5_readRow_28 rfl hl (Nat.le_of_ble_eq_true rfl) rfl (fun ls hl => ?_)
      refine lv_iconst hx hb dX5_readRow_29 zc_i1 ?_
      refine lv_istore_n (lv' := [(2, .int 1), (1, .int zr5), (0, .ref (zad w k))]) hx hb dX5_readRow_30 rfl hl (Nat.le_of_ble_eq_true rfl) rfl (fun ls hl => ?_)
      obtain ⟨n, h⟩ := h
      refine zL_31  _ (fun zx14 zm13 H locs ls hW hl h => ?_) n zr5 1 zm4 H locs ls hW (lv_sub hl [2, 1, 0] rfl) h
      · skip
        exact zJ_94 zx14 zm13 H locs ls hW (lv_sub hl [0, 1] rfl) h
    · replace h := h.2 c
      refine lv_iconst hx hb dX5_readRow_9 zc_i0 ?_
      exact zretz X hr hlk hW rfl h dX5_readRow_10
  exact zMain s.heap [] ls hW hl
def wpB_Reader_readHand_35 (k : Nat)   (Q : Int32 → zMem → Prop) (J : Int32 → zMem → Prop) (x_1 : Int32) (M : zMem) : Prop :=
  ((M (k + 1) 0) ≤ x_1 → ∀ zm4 : zMem, zm4 = zup M (k + 1) 1 ((M (k + 1) 1) + 1) → wp_Reader_readSign k zm4 (fun zr6 zm5 => zbo zr6 ∧ Q zr6 zm5)) ∧ (¬ (M (k + 1) 0) ≤ x_1 → wp_Reader_readNumber k 1 9 M (fun zr8 zm7 => (¬ zr8 = 0 → vp_in (((zm7 (k + 1) 1) * 8) + x_1) 40 ∧ ∀ zm9 : zMem, zm9 = zup zm7 (k + 4) (ix (((zm7 (k + 1) 1) * 8) + x_1)) (zm7 k 9) → ∀ zx10 : Int32, zx10 = x_1 + 1 → J zx10 zm9) ∧ (zr8 = 0 → Q 0 zm7)))
def wp_Reader_readHand (k : Nat) (M : zMem) (Q : Int32 → zMem → Prop) : Prop :=
  (¬ (M k 13) = 0 → wp_Reader_refuse k 5 (M k 8) M (fun zr2 zm1 => zbo zr2 ∧ Q zr2 zm1)) ∧ ((M k 13) = 0 → ((M (k + 1) 1) < 5 → ∀ zm3 : zMem, zm3 = zup M k 12 1 → ∃ n : Nat, zlp1 (wpB_Reader_readHand_35 k   Q) n 0 zm3) ∧ (¬ (M (k + 1) 1) < 5 → wp_Reader_refuse k 5 (M k 8) M (fun zr12 zm11 => zbo zr12 ∧ Q zr12 zm11)))
set_option maxHeartbeats 4000000 in
set_option maxRecDepth 20000 in
theorem c_Reader_readHand {l : Launch} {w : zWd} {k : Nat} {M : zMem} {post : Int32 → zMem → Prop} (h0 : zI_Reader w k) (h : wp_Reader_readHand k M post) : zMi l ⟨"HandToHand$Reader", "readHand", "()Z"⟩ prog_7_method_11_code 2 (Option.some .boolean) 7 150 w [.ref (zad w k)] M post := by
  refine zMet (by decide) (Nat.le_of_ble_eq_true rfl) ?_
  intro p e s m below meth c X hr hlk hml hW ls hl
  have hx := X.1
  have hb := X.2.1
  have hl : lv_has ls 2 [(0, .ref (zad w k))] := hl
  have zL_35 :  ∀ (n : Nat) (x_1 : Int32) (M : zMem) (H : Heap) (locs : List Loc) (ls : Array Slot), zWo w s.heap M H locs → lv_has ls 2 [(0, .ref (zad w k)), (1, .int x_1)] → zlp1 (wpB_Reader_readHand_35 k   post) n x_1 M → W p l e (zRm 7 150) s m ([.ref (zad w k)] : List Value).toArray below meth c H locs 0 0 (MQ below (va_Qi post (zB w) (zA w)) ([.ref (zad w k)] : List Value).toArray s 0 0 (zA w)) (F0 m 35 ls []) := by
    intro n
    induction n with
    | zero => intro x_1 M H locs ls hW hl h; exact h.elim
    | succ n zJ =>
      intro x_1 M H locs ls hW hl h
      have h : wpB_Reader_readHand_35 k   post (zlp1 (wpB_Reader_readHand_35 k   post) n) x_1 M := h
      unfold wpB_Reader_readHand_35 at h
      refine lv_iload_n hx hb dX5_readHand_35 rfl (lv_at hl 1 rfl) ?_
      refine lv_aload_n hx hb dX5_readHand_36 rfl (lv_at hl 0 rfl) ?_
      refine zg_Reader_draft X hW h0 zu_104 dX5_readHand_37 ?_
      refine zg_Told_pieces X hW h0.2.2 zu_34 dX5_readHand_40 ?_
      refine lv_icmp_ge (tgt := 88) hx hb dX5_readHand_43 rfl (fun c => ?_) (fun c => ?_)
      · replace h := h.1 c
        refine lv_aload_n hx hb dX5_readHand_88 rfl (lv_at hl 0 rfl) ?_
        refine zg_Reader_draft X hW h0 zu_104 dX5_readHand_89 ?_
        refine lv_dup hx hb dX5_readHand_92 rfl ?_
        refine zg_Told_hands X hW h0.2.2 zu_39 dX5_readHand_93 ?_
        refine lv_iconst hx hb dX5_readHand_96 zc_i1 ?_
        refine lv_iadd hx hb dX5_readHand_97 ?_
        refine zp_Told_hands X hW h0.2.2 zu_39 dX5_readHand_98 (fun H locs zm4 ezm4 hW => ?_)
        replace h := h zm4 ezm4
        refine lv_aload_n hx hb dX5_readHand_101 rfl (lv_at hl 0 rfl) ?_
        refine zcalli (zrunV (As := []) (rest := []) X hml hl hW h0.1 rfl zk_Reader_125 (c_Reader_readSign h0 h) rfl ⟨Nat.le_of_ble_eq_true rfl, Nat.le_of_ble_eq_true rfl⟩ ⟨Nat.le_refl 0, Nat.le_refl 0⟩ rfl (Nat.le_of_ble_eq_true rfl) dX5_readHand_102) hW (fun zr6 zm5 H locs h hW => ?_)
        exact zretz X hr hlk hW (zbo_n h.1) h.2 dX5_readHand_105
      · replace h := h.2 c
        refine lv_aload_n hx hb dX5_readHand_46 rfl (lv_at hl 0 rfl) ?_
        refine lv_iconst hx hb dX5_readHand_47 zc_i1 ?_
        refine lv_bipush hx hb dX5_readHand_48 zc_b9 ?_
        refine zcalli (zrunV (As := [.int 1, .int 9]) (rest := []) X hml hl hW h0.1 rfl zk_Reader_131 (c_Reader_readNumber h0 h) rfl ⟨Nat.le_of_ble_eq_true rfl, Nat.le_of_ble_eq_true rfl⟩ ⟨Nat.le_refl 0, Nat.le_refl 0⟩ rfl (Nat.le_of_ble_eq_true rfl) dX5_readHand_50) hW (fun zr8 zm7 H locs h hW => ?_)
        refine lv_if_ne (tgt := 58) hx hb dX5_readHand_53 rfl (fun c => ?_) (fun c => ?_)
        · replace h := h.1 c
          refine lv_aload_n hx hb dX5_readHand_58 rfl (lv_at hl 0 rfl) ?_
          refine zg_Reader_draft X hW h0 zu_104 dX5_readHand_59 ?_
          refine zg_Told_paces X hW h0.2.2 zu_67 dX5_readHand_62 ?_
          refine lv_aload_n hx hb dX5_readHand_65 rfl (lv_at hl 0 rfl) ?_
          refine zg_Reader_draft X hW h0 zu_104 dX5_readHand_66 ?_
          refine zg_Told_hands X hW h0.2.2 zu_39 dX5_readHand_69 ?_
          refine lv_bipush hx hb dX5_readHand_72 zc_b8 ?_
          refine lv_imul hx hb dX5_readHand_74 ?_
          refine lv_iload_n hx hb dX5_readHand_75 rfl (lv_at hl 1 rfl) ?_
          refine lv_iadd hx hb dX5_readHand_76 ?_
          refine lv_aload_n hx hb dX5_readHand_77 rfl (lv_at hl 0 rfl) ?_
          refine zg_Reader_value X hW h0 zu_119 dX5_readHand_78 ?_
          obtain ⟨g, h⟩ := h
          refine ziast X hW h0.2.2.2.2.2.1 g dX5_readHand_81 (fun H locs zm9 ezm9 hW => ?_)
          replace h := h zm9 ezm9
          obtain ⟨zx10, ezx10⟩ : ∃ y : Int32, y = x_1 + 1 := ⟨_, rfl⟩
          replace h := h zx10 ezx10
          refine lv_iinc (v := zx10) (lv' := [(1, .int zx10), (0, .ref (zad w k))]) hx hb dX5_readHand_82 hl (k := 1) rfl (by rw [ezx10, zc_i1]) (Nat.le_of_ble_eq_true rfl) rfl (fun ls hl => ?_)
          refine lv_goto (tgt := 35) hx hb dX5_readHand_85 rfl ?_
          exact zJ zx10 zm9 H locs ls hW (lv_sub hl [1, 0] rfl) h
        · replace h := h.2 c
          refine lv_iconst hx hb dX5_readHand_56 zc_i0 ?_
          exact zretz X hr hlk hW rfl h dX5_readHand_57
  unfold wp_Reader_readHand at h
  have zMain : ∀ (H : Heap) (locs : List Loc) (ls : Array Slot), zWo w s.heap M H locs → lv_has ls 2 [(0, .ref (zad w k))] → W p l e (zRm 7 150) s m ([.ref (zad w k)] : List Value).toArray below meth c H locs 0 0 (MQ below (va_Qi post (zB w) (zA w)) ([.ref (zad w k)] : List Value).toArray s 0 0 (zA w)) (F0 m 0 ls []) := by
    intro H locs ls hW hl
    refine lv_aload_n hx hb dX5_readHand_0 rfl (lv_at hl 0 rfl) ?_
    refine zg_Reader_handsClosed X hW h0 zu_123 dX5_readHand_1 ?_
    refine lv_if_ne (tgt := 18) hx hb dX5_readHand_4 rfl (fun c => ?_) (fun c => ?_)
    · replace h := h.1 c
      refine lv_aload_n hx hb dX5_readHand_18 rfl (lv_at hl 0 rfl) ?_
      refine lv_iconst hx hb dX5_readHand_19 zc_i5 ?_
      refine lv_aload_n hx hb dX5_readHand_20 rfl (lv_at hl 0 rfl) ?_
      refine zg_Reader_start X hW h0 zu_118 dX5_readHand_21 ?_
      refine zcalli (zrunV (As := [.int 5, .int (M k 8)]) (rest := []) X hml hl hW h0.1 rfl zk_Reader_73 (c_Reader_refuse h0 h) rfl ⟨Nat.le_of_ble_eq_true rfl, Nat.le_of_ble_eq_true rfl⟩ ⟨Nat.le_refl 0, Nat.le_refl 0⟩ rfl (Nat.le_of_ble_eq_true rfl) dX5_readHand_24) hW (fun zr2 zm1 H locs h hW => ?_)
      exact zretz X hr hlk hW (zbo_n h.1) h.2 dX5_readHand_27
    · replace h := h.2 c
      refine lv_aload_n hx hb dX5_readHand_7 rfl (lv_at hl 0 rfl) ?_
      refine zg_Reader_draft X hW h0 zu_104 dX5_readHand_8 ?_
      refine zg_Told_hands X hW h0.2.2 zu_39 dX5_readHand_11 ?_
      refine lv_iconst hx hb dX5_readHand_14 zc_i5 ?_
      refine lv_icmp_lt (tgt := 28) hx hb dX5_readHand_15 rfl (fun c => ?_) (fun c => ?_)
      · replace h := h.1 c
        refine lv_aload_n hx hb dX5_readHand_28 rfl (lv_at hl 0 rfl) ?_
        refine lv_iconst hx hb dX5_readHand_29 zc_i1 ?_
        refine zp_Reader_piecesClosed X hW h0 zbo_1 zu_122 dX5_readHand_30 (fun H locs zm3 ezm3 hW => ?_)
        replace h := h zm3 ezm3
        refine lv_iconst hx hb dX5_readHand_33 zc_i0 ?_
        refine lv_istore_n (lv' := [(1, .int 0), (0, .ref (zad w k))]) hx hb dX5_readHand_34 rfl hl (Nat.le_of_ble_eq_true rfl) rfl (fun ls hl => ?_)
        obtain ⟨n, h⟩ := h
        refine zL_35   n 0 zm3 H locs ls hW (lv_sub hl [1, 0] rfl) h
      · replace h := h.2 c
        refine lv_aload_n hx hb dX5_readHand_18 rfl (lv_at hl 0 rfl) ?_
        refine lv_iconst hx hb dX5_readHand_19 zc_i5 ?_
        refine lv_aload_n hx hb dX5_readHand_20 rfl (lv_at hl 0 rfl) ?_
        refine zg_Reader_start X hW h0 zu_118 dX5_readHand_21 ?_
        refine zcalli (zrunV (As := [.int 5, .int (M k 8)]) (rest := []) X hml hl hW h0.1 rfl zk_Reader_73 (c_Reader_refuse h0 h) rfl ⟨Nat.le_of_ble_eq_true rfl, Nat.le_of_ble_eq_true rfl⟩ ⟨Nat.le_refl 0, Nat.le_refl 0⟩ rfl (Nat.le_of_ble_eq_true rfl) dX5_readHand_24) hW (fun zr12 zm11 H locs h hW => ?_)
        exact zretz X hr hlk hW (zbo_n h.1) h.2 dX5_readHand_27
  exact zMain s.heap [] ls hW hl
def wp_Reader_readWalk (k : Nat) (M : zMem) (Q : Int32 → zMem → Prop) : Prop :=
  wp_Reader_readNumber k 0 5 M (fun zr2 zm1 => (¬ zr2 = 0 → ∀ zm3 : zMem, zm3 = zup zm1 (k + 1) 2 (zm1 k 9) → wp_Reader_readSign k zm3 (fun zr5 zm4 => zbo zr5 ∧ Q zr5 zm4)) ∧ (zr2 = 0 → Q 0 zm1))
set_option maxHeartbeats 4000000 in
set_option maxRecDepth 20000 in
theorem c_Reader_readWalk {l : Launch} {w : zWd} {k : Nat} {M : zMem} {post : Int32 → zMem → Prop} (h0 : zI_Reader w k) (h : wp_Reader_readWalk k M post) : zMi l ⟨"HandToHand$Reader", "readWalk", "()Z"⟩ prog_7_method_12_code 1 (Option.some .boolean) 7 150 w [.ref (zad w k)] M post := by
  refine zMet (by decide) (Nat.le_of_ble_eq_true rfl) ?_
  intro p e s m below meth c X hr hlk hml hW ls hl
  have hx := X.1
  have hb := X.2.1
  have hl : lv_has ls 1 [(0, .ref (zad w k))] := hl
  unfold wp_Reader_readWalk at h
  have zMain : ∀ (H : Heap) (locs : List Loc) (ls : Array Slot), zWo w s.heap M H locs → lv_has ls 1 [(0, .ref (zad w k))] → W p l e (zRm 7 150) s m ([.ref (zad w k)] : List Value).toArray below meth c H locs 0 0 (MQ below (va_Qi post (zB w) (zA w)) ([.ref (zad w k)] : List Value).toArray s 0 0 (zA w)) (F0 m 0 ls []) := by
    intro H locs ls hW hl
    refine lv_aload_n hx hb dX5_readWalk_0 rfl (lv_at hl 0 rfl) ?_
    refine lv_iconst hx hb dX5_readWalk_1 zc_i0 ?_
    refine lv_iconst hx hb dX5_readWalk_2 zc_i5 ?_
    refine zcalli (zrunV (As := [.int 0, .int 5]) (rest := []) X hml hl hW h0.1 rfl zk_Reader_131 (c_Reader_readNumber h0 h) rfl ⟨Nat.le_of_ble_eq_true rfl, Nat.le_of_ble_eq_true rfl⟩ ⟨Nat.le_refl 0, Nat.le_refl 0⟩ rfl (Nat.le_of_ble_eq_true rfl) dX5_readWalk_3) hW (fun zr2 zm1 H locs h hW => ?_)
    refine lv_if_ne (tgt := 11) hx hb dX5_readWalk_6 rfl (fun c => ?_) (fun c => ?_)
    · replace h := h.1 c
      refine lv_aload_n hx hb dX5_readWalk_11 rfl (lv_at hl 0 rfl) ?_
      refine zg_Reader_draft X hW h0 zu_104 dX5_readWalk_12 ?_
      refine lv_aload_n hx hb dX5_readWalk_15 rfl (lv_at hl 0 rfl) ?_
      refine zg_Reader_value X hW h0 zu_119 dX5_readWalk_16 ?_
      refine zp_Told_walk X hW h0.2.2 zu_45 dX5_readWalk_19 (fun H locs zm3 ezm3 hW => ?_)
      replace h := h zm3 ezm3
      refine lv_aload_n hx hb dX5_readWalk_22 rfl (lv_at hl 0 rfl) ?_
      refine zcalli (zrunV (As := []) (rest := []) X hml hl hW h0.1 rfl zk_Reader_125 (c_Reader_readSign h0 h) rfl ⟨Nat.le_of_ble_eq_true rfl, Nat.le_of_ble_eq_true rfl⟩ ⟨Nat.le_refl 0, Nat.le_refl 0⟩ rfl (Nat.le_of_ble_eq_true rfl) dX5_readWalk_23) hW (fun zr5 zm4 H locs h hW => ?_)
      exact zretz X hr hlk hW (zbo_n h.1) h.2 dX5_readWalk_26
    · replace h := h.2 c
      refine lv_iconst hx hb dX5_readWalk_9 zc_i0 ?_
      exact zretz X hr hlk hW rfl h dX5_readWalk_10
  exact zMain s.heap [] ls hW hl
def wp_Reader_readLearn (k : Nat) (M : zMem) (Q : Int32 → zMem → Prop) : Prop :=
  wp_Reader_readNumber k 0 99 M (fun zr2 zm1 => (¬ zr2 = 0 → ∀ zm3 : zMem, zm3 = zup zm1 (k + 1) 3 (zm1 k 9) → wp_Reader_readSign k zm3 (fun zr5 zm4 => zbo zr5 ∧ Q zr5 zm4)) ∧ (zr2 = 0 → Q 0 zm1))
set_option maxHeartbeats 4000000 in
set_option maxRecDepth 20000 in
theorem c_Reader_readLearn {l : Launch} {w : zWd} {k : Nat} {M : zMem} {post : Int32 → zMem → Prop} (h0 : zI_Reader w k) (h : wp_Reader_readLearn k M post) : zMi l ⟨"HandToHand$Reader", "readLearn", "()Z"⟩ prog_7_method_13_code 1 (Option.some .boolean) 7 150 w [.ref (zad w k)] M post := by
  refine zMet (by decide) (Nat.le_of_ble_eq_true rfl) ?_
  intro p e s m below meth c X hr hlk hml hW ls hl
  have hx := X.1
  have hb := X.2.1
  have hl : lv_has ls 1 [(0, .ref (zad w k))] := hl
  unfold wp_Reader_readLearn at h
  have zMain : ∀ (H : Heap) (locs : List Loc) (ls : Array Slot), zWo w s.heap M H locs → lv_has ls 1 [(0, .ref (zad w k))] → W p l e (zRm 7 150) s m ([.ref (zad w k)] : List Value).toArray below meth c H locs 0 0 (MQ below (va_Qi post (zB w) (zA w)) ([.ref (zad w k)] : List Value).toArray s 0 0 (zA w)) (F0 m 0 ls []) := by
    intro H locs ls hW hl
    refine lv_aload_n hx hb dX5_readLearn_0 rfl (lv_at hl 0 rfl) ?_
    refine lv_iconst hx hb dX5_readLearn_1 zc_i0 ?_
    refine lv_bipush hx hb dX5_readLearn_2 zc_b99 ?_
    refine zcalli (zrunV (As := [.int 0, .int 99]) (rest := []) X hml hl hW h0.1 rfl zk_Reader_131 (c_Reader_readNumber h0 h) rfl ⟨Nat.le_of_ble_eq_true rfl, Nat.le_of_ble_eq_true rfl⟩ ⟨Nat.le_refl 0, Nat.le_refl 0⟩ rfl (Nat.le_of_ble_eq_true rfl) dX5_readLearn_4) hW (fun zr2 zm1 H locs h hW => ?_)
    refine lv_if_ne (tgt := 12) hx hb dX5_readLearn_7 rfl (fun c => ?_) (fun c => ?_)
    · replace h := h.1 c
      refine lv_aload_n hx hb dX5_readLearn_12 rfl (lv_at hl 0 rfl) ?_
      refine zg_Reader_draft X hW h0 zu_104 dX5_readLearn_13 ?_
      refine lv_aload_n hx hb dX5_readLearn_16 rfl (lv_at hl 0 rfl) ?_
      refine zg_Reader_value X hW h0 zu_119 dX5_readLearn_17 ?_
      refine zp_Told_learn X hW h0.2.2 zu_48 dX5_readLearn_20 (fun H locs zm3 ezm3 hW => ?_)
      replace h := h zm3 ezm3
      refine lv_aload_n hx hb dX5_readLearn_23 rfl (lv_at hl 0 rfl) ?_
      refine zcalli (zrunV (As := []) (rest := []) X hml hl hW h0.1 rfl zk_Reader_125 (c_Reader_readSign h0 h) rfl ⟨Nat.le_of_ble_eq_true rfl, Nat.le_of_ble_eq_true rfl⟩ ⟨Nat.le_refl 0, Nat.le_refl 0⟩ rfl (Nat.le_of_ble_eq_true rfl) dX5_readLearn_24) hW (fun zr5 zm4 H locs h hW => ?_)
      exact zretz X hr hlk hW (zbo_n h.1) h.2 dX5_readLearn_27
    · replace h := h.2 c
      refine lv_iconst hx hb dX5_readLearn_10 zc_i0 ?_
      exact zretz X hr hlk hW rfl h dX5_readLearn_11
  exact zMain s.heap [] ls hW hl
def wpB_Reader_readEnds_22 (k : Nat) (a1 : Int32)   (Q : Int32 → zMem → Prop) (J : Int32 → Int32 → zMem → Prop) (x_2 : Int32) (x_3 : Int32) (M : zMem) : Prop :=
  (((M (k + 1) 1) - 1) ≤ x_3 → wp_Reader_readSign k M (fun zr5 zm4 => zbo zr5 ∧ Q zr5 zm4)) ∧ (¬ ((M (k + 1) 1) - 1) ≤ x_3 → wp_Reader_readNumber k x_2 (M (k + 1) 0) M (fun zr7 zm6 => (¬ zr7 = 0 → ∀ zx8 : Int32, zx8 = zm6 k 9 → vp_in x_3 5 ∧ ∀ zm9 : zMem, zm9 = zup zm6 (k + 5) (ix x_3) (zm6 k 9) → ∀ zx10 : Int32, zx10 = x_3 + 1 → J zx8 zx10 zm9) ∧ (zr7 = 0 → Q 0 zm6)))
def wp_Reader_readEnds (k : Nat) (a1 : Int32) (M : zMem) (Q : Int32 → zMem → Prop) : Prop :=
  ∀ zm1 : zMem, zm1 = zup M k 12 1 → ∀ zm2 : zMem, zm2 = zup zm1 k 13 1 → ∀ zm3 : zMem, zm3 = zup zm2 (k + 1) 4 a1 → ∃ n : Nat, zlp2 (wpB_Reader_readEnds_22 k a1   Q) n 1 0 zm3
set_option maxHeartbeats 4000000 in
set_option maxRecDepth 20000 in
theorem c_Reader_readEnds {l : Launch} {w : zWd} {k : Nat} {a1 : Int32} {M : zMem} {post : Int32 → zMem → Prop} (h0 : zI_Reader w k) (h : wp_Reader_readEnds k a1 M post) : zMi l ⟨"HandToHand$Reader", "readEnds", "(I)Z"⟩ prog_7_method_14_code 4 (Option.some .boolean) 7 150 w [.ref (zad w k), .int a1] M post := by
  refine zMet (by decide) (Nat.le_of_ble_eq_true rfl) ?_
  intro p e s m below meth c X hr hlk hml hW ls hl
  have hx := X.1
  have hb := X.2.1
  have hl : lv_has ls 4 [(0, .ref (zad w k)), (1, .int a1)] := hl
  have zL_22 :  ∀ (n : Nat) (x_2 : Int32) (x_3 : Int32) (M : zMem) (H : Heap) (locs : List Loc) (ls : Array Slot), zWo w s.heap M H locs → lv_has ls 4 [(0, .ref (zad w k)), (2, .int x_2), (3, .int x_3)] → zlp2 (wpB_Reader_readEnds_22 k a1   post) n x_2 x_3 M → W p l e (zRm 7 150) s m ([.ref (zad w k), .int a1] : List Value).toArray below meth c H locs 0 0 (MQ below (va_Qi post (zB w) (zA w)) ([.ref (zad w k), .int a1] : List Value).toArray s 0 0 (zA w)) (F0 m 22 ls []) := by
    intro n
    induction n with
    | zero => intro x_2 x_3 M H locs ls hW hl h; exact h.elim
    | succ n zJ =>
      intro x_2 x_3 M H locs ls hW hl h
      have h : wpB_Reader_readEnds_22 k a1   post (zlp2 (wpB_Reader_readEnds_22 k a1   post) n) x_2 x_3 M := h
      unfold wpB_Reader_readEnds_22 at h
      refine lv_iload_n hx hb dX5_readEnds_22 rfl (lv_at hl 2 rfl) ?_
      refine lv_aload_n hx hb dX5_readEnds_23 rfl (lv_at hl 0 rfl) ?_
      refine zg_Reader_draft X hW h0 zu_104 dX5_readEnds_24 ?_
      refine zg_Told_hands X hW h0.2.2 zu_39 dX5_readEnds_27 ?_
      refine lv_iconst hx hb dX5_readEnds_30 zc_i1 ?_
      refine lv_isub hx hb dX5_readEnds_31 ?_
      refine lv_icmp_ge (tgt := 76) hx hb dX5_readEnds_32 rfl (fun c => ?_) (fun c => ?_)
      · replace h := h.1 c
        refine lv_aload_n hx hb dX5_readEnds_76 rfl (lv_at hl 0 rfl) ?_
        refine zcalli (zrunV (As := []) (rest := []) X hml hl hW h0.1 rfl zk_Reader_125 (c_Reader_readSign h0 h) rfl ⟨Nat.le_of_ble_eq_true rfl, Nat.le_of_ble_eq_true rfl⟩ ⟨Nat.le_refl 0, Nat.le_refl 0⟩ rfl (Nat.le_of_ble_eq_true rfl) dX5_readEnds_77) hW (fun zr5 zm4 H locs h hW => ?_)
        exact zretz X hr hlk hW (zbo_n h.1) h.2 dX5_readEnds_80
      · replace h := h.2 c
        refine lv_aload_n hx hb dX5_readEnds_35 rfl (lv_at hl 0 rfl) ?_
        refine lv_iload_n hx hb dX5_readEnds_36 rfl (lv_at hl 1 rfl) ?_
        refine lv_aload_n hx hb dX5_readEnds_37 rfl (lv_at hl 0 rfl) ?_
        refine zg_Reader_draft X hW h0 zu_104 dX5_readEnds_38 ?_
        refine zg_Told_pieces X hW h0.2.2 zu_34 dX5_readEnds_41 ?_
        refine zcalli (zrunV (As := [.int x_2, .int (M (k + 1) 0)]) (rest := []) X hml hl hW h0.1 rfl zk_Reader_131 (c_Reader_readNumber h0 h) rfl ⟨Nat.le_of_ble_eq_true rfl, Nat.le_of_ble_eq_true rfl⟩ ⟨Nat.le_refl 0, Nat.le_refl 0⟩ rfl (Nat.le_of_ble_eq_true rfl) dX5_readEnds_44) hW (fun zr7 zm6 H locs h hW => ?_)
        refine lv_if_ne (tgt := 52) hx hb dX5_readEnds_47 rfl (fun c => ?_) (fun c => ?_)
        · replace h := h.1 c
          refine lv_aload_n hx hb dX5_readEnds_52 rfl (lv_at hl 0 rfl) ?_
          refine zg_Reader_value X hW h0 zu_119 dX5_readEnds_53 ?_
          refine lv_topi (fun zx8 ezx8 => ?_)
          replace h := h zx8 ezx8
          refine lv_istore_n (lv' := [(2, .int zx8), (0, .ref (zad w k)), (3, .int x_3)]) hx hb dX5_readEnds_56 rfl hl (Nat.le_of_ble_eq_true rfl) rfl (fun ls hl => ?_)
          refine lv_aload_n hx hb dX5_readEnds_57 rfl (lv_at hl 1 rfl) ?_
          refine zg_Reader_draft X hW h0 zu_104 dX5_readEnds_58 ?_
          refine zg_Told_ends X hW h0.2.2 zu_71 dX5_readEnds_61 ?_
          refine lv_iload_n hx hb dX5_readEnds_64 rfl (lv_at hl 2 rfl) ?_
          refine lv_aload_n hx hb dX5_readEnds_65 rfl (lv_at hl 1 rfl) ?_
          refine zg_Reader_value X hW h0 zu_119 dX5_readEnds_66 ?_
          obtain ⟨g, h⟩ := h
          refine ziast X hW h0.2.2.2.2.2.2 g dX5_readEnds_69 (fun H locs zm9 ezm9 hW => ?_)
          replace h := h zm9 ezm9
          obtain ⟨zx10, ezx10⟩ : ∃ y : Int32, y = x_3 + 1 := ⟨_, rfl⟩
          replace h := h zx10 ezx10
          refine lv_iinc (v := zx10) (lv' := [(3, .int zx10), (2, .int zx8), (0, .ref (zad w k))]) hx hb dX5_readEnds_70 hl (k := 2) rfl (by rw [ezx10, zc_i1]) (Nat.le_of_ble_eq_true rfl) rfl (fun ls hl => ?_)
          refine lv_goto (tgt := 22) hx hb dX5_readEnds_73 rfl ?_
          exact zJ zx8 zx10 zm9 H locs ls hW (lv_sub hl [2, 1, 0] rfl) h
        · replace h := h.2 c
          refine lv_iconst hx hb dX5_readEnds_50 zc_i0 ?_
          exact zretz X hr hlk hW rfl h dX5_readEnds_51
  unfold wp_Reader_readEnds at h
  have zMain : ∀ (H : Heap) (locs : List Loc) (ls : Array Slot), zWo w s.heap M H locs → lv_has ls 4 [(0, .ref (zad w k)), (1, .int a1)] → W p l e (zRm 7 150) s m ([.ref (zad w k), .int a1] : List Value).toArray below meth c H locs 0 0 (MQ below (va_Qi post (zB w) (zA w)) ([.ref (zad w k), .int a1] : List Value).toArray s 0 0 (zA w)) (F0 m 0 ls []) := by
    intro H locs ls hW hl
    refine lv_aload_n hx hb dX5_readEnds_0 rfl (lv_at hl 0 rfl) ?_
    refine lv_iconst hx hb dX5_readEnds_1 zc_i1 ?_
    refine zp_Reader_piecesClosed X hW h0 zbo_1 zu_122 dX5_readEnds_2 (fun H locs zm1 ezm1 hW => ?_)
    replace h := h zm1 ezm1
    refine lv_aload_n hx hb dX5_readEnds_5 rfl (lv_at hl 0 rfl) ?_
    refine lv_iconst hx hb dX5_readEnds_6 zc_i1 ?_
    refine zp_Reader_handsClosed X hW h0 zbo_1 zu_123 dX5_readEnds_7 (fun H locs zm2 ezm2 hW => ?_)
    replace h := h zm2 ezm2
    refine lv_aload_n hx hb dX5_readEnds_10 rfl (lv_at hl 0 rfl) ?_
    refine zg_Reader_draft X hW h0 zu_104 dX5_readEnds_11 ?_
    refine lv_iload_n hx hb dX5_readEnds_14 rfl (lv_at hl 1 rfl) ?_
    refine zp_Told_kind X hW h0.2.2 zu_51 dX5_readEnds_15 (fun H locs zm3 ezm3 hW => ?_)
    replace h := h zm3 ezm3
    refine lv_iconst hx hb dX5_readEnds_18 zc_i1 ?_
    refine lv_istore_n (lv' := [(2, .int 1), (0, .ref (zad w k)), (1, .int a1)]) hx hb dX5_readEnds_19 rfl hl (Nat.le_of_ble_eq_true rfl) rfl (fun ls hl => ?_)
    refine lv_iconst hx hb dX5_readEnds_20 zc_i0 ?_
    refine lv_istore_n (lv' := [(3, .int 0), (2, .int 1), (0, .ref (zad w k)), (1, .int a1)]) hx hb dX5_readEnds_21 rfl hl (Nat.le_of_ble_eq_true rfl) rfl (fun ls hl => ?_)
    obtain ⟨n, h⟩ := h
    refine zL_22   n 1 0 zm3 H locs ls hW (lv_sub hl [2, 1, 0] rfl) h
  exact zMain s.heap [] ls hW hl
