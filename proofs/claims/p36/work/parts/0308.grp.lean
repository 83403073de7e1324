def wpB_Reader_readSort_57 (k : Nat) (x_1 : Int32)  (Q : Int32 → zMem → Prop) (J : Int32 → zMem → Prop) (x_2 : Int32) (M : zMem) : Prop :=
  ((M (k + 1) 0) ≤ x_2 → wp_Reader_readSign k M (fun zr7 zm6 => zbo zr7 ∧ Q zr7 zm6)) ∧ (¬ (M (k + 1) 0) ≤ x_2 → wp_Reader_readNumber k 0 6 M (fun zr9 zm8 => (¬ zr9 = 0 → vp_in ((x_1 * 8) + x_2) 24 ∧ ∀ zm10 : zMem, zm10 = zup zm8 (k + 3) (ix ((x_1 * 8) + x_2)) (zm8 k 9) → ∀ zx11 : Int32, zx11 = x_2 + 1 → J zx11 zm10) ∧ (zr9 = 0 → Q 0 zm8)))
def wp_Reader_readSort (k : Nat) (M : zMem) (Q : Int32 → zMem → Prop) : Prop :=
  ∀ zm1 : zMem, zm1 = zup M k 12 1 → wp_Reader_readNumber k 1 2 zm1 (fun zr3 zm2 => (¬ zr3 = 0 → ∀ zx4 : Int32, zx4 = zm2 k 9 → (¬ (((zm2 k 11) >>> (zx4 &&& 31)) &&& 1) = 1 → ∀ zm5 : zMem, zm5 = zup zm2 k 11 ((zm2 k 11) ||| (1 <<< (zx4 &&& 31))) → ∃ n : Nat, zlp1 (wpB_Reader_readSort_57 k zx4  Q) n 0 zm5) ∧ ((((zm2 k 11) >>> (zx4 &&& 31)) &&& 1) = 1 → wp_Reader_refuse k 4 (zm2 k 8) zm2 (fun zr13 zm12 => zbo zr13 ∧ Q zr13 zm12))) ∧ (zr3 = 0 → Q 0 zm2))
set_option maxHeartbeats 4000000 in
set_option maxRecDepth 20000 in
theorem c_Reader_readSort {l : Launch} {w : zWd} {k : Nat} {M : zMem} {post : Int32 → zMem → Prop} (h0 : zI_Reader w k) (h : wp_Reader_readSort k M post) : zMi l ⟨"HandToHand$Reader", "readSort", "()Z"⟩ prog_7_method_9_code 3 (Option.some .boolean) 7 150 w [.ref (zad w k)] M post := by
  refine zMet (by decide) (Nat.le_of_ble_eq_true rfl) ?_
  intro p e s m below meth c X hr hlk hml hW ls hl
  have hx := X.1
  have hb := X.2.1
  have hl : lv_has ls 3 [(0, .ref (zad w k))] := hl
  have zL_57 : ∀ (x_1 : Int32), ∀ (n : Nat) (x_2 : Int32) (M : zMem) (H : Heap) (locs : List Loc) (ls : Array Slot), zWo w s.heap M H locs → lv_has ls 3 [(0, .ref (zad w k)), (1, .int x_1), (2, .int x_2)] → zlp1 (wpB_Reader_readSort_57 k x_1  post) n x_2 M → W p l e (zRm 7 150) s m ([.ref (zad w k)] : List Value).toArray below meth c H locs 0 0 (MQ below (va_Qi post (zB w) (zA w)) ([.ref (zad w k)] : List Value).toArray s 0 0 (zA w)) (F0 m 57 ls []) := by
    intro x_1 n
    induction n with
    | zero => intro x_2 M H locs ls hW hl h; exact h.elim
    | succ n zJ =>
      intro x_2 M H locs ls hW hl h
      have h : wpB_Reader_readSort_57 k x_1  post (zlp1 (wpB_Reader_readSort_57 k x_1  post) n) x_2 M := h
      unfold wpB_Reader_readSort_57 at h
      refine lv_iload_n hx hb dX5_readSort_57 rfl (lv_at hl 2 rfl) ?_
      refine lv_aload_n hx hb dX5_readSort_58 rfl (lv_at hl 0 rfl) ?_
      refine zg_Reader_draft X hW h0 zu_104 dX5_readSort_59 ?_
      refine zg_Told_pieces X hW h0.2.2 zu_34 dX5_readSort_62 ?_
      refine lv_icmp_ge (tgt := 104) hx hb dX5_readSort_65 rfl (fun c => ?_) (fun c => ?_)
      · replace h := h.1 c
        refine lv_aload_n hx hb dX5_readSort_104 rfl (lv_at hl 0 rfl) ?_
        refine zcalli (zrunV (As := []) (rest := []) X hml hl hW h0.1 rfl zk_Reader_125 (c_Reader_readSign h0 h) rfl ⟨Nat.le_of_ble_eq_true rfl, Nat.le_of_ble_eq_true rfl⟩ ⟨Nat.le_refl 0, Nat.le_refl 0⟩ rfl (Nat.le_of_ble_eq_true rfl) dX5_readSort_105) hW (fun zr7 zm6 H locs h hW => ?_)
        exact zretz X hr hlk hW (zbo_n h.1) h.2 dX5_readSort_108
      · replace h := h.2 c
        refine lv_aload_n hx hb dX5_readSort_68 rfl (lv_at hl 0 rfl) ?_
        refine lv_iconst hx hb dX5_readSort_69 zc_i0 ?_
        refine lv_bipush hx hb dX5_readSort_70 zc_b6 ?_
        refine zcalli (zrunV (As := [.int 0, .int 6]) (rest := []) X hml hl hW h0.1 rfl zk_Reader_131 (c_Reader_readNumber h0 h) rfl ⟨Nat.le_of_ble_eq_true rfl, Nat.le_of_ble_eq_true rfl⟩ ⟨Nat.le_refl 0, Nat.le_refl 0⟩ rfl (Nat.le_of_ble_eq_true rfl) dX5_readSort_72) hW (fun zr9 zm8 H locs h hW => ?_)
        refine lv_if_ne (tgt := 80) hx hb dX5_readSort_75 rfl (fun c => ?_) (fun c => ?_)
        · replace h := h.1 c
          refine lv_aload_n hx hb dX5_readSort_80 rfl (lv_at hl 0 rfl) ?_
          refine zg_Reader_draft X hW h0 zu_104 dX5_readSort_81 ?_
          refine zg_Told_units X hW h0.2.2 zu_64 dX5_readSort_84 ?_
          refine lv_iload_n hx hb dX5_readSort_87 rfl (lv_at hl 1 rfl) ?_
          refine lv_bipush hx hb dX5_readSort_88 zc_b8 ?_
          refine lv_imul hx hb dX5_readSort_90 ?_
          refine lv_iload_n hx hb dX5_readSort_91 rfl (lv_at hl 2 rfl) ?_
          refine lv_iadd hx hb dX5_readSort_92 ?_
          refine lv_aload_n hx hb dX5_readSort_93 rfl (lv_at hl 0 rfl) ?_
          refine zg_Reader_value X hW h0 zu_119 dX5_readSort_94 ?_
          obtain ⟨g, h⟩ := h
          refine ziast X hW h0.2.2.2.2.1 g dX5_readSort_97 (fun H locs zm10 ezm10 hW => ?_)
          replace h := h zm10 ezm10
          obtain ⟨zx11, ezx11⟩ : ∃ y : Int32, y = x_2 + 1 := ⟨_, rfl⟩
          replace h := h zx11 ezx11
          refine lv_iinc (v := zx11) (lv' := [(2, .int zx11), (0, .ref (zad w k)), (1, .int x_1)]) hx hb dX5_readSort_98 hl (k := 2) rfl (by rw [ezx11, zc_i1]) (Nat.le_of_ble_eq_true rfl) rfl (fun ls hl => ?_)
          refine lv_goto (tgt := 57) hx hb dX5_readSort_101 rfl ?_
          exact zJ zx11 zm10 H locs ls hW (lv_sub hl [1, 2, 0] rfl) h
        · replace h := h.2 c
          refine lv_iconst hx hb dX5_readSort_78 zc_i0 ?_
          exact zretz X hr hlk hW rfl h dX5_readSort_79
  unfold wp_Reader_readSort at h
  have zMain : ∀ (H : Heap) (locs : List Loc) (ls : Array Slot), zWo w s.heap M H locs → lv_has ls 3 [(0, .ref (zad w k))] → W p l e (zRm 7 150) s m ([.ref (zad w k)] : List Value).toArray below meth c H locs 0 0 (MQ below (va_Qi post (zB w) (zA w)) ([.ref (zad w k)] : List Value).toArray s 0 0 (zA w)) (F0 m 0 ls []) := by
    intro H locs ls hW hl
    refine lv_aload_n hx hb dX5_readSort_0 rfl (lv_at hl 0 rfl) ?_
    refine lv_iconst hx hb dX5_readSort_1 zc_i1 ?_
    refine zp_Reader_piecesClosed X hW h0 zbo_1 zu_122 dX5_readSort_2 (fun H locs zm1 ezm1 hW => ?_)
    replace h := h zm1 ezm1
    refine lv_aload_n hx hb dX5_readSort_5 rfl (lv_at hl 0 rfl) ?_
    refine lv_iconst hx hb dX5_readSort_6 zc_i1 ?_
    refine lv_iconst hx hb dX5_readSort_7 zc_i2 ?_
    refine zcalli (zrunV (As := [.int 1, .int 2]) (rest := []) X hml hl hW h0.1 rfl zk_Reader_131 (c_Reader_readNumber h0 h) rfl ⟨Nat.le_of_ble_eq_true rfl, Nat.le_of_ble_eq_true rfl⟩ ⟨Nat.le_refl 0, Nat.le_refl 0⟩ rfl (Nat.le_of_ble_eq_true rfl) dX5_readSort_8) hW (fun zr3 zm2 H locs h hW => ?_)
    refine lv_if_ne (tgt := 16) hx hb dX5_readSort_11 rfl (fun c => ?_) (fun c => ?_)
    · replace h := h.1 c
      refine lv_aload_n hx hb dX5_readSort_16 rfl (lv_at hl 0 rfl) ?_
      refine zg_Reader_value X hW h0 zu_119 dX5_readSort_17 ?_
      refine lv_topi (fun zx4 ezx4 => ?_)
      replace h := h zx4 ezx4
      refine lv_istore_n (lv' := [(1, .int zx4), (0, .ref (zad w k))]) hx hb dX5_readSort_20 rfl hl (Nat.le_of_ble_eq_true rfl) rfl (fun ls hl => ?_)
      refine lv_aload_n hx hb dX5_readSort_21 rfl (lv_at hl 1 rfl) ?_
      refine zg_Reader_sorts X hW h0 zu_121 dX5_readSort_22 ?_
      refine lv_iload_n hx hb dX5_readSort_25 rfl (lv_at hl 0 rfl) ?_
      refine lv_ishr hx hb dX5_readSort_26 ?_
      refine lv_iconst hx hb dX5_readSort_27 zc_i1 ?_
      refine lv_iand hx hb dX5_readSort_28 ?_
      refine lv_iconst hx hb dX5_readSort_29 zc_i1 ?_
      refine lv_icmp_ne (tgt := 43) hx hb dX5_readSort_30 rfl (fun c => ?_) (fun c => ?_)
      · replace h := h.1 c
        refine lv_aload_n hx hb dX5_readSort_43 rfl (lv_at hl 1 rfl) ?_
        refine lv_dup hx hb dX5_readSort_44 rfl ?_
        refine zg_Reader_sorts X hW h0 zu_121 dX5_readSort_45 ?_
        refine lv_iconst hx hb dX5_readSort_48 zc_i1 ?_
        refine lv_iload_n hx hb dX5_readSort_49 rfl (lv_at hl 0 rfl) ?_
        refine lv_ishl hx hb dX5_readSort_50 ?_
        refine lv_ior hx hb dX5_readSort_51 ?_
        refine zp_Reader_sorts X hW h0 zu_121 dX5_readSort_52 (fun H locs zm5 ezm5 hW => ?_)
        replace h := h zm5 ezm5
        refine lv_iconst hx hb dX5_readSort_55 zc_i0 ?_
        refine lv_istore_n (lv' := [(2, .int 0), (1, .int zx4), (0, .ref (zad w k))]) hx hb dX5_readSort_56 rfl hl (Nat.le_of_ble_eq_true rfl) rfl (fun ls hl => ?_)
        obtain ⟨n, h⟩ := h
        refine zL_57 zx4  n 0 zm5 H locs ls hW (lv_sub hl [2, 1, 0] rfl) h
      · replace h := h.2 c
        refine lv_aload_n hx hb dX5_readSort_33 rfl (lv_at hl 1 rfl) ?_
        refine lv_iconst hx hb dX5_readSort_34 zc_i4 ?_
        refine lv_aload_n hx hb dX5_readSort_35 rfl (lv_at hl 1 rfl) ?_
        refine zg_Reader_start X hW h0 zu_118 dX5_readSort_36 ?_
        refine zcalli (zrunV (As := [.int 4, .int (zm2 k 8)]) (rest := []) X hml hl hW h0.1 rfl zk_Reader_73 (c_Reader_refuse h0 h) rfl ⟨Nat.le_of_ble_eq_true rfl, Nat.le_of_ble_eq_true rfl⟩ ⟨Nat.le_refl 0, Nat.le_refl 0⟩ rfl (Nat.le_of_ble_eq_true rfl) dX5_readSort_39) hW (fun zr13 zm12 H locs h hW => ?_)
        exact zretz X hr hlk hW (zbo_n h.1) h.2 dX5_readSort_42
    · replace h := h.2 c
      refine lv_iconst hx hb dX5_readSort_14 zc_i0 ?_
      exact zretz X hr hlk hW rfl h dX5_readSort_15
  exact zMain s.heap [] ls hW hl
def wp_Reader_readOnce (k : Nat) (a1 : Int32) (M : zMem) (Q : Int32 → zMem → Prop) : Prop :=
  (¬ (((M k 10) >>> (a1 &&& 31)) &&& 1) = 1 → ∀ zm1 : zMem, zm1 = zup M k 10 ((M k 10) ||| (1 <<< (a1 &&& 31))) → Q 1 zm1) ∧ ((((M k 10) >>> (a1 &&& 31)) &&& 1) = 1 → wp_Reader_refuse k 4 (M k 8) M (fun zr3 zm2 => zbo zr3 ∧ Q zr3 zm2))
set_option maxHeartbeats 4000000 in
set_option maxRecDepth 20000 in
theorem c_Reader_readOnce {l : Launch} {w : zWd} {k : Nat} {a1 : Int32} {M : zMem} {post : Int32 → zMem → Prop} (h0 : zI_Reader w k) (h : wp_Reader_readOnce k a1 M post) : zMi l ⟨"HandToHand$Reader", "readOnce", "(I)Z"⟩ prog_7_method_6_code 2 (Option.some .boolean) 1 22 w [.ref (zad w k), .int a1] M post := by
  refine zMet (by decide) (Nat.le_of_ble_eq_true rfl) ?_
  intro p e s m below meth c X hr hlk hml hW ls hl
  have hx := X.1
  have hb := X.2.1
  have hl : lv_has ls 2 [(0, .ref (zad w k)), (1, .int a1)] := hl
  unfold wp_Reader_readOnce at h
  have zMain : ∀ (H : Heap) (locs : List Loc) (ls : Array Slot), zWo w s.heap M H locs → lv_has ls 2 [(0, .ref (zad w k)), (1, .int a1)] → W p l e (zRm 1 22) s m ([.ref (zad w k), .int a1] : List Value).toArray below meth c H locs 0 0 (MQ below (va_Qi post (zB w) (zA w)) ([.ref (zad w k), .int a1] : List Value).toArray s 0 0 (zA w)) (F0 m 0 ls []) := by
    intro H locs ls hW hl
    refine lv_aload_n hx hb dX5_readOnce_0 rfl (lv_at hl 0 rfl) ?_
    refine zg_Reader_names X hW h0 zu_120 dX5_readOnce_1 ?_
    refine lv_iload_n hx hb dX5_readOnce_4 rfl (lv_at hl 1 rfl) ?_
    refine lv_ishr hx hb dX5_readOnce_5 ?_
    refine lv_iconst hx hb dX5_readOnce_6 zc_i1 ?_
    refine lv_iand hx hb dX5_readOnce_7 ?_
    refine lv_iconst hx hb dX5_readOnce_8 zc_i1 ?_
    refine lv_icmp_ne (tgt := 22) hx hb dX5_readOnce_9 rfl (fun c => ?_) (fun c => ?_)
    · replace h := h.1 c
      refine lv_aload_n hx hb dX5_readOnce_22 rfl (lv_at hl 0 rfl) ?_
      refine lv_dup hx hb dX5_readOnce_23 rfl ?_
      refine zg_Reader_names X hW h0 zu_120 dX5_readOnce_24 ?_
      refine lv_iconst hx hb dX5_readOnce_27 zc_i1 ?_
      refine lv_iload_n hx hb dX5_readOnce_28 rfl (lv_at hl 1 rfl) ?_
      refine lv_ishl hx hb dX5_readOnce_29 ?_
      refine lv_ior hx hb dX5_readOnce_30 ?_
      refine zp_Reader_names X hW h0 zu_120 dX5_readOnce_31 (fun H locs zm1 ezm1 hW => ?_)
      replace h := h zm1 ezm1
      refine lv_iconst hx hb dX5_readOnce_34 zc_i1 ?_
      exact zretz X hr hlk hW rfl h dX5_readOnce_35
    · replace h := h.2 c
      refine lv_aload_n hx hb dX5_readOnce_12 rfl (lv_at hl 0 rfl) ?_
      refine lv_iconst hx hb dX5_readOnce_13 zc_i4 ?_
      refine lv_aload_n hx hb dX5_readOnce_14 rfl (lv_at hl 0 rfl) ?_
      refine zg_Reader_start X hW h0 zu_118 dX5_readOnce_15 ?_
      refine zcalli (zrunV (As := [.int 4, .int (M k 8)]) (rest := []) X hml hl hW h0.1 rfl zk_Reader_73 (c_Reader_refuse h0 h) rfl ⟨Nat.le_of_ble_eq_true rfl, Nat.le_of_ble_eq_true rfl⟩ ⟨Nat.le_refl 0, Nat.le_refl 0⟩ rfl (Nat.le_of_ble_eq_true rfl) dX5_readOnce_18) hW (fun zr3 zm2 H locs h hW => ?_)
      exact zretz X hr hlk hW (zbo_n h.1) h.2 dX5_readOnce_21
  exact zMain s.heap [] ls hW hl
def wpB_Reader_readRow_31 (k : Nat)  (K94 : Int32 → zMem → Prop) (Q : Int32 → zMem → Prop) (J : Int32 → Int32 → zMem → Prop) (x_1 : Int32) (x_2 : Int32) (M : zMem) : Prop :=
  (6 ≤ x_2 → K94 x_1 M) ∧ (¬ 6 ≤ x_2 → (x_1 = 0 → K94 x_1 M) ∧ (¬ x_1 = 0 → (¬ (M k 7) = 2 → K94 x_1 M) ∧ ((M k 7) = 2 → wp_Reader_isWithin k 0 2 M (fun zr7 zm6 => (¬ zr7 = 0 → vp_in x_2 6 ∧ ∀ zm8 : zMem, zm8 = zup zm6 (k + 2) (ix x_2) (zm6 k 9) → ∀ zm9 : zMem, zm9 = zup zm8 (k + 1) 6 (x_2 + 1) → wp_Reader_readToken k zm9 (fun zr11 zm10 => ∀ zx12 : Int32, zx12 = x_2 + 1 → J zr11 zx12 zm10)) ∧ (zr7 = 0 → Q 0 zm6)))))
def wpJ_Reader_readRow_94 (k : Nat)  (Q : Int32 → zMem → Prop) (x_1 : Int32)  (M : zMem) : Prop :=
  (x_1 = 0 → (x_1 = 0 → Q 0 M) ∧ (¬ x_1 = 0 → wp_Reader_isSign k M (fun zr16 zm15 => (zr16 = 0 → Q 0 zm15) ∧ (¬ zr16 = 0 → Q 1 zm15)))) ∧ (¬ x_1 = 0 → (¬ (M k 7) = 2 → (x_1 = 0 → Q 0 M) ∧ (¬ x_1 = 0 → wp_Reader_isSign k M (fun zr18 zm17 => (zr18 = 0 → Q 0 zm17) ∧ (¬ zr18 = 0 → Q 1 zm17)))) ∧ ((M k 7) = 2 → wp_Reader_refuse k 5 (M k 8) M (fun zr20 zm19 => zbo zr20 ∧ Q zr20 zm19)))
def wp_Reader_readRow (k : Nat) (M : zMem) (Q : Int32 → zMem → Prop) : Prop :=
  wp_Reader_readNumber k 0 2 M (fun zr2 zm1 => (¬ zr2 = 0 → vp_in 0 6 ∧ ∀ zm3 : zMem, zm3 = zup zm1 (k + 2) (ix 0) (zm1 k 9) → wp_Reader_readToken k zm3 (fun zr5 zm4 => ∃ n : Nat, zlp2 (wpB_Reader_readRow_31 k  (fun (zx14 : Int32) (zm13 : zMem) => wpJ_Reader_readRow_94 k Q zx14 zm13) Q) n zr5 1 zm4)) ∧ (zr2 = 0 → Q 0 zm1))
set_option maxHeartbeats 4000000 in
set_option maxRecDepth 20000 in
theorem c_Reader_readRow {l : Launch} {w : zWd} {k : Nat} {M : zMem} {post : Int32 → zMem → Prop} (h0 : zI_Reader w k) (h : wp_Reader_readRow k M post) : zMi l ⟨"HandToHand$Reader", "readRow", "()Z"⟩ prog_7_method_10_code 3 (Option.some .boolean) 7 150 w [.ref (zad w k)] M post := by
  refine zMet (by decide) (Nat.le_of_ble_eq_true rfl) ?_
  intro p e s m below meth c X hr hlk hml hW ls hl
  have hx := X.1
  have hb := X.2.1
  have hl : lv_has ls 3 [(0, .ref (zad w k))] := hl
  have zL_31 : ∀ (K94 : Int32 → zMem → Prop) (zK94 : ∀ (y_1 : Int32) (M : zMem) (H : Heap) (locs : List Loc) (ls : Array Slot), zWo w s.heap M H locs → lv_has ls 3 [(0, .ref (zad w k)), (1, .int y_1)] → K94 y_1 M → W p l e (zRm 7 150) s m ([.ref (zad w k)] : List Value).toArray below meth c H locs 0 0 (MQ below (va_Qi post (zB w) (zA w)) ([.ref (zad w k)] : List Value).toArray s 0 0 (zA w)) (F0 m 94 ls [])), ∀ (n : Nat) (x_1 : Int32) (x_2 : Int32) (M : zMem) (H : Heap) (locs : List Loc) (ls : Array Slot), zWo w s.heap M H locs → lv_has ls 3 [(0, .ref (zad w k)), (1, .int x_1), (2, .int x_2)] → zlp2 (wpB_Reader_readRow_31 k  K94 post) n x_1 x_2 M → W p l e (zRm 7 150) s m ([.ref (zad w k)] : List Value).toArray below meth c H locs 0 0 (MQ below (va_Qi post (zB w) (zA w)) ([.ref (zad w k)] : List Value).toArray s 0 0 (zA w)) (F0 m 31 ls []) := by
    intro K94 zK94 n
    induction n with
    | zero => intro x_1 x_2 M H locs ls hW hl h; exact h.elim
    | succ n zJ =>
      intro x_1 x_2 M H locs ls hW hl h
      have h : wpB_Reader_readRow_31 k  K94 post (zlp2 (wpB_Reader_readRow_31 k  K94 post) n) x_1 x_2 M := h
      unfold wpB_Reader_readRow_31 at h
      refine lv_iload_n hx hb dX5_readRow_31 rfl (lv_at hl 2 rfl) ?_
      refine lv_bipush hx hb dX5_readRow_32 zc_b6 ?_
      refine lv_icmp_ge (tgt := 94) hx hb dX5_readRow_34 rfl (fun c => ?_) (fun c => ?_)
      · replace h := h.1 c
        exact zK94 x_1 M H locs ls hW (lv_sub hl [0, 1] rfl) h
      · replace h := h.2 c
        refine lv_iload_n hx hb dX5_readRow_37 rfl (lv_at hl 1 rfl) ?_
        refine lv_if_eq (tgt := 94) hx hb dX5_readRow_38 rfl (fun c => ?_) (fun c => ?_)
        · replace h := h.1 c
          exact zK94 x_1 M H locs ls hW (lv_sub hl [0, 1] rfl) h
        · replace h := h.2 c
          refine lv_aload_n hx hb dX5_readRow_41 rfl (lv_at hl 0 rfl) ?_
          refine zg_Reader_kind X hW h0 zu_117 dX5_readRow_42 ?_
          refine lv_iconst hx hb dX5_readRow_45 zc_i2 ?_
          refine lv_icmp_ne (tgt := 94) hx hb dX5_readRow_46 rfl (fun c => ?_) (fun c => ?_)
          · replace h := h.1 c
            exact zK94 x_1 M H locs ls hW (lv_sub hl [0, 1] rfl) h
          · replace h := h.2 c
            refine lv_aload_n hx hb dX5_readRow_49 rfl (lv_at hl 0 rfl) ?_
            refine lv_iconst hx hb dX5_readRow_50 zc_i0 ?_
            refine lv_iconst hx hb dX5_readRow_51 zc_i2 ?_
            refine zcalli (zrunV (As := [.int 0, .int 2]) (rest := []) X hml hl hW h0.1 rfl zk_Reader_140 (c_Reader_isWithin h0 h) rfl ⟨Nat.le_of_ble_eq_true rfl, Nat.le_of_ble_eq_true rfl⟩ ⟨Nat.le_refl 0, Nat.le_refl 0⟩ rfl (Nat.le_of_ble_eq_true rfl) dX5_readRow_52) hW (fun zr7 zm6 H locs h hW => ?_)
            refine lv_if_ne (tgt := 60) hx hb dX5_readRow_55 rfl (fun c => ?_) (fun c => ?_)
            · replace h := h.1 c
              refine lv_aload_n hx hb dX5_readRow_60 rfl (lv_at hl 0 rfl) ?_
              refine zg_Reader_draft X hW h0 zu_104 dX5_readRow_61 ?_
              refine zg_Told_row X hW h0.2.2 zu_62 dX5_readRow_64 ?_
              refine lv_iload_n hx hb dX5_readRow_67 rfl (lv_at hl 2 rfl) ?_
              refine lv_aload_n hx hb dX5_readRow_68 rfl (lv_at hl 0 rfl) ?_
              refine zg_Reader_value X hW h0 zu_119 dX5_readRow_69 ?_
              obtain ⟨g, h⟩ := h
              refine ziast X hW h0.2.2.2.1 g dX5_readRow_72 (fun H locs zm8 ezm8 hW => ?_)
              replace h := h zm8 ezm8
              refine lv_aload_n hx hb dX5_readRow_73 rfl (lv_at hl 0 rfl) ?_
              refine zg_Reader_draft X hW h0 zu_104 dX5_readRow_74 ?_
              refine lv_iload_n hx hb dX5_readRow_77 rfl (lv_at hl 2 rfl) ?_
              refine lv_iconst hx hb dX5_readRow_78 zc_i1 ?_
              refine lv_iadd hx hb dX5_readRow_79 ?_
              refine zp_Told_rowLength X hW h0.2.2 zu_58 dX5_readRow_80 (fun H locs zm9 ezm9 hW => ?_)
              replace h := h zm9 ezm9
              refine lv_aload_n hx hb dX5_readRow_83 rfl (lv_at hl 0 rfl) ?_
              refine zcalli (zrunV (As := []) (rest := []) X hml hl hW h0.1 rfl zk_Reader_51 (c_Reader_readToken h0 h) rfl ⟨Nat.le_of_ble_eq_true rfl, Nat.le_of_ble_eq_true rfl⟩ ⟨Nat.le_refl 0, Nat.le_refl 0⟩ rfl (Nat.le_of_ble_eq_true rfl) dX5_readRow_84) hW (fun zr11 zm10 H locs h hW => ?_)
              refine lv_istore_n (lv' := [(1, .int zr11), (0, .ref (zad w k)), (2, .int x_2)]) hx hb dX5_readRow_87 rfl hl (Nat.le_of_ble_eq_true rfl) rfl (fun ls hl => ?_)
              obtain ⟨zx12, ezx12⟩ : ∃ y : Int32, y = x_2 + 1 := ⟨_, rfl⟩
              replace h := h zx12 ezx12
              refine lv_iinc (v := zx12) (lv' := [(2, .int zx12), (1, .int zr11), (0, .ref (zad w k))]) hx hb dX5_readRow_88 hl (k := 2) rfl (by rw [ezx12, zc_i1]) (Nat.le_of_ble_eq_true rfl) rfl (fun ls hl => ?_)
              refine lv_goto (tgt := 31) hx hb dX5_readRow_91 rfl ?_
              exact zJ zr11 zx12 zm10 H locs ls hW (lv_sub hl [2, 1, 0] rfl) h
            · replace h := h.2 c
              refine lv_iconst hx hb dX5_readRow_58 zc_i0 ?_
              exact zretz X hr hlk hW rfl h dX5_readRow_59
  have zJ_94 : ∀ (x_1 : Int32) (M : zMem) (H : Heap) (locs : List Loc) (ls : Array Slot), zWo w s.heap M H locs → lv_has ls 3 [(0, .ref (zad w k)), (1, .int x_1)] → wpJ_Reader_readRow_94 k post x_1 M → W p l e (zRm 7 150) s m ([.ref (zad w k)] : List Value).toArray below meth c H locs 0 0 (MQ below (va_Qi post (zB w) (zA w)) ([.ref (zad w k)] : List Value).toArray s 0 0 (zA w)) (F0 m 94 ls []) := by
    intro x_1 M H locs ls hW hl h
    unfold wpJ_Reader_readRow_94 at h
    refine lv_iload_n hx hb dX5_readRow_94 rfl (lv_at hl 1 rfl) ?_
    refine lv_if_eq (tgt := 116) hx hb dX5_readRow_95 rfl (fun c => ?_) (fun c => ?_)
    · replace h := h.1 c
      refine lv_iload_n hx hb dX5_readRow_116 rfl (lv_at hl 1 rfl) ?_
      refine lv_if_eq (tgt := 131) hx hb dX5_readRow_117 rfl (fun c => ?_) (fun c => ?_)
      · replace h := h.1 c
        refine lv_iconst hx hb dX5_readRow_131 zc_i0 ?_
        exact zretz X hr hlk hW rfl h dX5_readRow_132
      · replace h := h.2 c
        refine lv_aload_n hx hb dX5_readRow_120 rfl (lv_at hl 0 rfl) ?_
        refine zcalli (zrunV (As := []) (rest := []) X hml hl hW h0.1 rfl zk_Reader_146 (c_Reader_isSign h0 h) rfl ⟨Nat.le_of_ble_eq_true rfl, Nat.le_of_ble_eq_true rfl⟩ ⟨Nat.le_refl 0, Nat.le_refl 0⟩ rfl (Nat.le_of_ble_eq_true rfl) dX5_readRow_121) hW (fun zr16 zm15 H locs h hW => ?_)
        refine lv_if_eq (tgt := 131) hx hb dX5_readRow_124 rfl (fun c => ?_) (fun c => ?_)
        · replace h := h.1 c
          refine lv_iconst hx hb dX5_readRow_131 zc_i0 ?_
          exact zretz X hr hlk hW rfl h dX5_readRow_132
        · replace h := h.2 c
          refine lv_iconst hx hb dX5_readRow_127 zc_i1 ?_
          refine lv_goto (tgt := 132) hx hb dX5_readRow_128 rfl ?_
          exact zretz X hr hlk hW rfl h dX5_readRow_132
    · replace h := h.2 c
      refine lv_aload_n hx hb dX5_readRow_98 rfl (lv_at hl 0 rfl) ?_
      refine zg_Reader_kind X hW h0 zu_117 dX5_readRow_99 ?_
      refine lv_iconst hx hb dX5_readRow_102 zc_i2 ?_
      refine lv_icmp_ne (tgt := 116) hx hb dX5_readRow_103 rfl (fun c => ?_) (fun c => ?_)
      · replace h := h.1 c
        refine lv_iload_n hx hb dX5_readRow_116 rfl (lv_at hl 1 rfl) ?_
        refine lv_if_eq (tgt := 131) hx hb dX5_readRow_117 rfl (fun c => ?_) (fun c => ?_)
        · replace h := h.1 c
          refine lv_iconst hx hb dX5_readRow_131 zc_i0 ?_
          exact zretz X hr hlk hW rfl h dX5_readRow_132
        · replace h := h.2 c
          refine lv_aload_n hx hb dX5_readRow_120 rfl (lv_at hl 0 rfl) ?_
          refine zcalli (zrunV (As := []) (rest := []) X hml hl hW h0.1 rfl zk_Reader_146 (c_Reader_isSign h0 h) rfl ⟨Nat.le_of_ble_eq_true rfl, Nat.le_of_ble_eq_true rfl⟩ ⟨Nat.le_refl 0, Nat.le_refl 0⟩ rfl (Nat.le_of_ble_eq_true rfl) dX5_readRow_121) hW (fun zr18 zm17 H locs h hW => ?_)
          refine lv_if_eq (tgt := 131) hx hb dX5_readRow_124 rfl (fun c => ?_) (fun c => ?_)
          · replace h := h.1 c
            refine lv_iconst hx hb dX5_readRow_131 zc_i0 ?_
            exact zretz X hr hlk hW rfl h dX5_readRow_132
          · replace h := h.2 c
            refine lv_iconst hx hb dX5_readRow_127 zc_i1 ?_
            refine lv_goto (tgt := 132) hx hb dX5_readRow_128 rfl ?_
            exact zretz X hr hlk hW rfl h dX5_readRow_132
      · replace h := h.2 c
        refine lv_aload_n hx hb dX5_readRow_106 rfl (lv_at hl 0 rfl) ?_
        refine lv_iconst hx hb dX5_readRow_107 zc_i5 ?_
        refine lv_aload_n hx hb dX5_readRow_108 rfl (lv_at hl 0 rfl) ?_
        refine zg_Reader_start X hW h0 zu_118 dX5_readRow_109 ?_
        refine zcalli (zrunV (As := [.int 5, .int (M k 8)]) (rest := []) X hml hl hW h0.1 rfl zk_Reader_73 (c_Reader_refuse h0 h) rfl ⟨Nat.le_of_ble_eq_true rfl, Nat.le_of_ble_eq_true rfl⟩ ⟨Nat.le_refl 0, Nat.le_refl 0⟩ rfl (Nat.le_of_ble_eq_true rfl) dX5_readRow_112) hW (fun zr20 zm19 H locs h hW => ?_)
        exact zretz X hr hlk hW (zbo_n h.1) h.2 dX5_readRow_115
  unfold wp_Reader_readRow at h
  have zMain : ∀ (H : Heap) (locs : List Loc) (ls : Array Slot), zWo w s.heap M H locs → lv_has ls 3 [(0, .ref (zad w k))] → W p l e (zRm 7 150) s m ([.ref (zad w k)] : List Value).toArray below meth c H locs 0 0 (MQ below (va_Qi post (zB w) (zA w)) ([.ref (zad w k)] : List Value).toArray s 0 0 (zA w)) (F0 m 0 ls []) := by
    intro H locs ls hW hl
    refine lv_aload_n hx hb dX5_readRow_0 rfl (lv_at hl 0 rfl) ?_
    refine lv_iconst hx hb dX5_readRow_1 zc_i0 ?_
    refine lv_iconst hx hb dX5_readRow_2 zc_i2 ?_
    refine zcalli (zrunV (As := [.int 0, .int 2]) (rest := []) X hml hl hW h0.1 rfl zk_Reader_131 (c_Reader_readNumber h0 h) rfl ⟨Nat.le_of_ble_eq_true rfl, Nat.le_of_ble_eq_true rfl⟩ ⟨Nat.le_refl 0, Nat.le_refl 0⟩ rfl (Nat.le_of_ble_eq_true rfl) dX5_readRow_3) hW (fun zr2 zm1 H locs h hW => ?_)
    refine lv_if_ne (tgt := 11) hx hb dX5_readRow_6 rfl (fun c => ?_) (fun c => ?_)
    · replace h := h.1 c
      refine lv_aload_n hx hb dX5_readRow_11 rfl (lv_at hl 0 rfl) ?_
      refine zg_Reader_draft X hW h0 zu_104 dX5_readRow_12 ?_
      refine zg_Told_row X hW h0.2.2 zu_62 dX5_readRow_15 ?_
      refine lv_iconst hx hb dX5_readRow_18 zc_i0 ?_
      refine lv_aload_n hx hb dX5_readRow_19 rfl (lv_at hl 0 rfl) ?_
      refine zg_Reader_value X hW h0 zu_119 dX5_readRow_20 ?_
      obtain ⟨g, h⟩ := h
      refine ziast X hW h0.2.2.2.1 g dX5_readRow_23 (fun H locs zm3 ezm3 hW => ?_)
      replace h := h zm3 ezm3
      refine lv_aload_n hx hb dX5_readRow_24 rfl (lv_at hl 0 rfl) ?_
      refine zcalli (zrunV (As := []) (rest := []) X hml hl hW h0.1 rfl zk_Reader_51 (c_Reader_readToken h0 h) rfl ⟨Nat.le_of_ble_eq_true rfl, Nat.le_of_ble_eq_true rfl⟩ ⟨Nat.le_refl 0, Nat.le_refl 0⟩ rfl (Nat.le_of_ble_eq_true rfl) dX5_readRow_25) hW (fun zr5 zm4 H locs h hW => ?_)
      refine lv_istore_n (lv' := [(1, .int zr5), (0, .ref (zad w k))]) hx hb dX5_readRow_28 rfl hl (Nat.le_of_ble_eq_true rfl) rfl (fun ls hl => ?_)
      refine lv_iconst hx hb dX5_readRow_29 zc_i1 ?_
      refine lv_istore_n (lv' := [(2, .int 1), (1, .int zr5), (0, .ref (zad w k))]) hx hb dX5_readRow_30 rfl hl (Nat.le_of_ble_eq_true rfl) rfl (fun ls hl => ?_)
      obtain ⟨n, h⟩ := h
      refine zL_31  _ (fun zx14 zm13 H locs ls hW hl h => ?_) n zr5 1 zm4 H locs ls hW (lv_sub hl [2, 1, 0] rfl) h
      · skip
        exact zJ_94 zx14 zm13 H locs ls hW (lv_sub hl [0, 1] rfl) h
    · replace h := h.2 c
      refine lv_iconst hx hb dX5_readRow_9 zc_i0 ?_
      exact zretz X hr hlk hW rfl h dX5_readRow_10
  exact zMain s.heap [] ls hW hl
def wpB_Reader_readHand_35 (k : Nat)   (Q : Int32 → zMem → Prop) (J : Int32 → zMem → Prop) (x_1 : Int32) (M : zMem) : Prop :=
  ((M (k + 1) 0) ≤ x_1 → ∀ zm4 : zMem, zm4 = zup M (k + 1) 1 ((M (k + 1) 1) + 1) → wp_Reader_readSign k zm4 (fun zr6 zm5 => zbo zr6 ∧ Q zr6 zm5)) ∧ (¬ (M (k + 1) 0) ≤ x_1 → wp_Reader_readNumber k 1 9 M (fun zr8 zm7 => (¬ zr8 = 0 → vp_in (((zm7 (k + 1) 1) * 8) + x_1) 40 ∧ ∀ zm9 : zMem, zm9 = zup zm7 (k + 4) (ix (((zm7 (k + 1) 1) * 8) + x_1)) (zm7 k 9) → ∀ zx10 : Int32, zx10 = x_1 + 1 → J zx10 zm9) ∧ (zr8 = 0 → Q 0 zm7)))
def wp_Reader_readHand (k : Nat) (M : zMem) (Q : Int32 → zMem → Prop) : Prop :=
  (¬ (M k 13) = 0 → wp_Reader_refuse k 5 (M k 8) M (fun zr2 zm1 => zbo zr2 ∧ Q zr2 zm1)) ∧ ((M k 13) = 0 → ((M (k + 1) 1) < 5 → ∀ zm3 : zMem, zm3 = zup M k 12 1 → ∃ n : Nat, zlp1 (wpB_Reader_readHand_35 k   Q) n 0 zm3) ∧ (¬ (M (k + 1) 1) < 5 → wp_Reader_refuse k 5 (M k 8) M (fun zr12 zm11 => zbo zr12 ∧ Q zr12 zm11)))
set_option maxHeartbeats 4000000 in
set_option maxRecDepth 20000 in
theorem c_Reader_readHand {l : Launch} {w : zWd} {k : Nat} {M : zMem} {post : Int32 → zMem → Prop} (h0 : zI_Reader w k) (h : wp_Reader_readHand k M post) : zMi l ⟨"HandToHand$Reader", "readHand", "()Z"⟩ prog_7_method_11_code 2 (Option.some .boolean) 7 150 w [.ref (zad w k)] M post := by
  refine zMet (by decide) (Nat.le_of_ble_eq_true rfl) ?_
  intro p e s m below meth c X hr hlk hml hW ls hl
  have hx := X.1
  have hb := X.2.1
  have hl : lv_has ls 2 [(0, .ref (zad w k))] := hl
  have zL_35 :  ∀ (n : Nat) (x_1 : Int32) (M : zMem) (H : Heap) (locs : List Loc) (ls : Array Slot), zWo w s.heap M H locs → lv_has ls 2 [(0, .ref (zad w k)), (1, .int x_1)] → zlp1 (wpB_Reader_readHand_35 k   post) n x_1 M → W p l e (zRm 7 150) s m ([.ref (zad w k)] : List Value).toArray below meth c H locs 0 0 (MQ below (va_Qi post (zB w) (zA w)) ([.ref (zad w k)] : List Value).toArray s 0 0 (zA w)) (F0 m 35 ls []) := by
    intro n
    induction n with
    | zero => intro x_1 M H locs ls hW hl h; exact h.elim
    | succ n zJ =>
      intro x_1 M H locs ls hW hl h
      have h : wpB_Reader_readHand_35 k   post (zlp1 (wpB_Reader_readHand_35 k   post) n) x_1 M := h
      unfold wpB_Reader_readHand_35 at h
      refine lv_iload_n hx hb dX5_readHand_35 rfl (lv_at hl 1 rfl) ?_
      refine lv_aload_n hx hb dX5_readHand_36 rfl (lv_at hl 0 rfl) ?_
      refine zg_Reader_draft X hW h0 zu_104 dX5_readHand_37 ?_
      refine zg_Told_pieces X hW h0.2.2 zu_34 dX5_readHand_40 ?_
      refine lv_icmp_ge (tgt := 88) hx hb dX5_readHand_43 rfl (fun c => ?_) (fun c => ?_)
      · replace h := h.1 c
        refine lv_aload_n hx hb dX5_readHand_88 rfl (lv_at hl 0 rfl) ?_
        refine zg_Reader_draft X hW h0 zu_104 dX5_readHand_89 ?_
        refine lv_dup hx hb dX5_readHand_92 rfl ?_
        refine zg_Told_hands X hW h0.2.2 zu_39 dX5_readHand_93 ?_
        refine lv_iconst hx hb dX5_readHand_96 zc_i1 ?_
        refine lv_iadd hx hb dX5_readHand_97 ?_
        refine zp_Told_hands X hW h0.2.2 zu_39 dX5_readHand_98 (fun H locs zm4 ezm4 hW => ?_)
        replace h := h zm4 ezm4
        refine lv_aload_n hx hb dX5_readHand_101 rfl (lv_at hl 0 rfl) ?_
        refine zcalli (zrunV (As := []) (rest := []) X hml hl hW h0.1 rfl zk_Reader_125 (c_Reader_readSign h0 h) rfl ⟨Nat.le_of_ble_eq_true rfl, Nat.le_of_ble_eq_true rfl⟩ ⟨Nat.le_refl 0, Nat.le_refl 0⟩ rfl (Nat.le_of_ble_eq_true rfl) dX5_readHand_102) hW (fun zr6 zm5 H locs h hW => ?_)
        exact zretz X hr hlk hW (zbo_n h.1) h.2 dX5_readHand_105
      · replace h := h.2 c
        refine lv_aload_n hx hb dX5_readHand_46 rfl (lv_at hl 0 rfl) ?_
        refine lv_iconst hx hb dX5_readHand_47 zc_i1 ?_
        refine lv_bipush hx hb dX5_readHand_48 zc_b9 ?_
        refine zcalli (zrunV (As := [.int 1, .int 9]) (rest := []) X hml hl hW h0.1 rfl zk_Reader_131 (c_Reader_readNumber h0 h) rfl ⟨Nat.le_of_ble_eq_true rfl, Nat.le_of_ble_eq_true rfl⟩ ⟨Nat.le_refl 0, Nat.le_refl 0⟩ rfl (Nat.le_of_ble_eq_true rfl) dX5_readHand_50) hW (fun zr8 zm7 H locs h hW => ?_)
        refine lv_if_ne (tgt := 58) hx hb dX5_readHand_53 rfl (fun c => ?_) (fun c => ?_)
        · replace h := h.1 c
          refine lv_aload_n hx hb dX5_readHand_58 rfl (lv_at hl 0 rfl) ?_
          refine zg_Reader_draft X hW h0 zu_104 dX5_readHand_59 ?_
          refine zg_Told_paces X hW h0.2.2 zu_67 dX5_readHand_62 ?_
          refine lv_aload_n hx hb dX5_readHand_65 rfl (lv_at hl 0 rfl) ?_
          refine zg_Reader_draft X hW h0 zu_104 dX5_readHand_66 ?_
          refine zg_Told_hands X hW h0.2.2 zu_39 dX5_readHand_69 ?_
          refine lv_bipush hx hb dX5_readHand_72 zc_b8 ?_
          refine lv_imul hx hb dX5_readHand_74 ?_
          refine lv_iload_n hx hb dX5_readHand_75 rfl (lv_at hl 1 rfl) ?_
          refine lv_iadd hx hb dX5_readHand_76 ?_
          refine lv_aload_n hx hb dX5_readHand_77 rfl (lv_at hl 0 rfl) ?_
          refine zg_Reader_value X hW h0 zu_119 dX5_readHand_78 ?_
          obtain ⟨g, h⟩ := h
          refine ziast X hW h0.2.2.2.2.2.1 g dX5_readHand_81 (fun H locs zm9 ezm9 hW => ?_)
          replace h := h zm9 ezm9
          obtain ⟨zx10, ezx10⟩ : ∃ y : Int32, y = x_1 + 1 := ⟨_, rfl⟩
          replace h := h zx10 ezx10
          refine lv_iinc (v := zx10) (lv' := [(1, .int zx10), (0, .ref (zad w k))]) hx hb dX5_readHand_82 hl (k := 1) rfl (by rw [ezx10, zc_i1]) (Nat.le_of_ble_eq_true rfl) rfl (fun ls hl => ?_)
          refine lv_goto (tgt := 35) hx hb dX5_readHand_85 rfl ?_
          exact zJ zx10 zm9 H locs ls hW (lv_sub hl [1, 0] rfl) h
        · replace h := h.2 c
          refine lv_iconst hx hb dX5_readHand_56 zc_i0 ?_
          exact zretz X hr hlk hW rfl h dX5_readHand_57
  unfold wp_Reader_readHand at h
  have zMain : ∀ (H : Heap) (locs : List Loc) (ls : Array Slot), zWo w s.heap M H locs → lv_has ls 2 [(0, .ref (zad w k))] → W p l e (zRm 7 150) s m ([.ref (zad w k)] : List Value).toArray below meth c H locs 0 0 (MQ below (va_Qi post (zB w) (zA w)) ([.ref (zad w k)] : List Value).toArray s 0 0 (zA w)) (F0 m 0 ls []) := by
    intro H locs ls hW hl
    refine lv_aload_n hx hb dX5_readHand_0 rfl (lv_at hl 0 rfl) ?_
    refine zg_Reader_handsClosed X hW h0 zu_123 dX5_readHand_1 ?_
    refine lv_if_ne (tgt := 18) hx hb dX5_readHand_4 rfl (fun c => ?_) (fun c => ?_)
    · replace h := h.1 c
      refine lv_aload_n hx hb dX5_readHand_18 rfl (lv_at hl 0 rfl) ?_
      refine lv_iconst hx hb dX5_readHand_19 zc_i5 ?_
      refine lv_aload_n hx hb dX5_readHand_20 rfl (lv_at hl 0 rfl) ?_
      refine zg_Reader_start X hW h0 zu_118 dX5_readHand_21 ?_
      refine zcalli (zrunV (As := [.int 5, .int (M k 8)]) (rest := []) X hml hl hW h0.1 rfl zk_Reader_73 (c_Reader_refuse h0 h) rfl ⟨Nat.le_of_ble_eq_true rfl, Nat.le_of_ble_eq_true rfl⟩ ⟨Nat.le_refl 0, Nat.le_refl 0⟩ rfl (Nat.le_of_ble_eq_true rfl) dX5_readHand_24) hW (fun zr2 zm1 H locs h hW => ?_)
      exact zretz X hr hlk hW (zbo_n h.1) h.2 dX5_readHand_27
    · replace h := h.2 c
      refine lv_aload_n hx hb dX5_readHand_7 rfl (lv_at hl 0 rfl) ?_
      refine zg_Reader_draft X hW h0 zu_104 dX5_readHand_8 ?_
      refine zg_Told_hands X hW h0.2.2 zu_39 dX5_readHand_11 ?_
      refine lv_iconst hx hb dX5_readHand_14 zc_i5 ?_
      refine lv_icmp_lt (tgt := 28) hx hb dX5_readHand_15 rfl (fun c => ?_) (fun c => ?_)
      · replace h := h.1 c
        refine lv_aload_n hx hb dX5_readHand_28 rfl (lv_at hl 0 rfl) ?_
        refine lv_iconst hx hb dX5_readHand_29 zc_i1 ?_
        refine zp_Reader_piecesClosed X hW h0 zbo_1 zu_122 dX5_readHand_30 (fun H locs zm3 ezm3 hW => ?_)
        replace h := h zm3 ezm3
        refine lv_iconst hx hb dX5_readHand_33 zc_i0 ?_
        refine lv_istore_n (lv' := [(1, .int 0), (0, .ref (zad w k))]) hx hb dX5_readHand_34 rfl hl (Nat.le_of_ble_eq_true rfl) rfl (fun ls hl => ?_)
        obtain ⟨n, h⟩ := h
        refine zL_35   n 0 zm3 H locs ls hW (lv_sub hl [1, 0] rfl) h
      · replace h := h.2 c
        refine lv_aload_n hx hb dX5_readHand_18 rfl (lv_at hl 0 rfl) ?_
        refine lv_iconst hx hb dX5_readHand_19 zc_i5 ?_
        refine lv_aload_n hx hb dX5_readHand_20 rfl (lv_at hl 0 rfl) ?_
        refine zg_Reader_start X hW h0 zu_118 dX5_readHand_21 ?_
        refine zcalli (zrunV (As := [.int 5, .int (M k 8)]) (rest := []) X hml hl hW h0.1 rfl zk_Reader_73 (c_Reader_refuse h0 h) rfl ⟨Nat.le_of_ble_eq_true rfl, Nat.le_of_ble_eq_true rfl⟩ ⟨Nat.le_refl 0, Nat.le_refl 0⟩ rfl (Nat.le_of_ble_eq_true rfl) dX5_readHand_24) hW (fun zr12 zm11 H locs h hW => ?_)
        exact zretz X hr hlk hW (zbo_n h.1) h.2 dX5_readHand_27
  exact zMain s.heap [] ls hW hl
def wp_Reader_readWalk (k : Nat) (M : zMem) (Q : Int32 → zMem → Prop) : Prop :=
  wp_Reader_readNumber k 0 5 M (fun zr2 zm1 => (¬ zr2 = 0 → ∀ zm3 : zMem, zm3 = zup zm1 (k + 1) 2 (zm1 k 9) → wp_Reader_readSign k zm3 (fun zr5 zm4 => zbo zr5 ∧ Q zr5 zm4)) ∧ (zr2 = 0 → Q 0 zm1))
set_option maxHeartbeats 4000000 in
set_option maxRecDepth 20000 in
theorem c_Reader_readWalk {l : Launch} {w : zWd} {k : Nat} {M : zMem} {post : Int32 → zMem → Prop} (h0 : zI_Reader w k) (h : wp_Reader_readWalk k M post) : zMi l ⟨"HandToHand$Reader", "readWalk", "()Z"⟩ prog_7_method_12_code 1 (Option.some .boolean) 7 150 w [.ref (zad w k)] M post := by
  refine zMet (by decide) (Nat.le_of_ble_eq_true rfl) ?_
  intro p e s m below meth c X hr hlk hml hW ls hl
  have hx := X.1
  have hb := X.2.1
  have hl : lv_has ls 1 [(0, .ref (zad w k))] := hl
  unfold wp_Reader_readWalk at h
  have zMain : ∀ (H : Heap) (locs : List Loc) (ls : Array Slot), zWo w s.heap M H locs → lv_has ls 1 [(0, .ref (zad w k))] → W p l e (zRm 7 150) s m ([.ref (zad w k)] : List Value).toArray below meth c H locs 0 0 (MQ below (va_Qi post (zB w) (zA w)) ([.ref (zad w k)] : List Value).toArray s 0 0 (zA w)) (F0 m 0 ls []) := by
    intro H locs ls hW hl
    refine lv_aload_n hx hb dX5_readWalk_0 rfl (lv_at hl 0 rfl) ?_
    refine lv_iconst hx hb dX5_readWalk_1 zc_i0 ?_
    refine lv_iconst hx hb dX5_readWalk_2 zc_i5 ?_
    refine zcalli (zrunV (As := [.int 0, .int 5]) (rest := []) X hml hl hW h0.1 rfl zk_Reader_131 (c_Reader_readNumber h0 h) rfl ⟨Nat.le_of_ble_eq_true rfl, Nat.le_of_ble_eq_true rfl⟩ ⟨Nat.le_refl 0, Nat.le_refl 0⟩ rfl (Nat.le_of_ble_eq_true rfl) dX5_readWalk_3) hW (fun zr2 zm1 H locs h hW => ?_)
    refine lv_if_ne (tgt := 11) hx hb dX5_readWalk_6 rfl (fun c => ?_) (fun c => ?_)
    · replace h := h.1 c
      refine lv_aload_n hx hb dX5_readWalk_11 rfl (lv_at hl 0 rfl) ?_
      refine zg_Reader_draft X hW h0 zu_104 dX5_readWalk_12 ?_
      refine lv_aload_n hx hb dX5_readWalk_15 rfl (lv_at hl 0 rfl) ?_
      refine zg_Reader_value X hW h0 zu_119 dX5_readWalk_16 ?_
      refine zp_Told_walk X hW h0.2.2 zu_45 dX5_readWalk_19 (fun H locs zm3 ezm3 hW => ?_)
      replace h := h zm3 ezm3
      refine lv_aload_n hx hb dX5_readWalk_22 rfl (lv_at hl 0 rfl) ?_
      refine zcalli (zrunV (As := []) (rest := []) X hml hl hW h0.1 rfl zk_Reader_125 (c_Reader_readSign h0 h) rfl ⟨Nat.le_of_ble_eq_true rfl, Nat.le_of_ble_eq_true rfl⟩ ⟨Nat.le_refl 0, Nat.le_refl 0⟩ rfl (Nat.le_of_ble_eq_true rfl) dX5_readWalk_23) hW (fun zr5 zm4 H locs h hW => ?_)
      exact zretz X hr hlk hW (zbo_n h.1) h.2 dX5_readWalk_26
    · replace h := h.2 c
      refine lv_iconst hx hb dX5_readWalk_9 zc_i0 ?_
      exact zretz X hr hlk hW rfl h dX5_readWalk_10
  exact zMain s.heap [] ls hW hl
def wp_Reader_readLearn (k : Nat) (M : zMem) (Q : Int32 → zMem → Prop) : Prop :=
  wp_Reader_readNumber k 0 99 M (fun zr2 zm1 => (¬ zr2 = 0 → ∀ zm3 : zMem, zm3 = zup zm1 (k + 1) 3 (zm1 k 9) → wp_Reader_readSign k zm3 (fun zr5 zm4 => zbo zr5 ∧ Q zr5 zm4)) ∧ (zr2 = 0 → Q 0 zm1))
set_option maxHeartbeats 4000000 in
set_option maxRecDepth 20000 in
theorem c_Reader_readLearn {l : Launch} {w : zWd} {k : Nat} {M : zMem} {post : Int32 → zMem → Prop} (h0 : zI_Reader w k) (h : wp_Reader_readLearn k M post) : zMi l ⟨"HandToHand$Reader", "readLearn", "()Z"⟩ prog_7_method_13_code 1 (Option.some .boolean) 7 150 w [.ref (zad w k)] M post := by
  refine zMet (by decide) (Nat.le_of_ble_eq_true rfl) ?_
  intro p e s m below meth c X hr hlk hml hW ls hl
  have hx := X.1
  have hb := X.2.1
  have hl : lv_has ls 1 [(0, .ref (zad w k))] := hl
  unfold wp_Reader_readLearn at h
  have zMain : ∀ (H : Heap) (locs : List Loc) (ls : Array Slot), zWo w s.heap M H locs → lv_has ls 1 [(0, .ref (zad w k))] → W p l e (zRm 7 150) s m ([.ref (zad w k)] : List Value).toArray below meth c H locs 0 0 (MQ below (va_Qi post (zB w) (zA w)) ([.ref (zad w k)] : List Value).toArray s 0 0 (zA w)) (F0 m 0 ls []) := by
    intro H locs ls hW hl
    refine lv_aload_n hx hb dX5_readLearn_0 rfl (lv_at hl 0 rfl) ?_
    refine lv_iconst hx hb dX5_readLearn_1 zc_i0 ?_
    refine lv_bipush hx hb dX5_readLearn_2 zc_b99 ?_
    refine zcalli (zrunV (As := [.int 0, .int 99]) (rest := []) X hml hl hW h0.1 rfl zk_Reader_131 (c_Reader_readNumber h0 h) rfl ⟨Nat.le_of_ble_eq_true rfl, Nat.le_of_ble_eq_true rfl⟩ ⟨Nat.le_refl 0, Nat.le_refl 0⟩ rfl (Nat.le_of_ble_eq_true rfl) dX5_readLearn_4) hW (fun zr2 zm1 H locs h hW => ?_)
    refine lv_if_ne (tgt := 12) hx hb dX5_readLearn_7 rfl (fun c => ?_) (fun c => ?_)
    · replace h := h.1 c
      refine lv_aload_n hx hb dX5_readLearn_12 rfl (lv_at hl 0 rfl) ?_
      refine zg_Reader_draft X hW h0 zu_104 dX5_readLearn_13 ?_
      refine lv_aload_n hx hb dX5_readLearn_16 rfl (lv_at hl 0 rfl) ?_
      refine zg_Reader_value X hW h0 zu_119 dX5_readLearn_17 ?_
      refine zp_Told_learn X hW h0.2.2 zu_48 dX5_readLearn_20 (fun H locs zm3 ezm3 hW => ?_)
      replace h := h zm3 ezm3
      refine lv_aload_n hx hb dX5_readLearn_23 rfl (lv_at hl 0 rfl) ?_
      refine zcalli (zrunV (As := []) (rest := []) X hml hl hW h0.1 rfl zk_Reader_125 (c_Reader_readSign h0 h) rfl ⟨Nat.le_of_ble_eq_true rfl, Nat.le_of_ble_eq_true rfl⟩ ⟨Nat.le_refl 0, Nat.le_refl 0⟩ rfl (Nat.le_of_ble_eq_true rfl) dX5_readLearn_24) hW (fun zr5 zm4 H locs h hW => ?_)
      exact zretz X hr hlk hW (zbo_n h.1) h.2 dX5_readLearn_27
    · replace h := h.2 c
      refine lv_iconst hx hb dX5_readLearn_10 zc_i0 ?_
      exact zretz X hr hlk hW rfl h dX5_readLearn_11
  exact zMain s.heap [] ls hW hl
def wpB_Reader_readEnds_22 (k : Nat) (a1 : Int32)   (Q : Int32 → zMem → Prop) (J : Int32 → Int32 → zMem → Prop) (x_2 : Int32) (x_3 : Int32) (M : zMem) : Prop :=
  (((M (k + 1) 1) - 1) ≤ x_3 → wp_Reader_readSign k M (fun zr5 zm4 => zbo zr5 ∧ Q zr5 zm4)) ∧ (¬ ((M (k + 1) 1) - 1) ≤ x_3 → wp_Reader_readNumber k x_2 (M (k + 1) 0) M (fun zr7 zm6 => (¬ zr7 = 0 → ∀ zx8 : Int32, zx8 = zm6 k 9 → vp_in x_3 5 ∧ ∀ zm9 : zMem, zm9 = zup zm6 (k + 5) (ix x_3) (zm6 k 9) → ∀ zx10 : Int32, zx10 = x_3 + 1 → J zx8 zx10 zm9) ∧ (zr7 = 0 → Q 0 zm6)))
def wp_Reader_readEnds (k : Nat) (a1 : Int32) (M : zMem) (Q : Int32 → zMem → Prop) : Prop :=
  ∀ zm1 : zMem, zm1 = zup M k 12 1 → ∀ zm2 : zMem, zm2 = zup zm1 k 13 1 → ∀ zm3 : zMem, zm3 = zup zm2 (k + 1) 4 a1 → ∃ n : Nat, zlp2 (wpB_Reader_readEnds_22 k a1   Q) n 1 0 zm3
set_option maxHeartbeats 4000000 in
set_option maxRecDepth 20000 in
theorem c_Reader_readEnds {l : Launch} {w : zWd} {k : Nat} {a1 : Int32} {M : zMem} {post : Int32 → zMem → Prop} (h0 : zI_Reader w k) (h : wp_Reader_readEnds k a1 M post) : zMi l ⟨"HandToHand$Reader", "readEnds", "(I)Z"⟩ prog_7_method_14_code 4 (Option.some .boolean) 7 150 w [.ref (zad w k), .int a1] M post := by
  refine zMet (by decide) (Nat.le_of_ble_eq_true rfl) ?_
  intro p e s m below meth c X hr hlk hml hW ls hl
  have hx := X.1
  have hb := X.2.1
  have hl : lv_has ls 4 [(0, .ref (zad w k)), (1, .int a1)] := hl
  have zL_22 :  ∀ (n : Nat) (x_2 : Int32) (x_3 : Int32) (M : zMem) (H : Heap) (locs : List Loc) (ls : Array Slot), zWo w s.heap M H locs → lv_has ls 4 [(0, .ref (zad w k)), (2, .int x_2), (3, .int x_3)] → zlp2 (wpB_Reader_readEnds_22 k a1   post) n x_2 x_3 M → W p l e (zRm 7 150) s m ([.ref (zad w k), .int a1] : List Value).toArray below meth c H locs 0 0 (MQ below (va_Qi post (zB w) (zA w)) ([.ref (zad w k), .int a1] : List Value).toArray s 0 0 (zA w)) (F0 m 22 ls []) := by
    intro n
    induction n with
    | zero => intro x_2 x_3 M H locs ls hW hl h; exact h.elim
    | succ n zJ =>
      intro x_2 x_3 M H locs ls hW hl h
      have h : wpB_Reader_readEnds_22 k a1   post (zlp2 (wpB_Reader_readEnds_22 k a1   post) n) x_2 x_3 M := h
      unfold wpB_Reader_readEnds_22 at h
      refine lv_iload_n hx hb dX5_readEnds_22 rfl (lv_at hl 2 rfl) ?_
      refine lv_aload_n hx hb dX5_readEnds_23 rfl (lv_at hl 0 rfl) ?_
      refine zg_Reader_draft X hW h0 zu_104 dX5_readEnds_24 ?_
      refine zg_Told_hands X hW h0.2.2 zu_39 dX5_readEnds_27 ?_
      refine lv_iconst hx hb dX5_readEnds_30 zc_i1 ?_
      refine lv_isub hx hb dX5_readEnds_31 ?_
      refine lv_icmp_ge (tgt := 76) hx hb dX5_readEnds_32 rfl (fun c => ?_) (fun c => ?_)
      · replace h := h.1 c
        refine lv_aload_n hx hb dX5_readEnds_76 rfl (lv_at hl 0 rfl) ?_
        refine zcalli (zrunV (As := []) (rest := []) X hml hl hW h0.1 rfl zk_Reader_125 (c_Reader_readSign h0 h) rfl ⟨Nat.le_of_ble_eq_true rfl, Nat.le_of_ble_eq_true rfl⟩ ⟨Nat.le_refl 0, Nat.le_refl 0⟩ rfl (Nat.le_of_ble_eq_true rfl) dX5_readEnds_77) hW (fun zr5 zm4 H locs h hW => ?_)
        exact zretz X hr hlk hW (zbo_n h.1) h.2 dX5_readEnds_80
      · replace h := h.2 c
        refine lv_aload_n hx hb dX5_readEnds_35 rfl (lv_at hl 0 rfl) ?_
        refine lv_iload_n hx hb dX5_readEnds_36 rfl (lv_at hl 1 rfl) ?_
        refine lv_aload_n hx hb dX5_readEnds_37 rfl (lv_at hl 0 rfl) ?_
        refine zg_Reader_draft X hW h0 zu_104 dX5_readEnds_38 ?_
        refine zg_Told_pieces X hW h0.2.2 zu_34 dX5_readEnds_41 ?_
        refine zcalli (zrunV (As := [.int x_2, .int (M (k + 1) 0)]) (rest := []) X hml hl hW h0.1 rfl zk_Reader_131 (c_Reader_readNumber h0 h) rfl ⟨Nat.le_of_ble_eq_true rfl, Nat.le_of_ble_eq_true rfl⟩ ⟨Nat.le_refl 0, Nat.le_refl 0⟩ rfl (Nat.le_of_ble_eq_true rfl) dX5_readEnds_44) hW (fun zr7 zm6 H locs h hW => ?_)
        refine lv_if_ne (tgt := 52) hx hb dX5_readEnds_47 rfl (fun c => ?_) (fun c => ?_)
        · replace h := h.1 c
          refine lv_aload_n hx hb dX5_readEnds_52 rfl (lv_at hl 0 rfl) ?_
          refine zg_Reader_value X hW h0 zu_119 dX5_readEnds_53 ?_
          refine lv_topi (fun zx8 ezx8 => ?_)
          replace h := h zx8 ezx8
          refine lv_istore_n (lv' := [(2, .int zx8), (0, .ref (zad w k)), (3, .int x_3)]) hx hb dX5_readEnds_56 rfl hl (Nat.le_of_ble_eq_true rfl) rfl (fun ls hl => ?_)
          refine lv_aload_n hx hb dX5_readEnds_57 rfl (lv_at hl 1 rfl) ?_
          refine zg_Reader_draft X hW h0 zu_104 dX5_readEnds_58 ?_
          refine zg_Told_ends X hW h0.2.2 zu_71 dX5_readEnds_61 ?_
          refine lv_iload_n hx hb dX5_readEnds_64 rfl (lv_at hl 2 rfl) ?_
          refine lv_aload_n hx hb dX5_readEnds_65 rfl (lv_at hl 1 rfl) ?_
          refine zg_Reader_value X hW h0 zu_119 dX5_readEnds_66 ?_
          obtain ⟨g, h⟩ := h
          refine ziast X hW h0.2.2.2.2.2.2 g dX5_readEnds_69 (fun H locs zm9 ezm9 hW => ?_)
          replace h := h zm9 ezm9
          obtain ⟨zx10, ezx10⟩ : ∃ y : Int32, y = x_3 + 1 := ⟨_, rfl⟩
          replace h := h zx10 ezx10
          refine lv_iinc (v := zx10) (lv' := [(3, .int zx10), (2, .int zx8), (0, .ref (zad w k))]) hx hb dX5_readEnds_70 hl (k := 2) rfl (by rw [ezx10, zc_i1]) (Nat.le_of_ble_eq_true rfl) rfl (fun ls hl => ?_)
          refine lv_goto (tgt := 22) hx hb dX5_readEnds_73 rfl ?_
          exact zJ zx8 zx10 zm9 H locs ls hW (lv_sub hl [2, 1, 0] rfl) h
        · replace h := h.2 c
          refine lv_iconst hx hb dX5_readEnds_50 zc_i0 ?_
          exact zretz X hr hlk hW rfl h dX5_readEnds_51
  unfold wp_Reader_readEnds at h
  have zMain : ∀ (H : Heap) (locs : List Loc) (ls : Array Slot), zWo w s.heap M H locs → lv_has ls 4 [(0, .ref (zad w k)), (1, .int a1)] → W p l e (zRm 7 150) s m ([.ref (zad w k), .int a1] : List Value).toArray below meth c H locs 0 0 (MQ below (va_Qi post (zB w) (zA w)) ([.ref (zad w k), .int a1] : List Value).toArray s 0 0 (zA w)) (F0 m 0 ls []) := by
    intro H locs ls hW hl
    refine lv_aload_n hx hb dX5_readEnds_0 rfl (lv_at hl 0 rfl) ?_
    refine lv_iconst hx hb dX5_readEnds_1 zc_i1 ?_
    refine zp_Reader_piecesClosed X hW h0 zbo_1 zu_122 dX5_readEnds_2 (fun H locs zm1 ezm1 hW => ?_)
    replace h := h zm1 ezm1
    refine lv_aload_n hx hb dX5_readEnds_5 rfl (lv_at hl 0 rfl) ?_
    refine lv_iconst hx hb dX5_readEnds_6 zc_i1 ?_
    refine zp_Reader_handsClosed X hW h0 zbo_1 zu_123 dX5_readEnds_7 (fun H locs zm2 ezm2 hW => ?_)
    replace h := h zm2 ezm2
    refine lv_aload_n hx hb dX5_readEnds_10 rfl (lv_at hl 0 rfl) ?_
    refine zg_Reader_draft X hW h0 zu_104 dX5_readEnds_11 ?_
    refine lv_iload_n hx hb dX5_readEnds_14 rfl (lv_at hl 1 rfl) ?_
    refine zp_Told_kind X hW h0.2.2 zu_51 dX5_readEnds_15 (fun H locs zm3 ezm3 hW => ?_)
    replace h := h zm3 ezm3
    refine lv_iconst hx hb dX5_readEnds_18 zc_i1 ?_
    refine lv_istore_n (lv' := [(2, .int 1), (0, .ref (zad w k)), (1, .int a1)]) hx hb dX5_readEnds_19 rfl hl (Nat.le_of_ble_eq_true rfl) rfl (fun ls hl => ?_)
    refine lv_iconst hx hb dX5_readEnds_20 zc_i0 ?_
    refine lv_istore_n (lv' := [(3, .int 0), (2, .int 1), (0, .ref (zad w k)), (1, .int a1)]) hx hb dX5_readEnds_21 rfl hl (Nat.le_of_ble_eq_true rfl) rfl (fun ls hl => ?_)
    obtain ⟨n, h⟩ := h
    refine zL_22   n 1 0 zm3 H locs ls hW (lv_sub hl [2, 1, 0] rfl) h
  exact zMain s.heap [] ls hW hl
def wp_Reader_readLine (k : Nat) (M : zMem) (Q : Int32 → zMem → Prop) : Prop :=
  ((M k 7) = 1 → ∀ zm1 : zMem, zm1 = zup M k 3 ((M k 3) + 1) → ∀ zx2 : Int32, zx2 = zm1 k 9 → (zx2 = 0 → wp_Reader_readPiece k zm1 (fun zr4 zm3 => zbo zr4 ∧ Q zr4 zm3)) ∧ (zx2 = 1 → wp_Reader_readWhole k zm1 (fun zr6 zm5 => zbo zr6 ∧ Q zr6 zm5)) ∧ (zx2 = 2 → wp_Reader_readSort k zm1 (fun zr8 zm7 => zbo zr8 ∧ Q zr8 zm7)) ∧ (zx2 = 3 → wp_Reader_readOnce k 3 zm1 (fun zr10 zm9 => (zr10 = 0 → Q 0 zm9) ∧ (¬ zr10 = 0 → wp_Reader_readRow k zm9 (fun zr12 zm11 => (zr12 = 0 → Q 0 zm11) ∧ (¬ zr12 = 0 → Q 1 zm11))))) ∧ (zx2 = 4 → wp_Reader_readHand k zm1 (fun zr14 zm13 => zbo zr14 ∧ Q zr14 zm13)) ∧ (zx2 = 5 → wp_Reader_readOnce k 5 zm1 (fun zr16 zm15 => (zr16 = 0 → Q 0 zm15) ∧ (¬ zr16 = 0 → wp_Reader_readWalk k zm15 (fun zr18 zm17 => (zr18 = 0 → Q 0 zm17) ∧ (¬ zr18 = 0 → Q 1 zm17))))) ∧ (zx2 = 6 → wp_Reader_readOnce k 6 zm1 (fun zr20 zm19 => (zr20 = 0 → Q 0 zm19) ∧ (¬ zr20 = 0 → wp_Reader_readLearn k zm19 (fun zr22 zm21 => (zr22 = 0 → Q 0 zm21) ∧ (¬ zr22 = 0 → Q 1 zm21))))) ∧ (zx2 = 7 → wp_Reader_readOnce k 7 zm1 (fun zr24 zm23 => (zr24 = 0 → Q 0 zm23) ∧ (¬ zr24 = 0 → wp_Reader_readSign k zm23 (fun zr26 zm25 => (zr26 = 0 → Q 0 zm25) ∧ (¬ zr26 = 0 → Q 1 zm25))))) ∧ (zx2 = 8 → wp_Reader_readOnce k 7 zm1 (fun zr28 zm27 => (zr28 = 0 → Q 0 zm27) ∧ (¬ zr28 = 0 → wp_Reader_readEnds k 1 zm27 (fun zr30 zm29 => (zr30 = 0 → Q 0 zm29) ∧ (¬ zr30 = 0 → Q 1 zm29))))) ∧ (zx2 = 9 → wp_Reader_readOnce k 7 zm1 (fun zr32 zm31 => (zr32 = 0 → Q 0 zm31) ∧ (¬ zr32 = 0 → wp_Reader_readEnds k 2 zm31 (fun zr34 zm33 => (zr34 = 0 → Q 0 zm33) ∧ (¬ zr34 = 0 → Q 1 zm33))))) ∧ (¬ zx2 = 0 → ¬ zx2 = 1 → ¬ zx2 = 2 → ¬ zx2 = 3 → ¬ zx2 = 4 → ¬ zx2 = 5 → ¬ zx2 = 6 → ¬ zx2 = 7 → ¬ zx2 = 8 → ¬ zx2 = 9 → wp_Reader_refuse k 1 (zm1 k 8) zm1 (fun zr36 zm35 => zbo zr36 ∧ Q zr36 zm35))) ∧ (¬ (M k 7) = 1 → wp_Reader_refuse k 2 (M k 8) M (fun zr38 zm37 => zbo zr38 ∧ Q zr38 zm37))
set_option maxHeartbeats 4000000 in
set_option maxRecDepth 20000 in
theorem c_Reader_readLine {l : Launch} {w : zWd} {k : Nat} {M : zMem} {post : Int32 → zMem → Prop} (h0 : zI_Reader w k) (h : wp_Reader_readLine k M post) : zMi l ⟨"HandToHand$Reader", "readLine", "()Z"⟩ prog_7_method_5_code 1 (Option.some .boolean) 8 173 w [.ref (zad w k)] M post := by
  refine zMet (by decide) (Nat.le_of_ble_eq_true rfl) ?_
  intro p e s m below meth c X hr hlk hml hW ls hl
  have hx := X.1
  have hb := X.2.1
  have hl : lv_has ls 1 [(0, .ref (zad w k))] := hl
  unfold wp_Reader_readLine at h
  have zMain : ∀ (H : Heap) (locs : List Loc) (ls : Array Slot), zWo w s.heap M H locs → lv_has ls 1 [(0, .ref (zad w k))] → W p l e (zRm 8 173) s m ([.ref (zad w k)] : List Value).toArray below meth c H locs 0 0 (MQ below (va_Qi post (zB w) (zA w)) ([.ref (zad w k)] : List Value).toArray s 0 0 (zA w)) (F0 m 0 ls []) := by
    intro H locs ls hW hl
    refine lv_aload_n hx hb dX5_readLine_0 rfl (lv_at hl 0 rfl) ?_
    refine zg_Reader_kind X hW h0 zu_117 dX5_readLine_1 ?_
    refine lv_iconst hx hb dX5_readLine_4 zc_i1 ?_
    refine lv_icmp_eq (tgt := 18) hx hb dX5_readLine_5 rfl (fun c => ?_) (fun c => ?_)
    · replace h := h.1 c
      refine lv_aload_n hx hb dX5_readLine_18 rfl (lv_at hl 0 rfl) ?_
      refine lv_dup hx hb dX5_readLine_19 rfl ?_
      refine zg_Reader_lines X hW h0 zu_110 dX5_readLine_20 ?_
      refine lv_iconst hx hb dX5_readLine_23 zc_i1 ?_
      refine lv_iadd hx hb dX5_readLine_24 ?_
      refine zp_Reader_lines X hW h0 zu_110 dX5_readLine_25 (fun H locs zm1 ezm1 hW => ?_)
      replace h := h zm1 ezm1
      refine lv_aload_n hx hb dX5_readLine_28 rfl (lv_at hl 0 rfl) ?_
      refine zg_Reader_value X hW h0 zu_119 dX5_readLine_29 ?_
      refine lv_topi (fun zx2 ezx2 => ?_)
      replace h := h zx2 ezx2
      by_cases c0 : zx2 = 0
      · replace h := h.1 c0
        refine lv_tableIn (off := 56) (tgt := 88) hx hb dX5_readLine_32 (by rw [c0]; decide) (by rw [c0]; decide) (by rw [c0]; rfl) rfl ?_
        refine lv_aload_n hx hb dX5_readLine_88 rfl (lv_at hl 0 rfl) ?_
        refine zcalli (zrunV (As := []) (rest := []) X hml hl hW h0.1 rfl zk_Reader_100 (c_Reader_readPiece h0 h) rfl ⟨Nat.le_of_ble_eq_true rfl, Nat.le_of_ble_eq_true rfl⟩ ⟨Nat.le_refl 0, Nat.le_refl 0⟩ rfl (Nat.le_of_ble_eq_true rfl) dX5_readLine_89) hW (fun zr4 zm3 H locs h hW => ?_)
        exact zretz X hr hlk hW (zbo_n h.1) h.2 dX5_readLine_92
      replace h := h.2
      by_cases c1 : zx2 = 1
      · replace h := h.1 c1
        refine lv_tableIn (off := 61) (tgt := 93) hx hb dX5_readLine_32 (by rw [c1]; decide) (by rw [c1]; decide) (by rw [c1]; rfl) rfl ?_
        refine lv_aload_n hx hb dX5_readLine_93 rfl (lv_at hl 0 rfl) ?_
        refine zcalli (zrunV (As := []) (rest := []) X hml hl hW h0.1 rfl zk_Reader_103 (c_Reader_readWhole h0 h) rfl ⟨Nat.le_of_ble_eq_true rfl, Nat.le_of_ble_eq_true rfl⟩ ⟨Nat.le_refl 0, Nat.le_refl 0⟩ rfl (Nat.le_of_ble_eq_true rfl) dX5_readLine_94) hW (fun zr6 zm5 H locs h hW => ?_)
        exact zretz X hr hlk hW (zbo_n h.1) h.2 dX5_readLine_97
      replace h := h.2
      by_cases c2 : zx2 = 2
      · replace h := h.1 c2
        refine lv_tableIn (off := 66) (tgt := 98) hx hb dX5_readLine_32 (by rw [c2]; decide) (by rw [c2]; decide) (by rw [c2]; rfl) rfl ?_
        refine lv_aload_n hx hb dX5_readLine_98 rfl (lv_at hl 0 rfl) ?_
        refine zcalli (zrunV (As := []) (rest := []) X hml hl hW h0.1 rfl zk_Reader_106 (c_Reader_readSort h0 h) rfl ⟨Nat.le_of_ble_eq_true rfl, Nat.le_of_ble_eq_true rfl⟩ ⟨Nat.le_refl 0, Nat.le_refl 0⟩ rfl (Nat.le_of_ble_eq_true rfl) dX5_readLine_99) hW (fun zr8 zm7 H locs h hW => ?_)
        exact zretz X hr hlk hW (zbo_n h.1) h.2 dX5_readLine_102
      replace h := h.2
      by_cases c3 : zx2 = 3
      · replace h := h.1 c3
        refine lv_tableIn (off := 76) (tgt := 108) hx hb dX5_readLine_32 (by rw [c3]; decide) (by rw [c3]; decide) (by rw [c3]; rfl) rfl ?_
        refine lv_aload_n hx hb dX5_readLine_108 rfl (lv_at hl 0 rfl) ?_
        refine lv_iconst hx hb dX5_readLine_109 zc_i3 ?_
        refine zcalli (zrunV (As := [.int 3]) (rest := []) X hml hl hW h0.1 rfl zk_Reader_112 (c_Reader_readOnce h0 h) rfl ⟨Nat.le_of_ble_eq_true rfl, Nat.le_of_ble_eq_true rfl⟩ ⟨Nat.le_refl 0, Nat.le_refl 0⟩ rfl (Nat.le_of_ble_eq_true rfl) dX5_readLine_110) hW (fun zr10 zm9 H locs h hW => ?_)
        refine lv_if_eq (tgt := 127) hx hb dX5_readLine_113 rfl (fun c => ?_) (fun c => ?_)
        · replace h := h.1 c
          refine lv_iconst hx hb dX5_readLine_127 zc_i0 ?_
          exact zretz X hr hlk hW rfl h dX5_readLine_128
        · replace h := h.2 c
          refine lv_aload_n hx hb dX5_readLine_116 rfl (lv_at hl 0 rfl) ?_
          refine zcalli (zrunV (As := []) (rest := []) X hml hl hW h0.1 rfl zk_Reader_116 (c_Reader_readRow h0 h) rfl ⟨Nat.le_of_ble_eq_true rfl, Nat.le_of_ble_eq_true rfl⟩ ⟨Nat.le_refl 0, Nat.le_refl 0⟩ rfl (Nat.le_of_ble_eq_true rfl) dX5_readLine_117) hW (fun zr12 zm11 H locs h hW => ?_)
          refine lv_if_eq (tgt := 127) hx hb dX5_readLine_120 rfl (fun c => ?_) (fun c => ?_)
          · replace h := h.1 c
            refine lv_iconst hx hb dX5_readLine_127 zc_i0 ?_
            exact zretz X hr hlk hW rfl h dX5_readLine_128
          · replace h := h.2 c
            refine lv_iconst hx hb dX5_readLine_123 zc_i1 ?_
            refine lv_goto (tgt := 128) hx hb dX5_readLine_124 rfl ?_
            exact zretz X hr hlk hW rfl h dX5_readLine_128
      replace h := h.2
      by_cases c4 : zx2 = 4
      · replace h := h.1 c4
        refine lv_tableIn (off := 71) (tgt := 103) hx hb dX5_readLine_32 (by rw [c4]; decide) (by rw [c4]; decide) (by rw [c4]; rfl) rfl ?_
        refine lv_aload_n hx hb dX5_readLine_103 rfl (lv_at hl 0 rfl) ?_
        refine zcalli (zrunV (As := []) (rest := []) X hml hl hW h0.1 rfl zk_Reader_109 (c_Reader_readHand h0 h) rfl ⟨Nat.le_of_ble_eq_true rfl, Nat.le_of_ble_eq_true rfl⟩ ⟨Nat.le_refl 0, Nat.le_refl 0⟩ rfl (Nat.le_of_ble_eq_true rfl) dX5_readLine_104) hW (fun zr14 zm13 H locs h hW => ?_)
        exact zretz X hr hlk hW (zbo_n h.1) h.2 dX5_readLine_107
      replace h := h.2
      by_cases c5 : zx2 = 5
      · replace h := h.1 c5
        refine lv_tableIn (off := 97) (tgt := 129) hx hb dX5_readLine_32 (by rw [c5]; decide) (by rw [c5]; decide) (by rw [c5]; rfl) rfl ?_
        refine lv_aload_n hx hb dX5_readLine_129 rfl (lv_at hl 0 rfl) ?_
        refine lv_iconst hx hb dX5_readLine_130 zc_i5 ?_
        refine zcalli (zrunV (As := [.int 5]) (rest := []) X hml hl hW h0.1 rfl zk_Reader_112 (c_Reader_readOnce h0 h) rfl ⟨Nat.le_of_ble_eq_true rfl, Nat.le_of_ble_eq_true rfl⟩ ⟨Nat.le_refl 0, Nat.le_refl 0⟩ rfl (Nat.le_of_ble_eq_true rfl) dX5_readLine_131) hW (fun zr16 zm15 H locs h hW => ?_)
        refine lv_if_eq (tgt := 148) hx hb dX5_readLine_134 rfl (fun c => ?_) (fun c => ?_)
        · replace h := h.1 c
          refine lv_iconst hx hb dX5_readLine_148 zc_i0 ?_
          exact zretz X hr hlk hW rfl h dX5_readLine_149
        · replace h := h.2 c
          refine lv_aload_n hx hb dX5_readLine_137 rfl (lv_at hl 0 rfl) ?_
          refine zcalli (zrunV (As := []) (rest := []) X hml hl hW h0.1 rfl zk_Reader_119 (c_Reader_readWalk h0 h) rfl ⟨Nat.le_of_ble_eq_true rfl, Nat.le_of_ble_eq_true rfl⟩ ⟨Nat.le_refl 0, Nat.le_refl 0⟩ rfl (Nat.le_of_ble_eq_true rfl) dX5_readLine_138) hW (fun zr18 zm17 H locs h hW => ?_)
          refine lv_if_eq (tgt := 148) hx hb dX5_readLine_141 rfl (fun c => ?_) (fun c => ?_)
          · replace h := h.1 c
            refine lv_iconst hx hb dX5_readLine_148 zc_i0 ?_
            exact zretz X hr hlk hW rfl h dX5_readLine_149
          · replace h := h.2 c
            refine lv_iconst hx hb dX5_readLine_144 zc_i1 ?_
            refine lv_goto (tgt := 149) hx hb dX5_readLine_145 rfl ?_
            exact zretz X hr hlk hW rfl h dX5_readLine_149
      replace h := h.2
      by_cases c6 : zx2 = 6
      · replace h := h.1 c6
        refine lv_tableIn (off := 118) (tgt := 150) hx hb dX5_readLine_32 (by rw [c6]; decide) (by rw [c6]; decide) (by rw [c6]; rfl) rfl ?_
        refine lv_aload_n hx hb dX5_readLine_150 rfl (lv_at hl 0 rfl) ?_
        refine lv_bipush hx hb dX5_readLine_151 zc_b6 ?_
        refine zcalli (zrunV (As := [.int 6]) (rest := []) X hml hl hW h0.1 rfl zk_Reader_112 (c_Reader_readOnce h0 h) rfl ⟨Nat.le_of_ble_eq_true rfl, Nat.le_of_ble_eq_true rfl⟩ ⟨Nat.le_refl 0, Nat.le_refl 0⟩ rfl (Nat.le_of_ble_eq_true rfl) dX5_readLine_153) hW (fun zr20 zm19 H locs h hW => ?_)
        refine lv_if_eq (tgt := 170) hx hb dX5_readLine_156 rfl (fun c => ?_) (fun c => ?_)
        · replace h := h.1 c
          refine lv_iconst hx hb dX5_readLine_170 zc_i0 ?_
          exact zretz X hr hlk hW rfl h dX5_readLine_171
        · replace h := h.2 c
          refine lv_aload_n hx hb dX5_readLine_159 rfl (lv_at hl 0 rfl) ?_
          refine zcalli (zrunV (As := []) (rest := []) X hml hl hW h0.1 rfl zk_Reader_122 (c_Reader_readLearn h0 h) rfl ⟨Nat.le_of_ble_eq_true rfl, Nat.le_of_ble_eq_true rfl⟩ ⟨Nat.le_refl 0, Nat.le_refl 0⟩ rfl (Nat.le_of_ble_eq_true rfl) dX5_readLine_160) hW (fun zr22 zm21 H locs h hW => ?_)
          refine lv_if_eq (tgt := 170) hx hb dX5_readLine_163 rfl (fun c => ?_) (fun c => ?_)
          · replace h := h.1 c
            refine lv_iconst hx hb dX5_readLine_170 zc_i0 ?_
            exact zretz X hr hlk hW rfl h dX5_readLine_171
          · replace h := h.2 c
            refine lv_iconst hx hb dX5_readLine_166 zc_i1 ?_
            refine lv_goto (tgt := 171) hx hb dX5_readLine_167 rfl ?_
            exact zretz X hr hlk hW rfl h dX5_readLine_171
      replace h := h.2
      by_cases c7 : zx2 = 7
      · replace h := h.1 c7
        refine lv_tableIn (off := 140) (tgt := 172) hx hb dX5_readLine_32 (by rw [c7]; decide) (by rw [c7]; decide) (by rw [c7]; rfl) rfl ?_
        refine lv_aload_n hx hb dX5_readLine_172 rfl (lv_at hl 0 rfl) ?_
        refine lv_bipush hx hb dX5_readLine_173 zc_b7 ?_
        refine zcalli (zrunV (As := [.int 7]) (rest := []) X hml hl hW h0.1 rfl zk_Reader_112 (c_Reader_readOnce h0 h) rfl ⟨Nat.le_of_ble_eq_true rfl, Nat.le_of_ble_eq_true rfl⟩ ⟨Nat.le_refl 0, Nat.le_refl 0⟩ rfl (Nat.le_of_ble_eq_true rfl) dX5_readLine_175) hW (fun zr24 zm23 H locs h hW => ?_)
        refine lv_if_eq (tgt := 192) hx hb dX5_readLine_178 rfl (fun c => ?_) (fun c => ?_)
        · replace h := h.1 c
          refine lv_iconst hx hb dX5_readLine_192 zc_i0 ?_
          exact zretz X hr hlk hW rfl h dX5_readLine_193
        · replace h := h.2 c
          refine lv_aload_n hx hb dX5_readLine_181 rfl (lv_at hl 0 rfl) ?_
          refine zcalli (zrunV (As := []) (rest := []) X hml hl hW h0.1 rfl zk_Reader_125 (c_Reader_readSign h0 h) rfl ⟨Nat.le_of_ble_eq_true rfl, Nat.le_of_ble_eq_true rfl⟩ ⟨Nat.le_refl 0, Nat.le_refl 0⟩ rfl (Nat.le_of_ble_eq_true rfl) dX5_readLine_182) hW (fun zr26 zm25 H locs h hW => ?_)
          refine lv_if_eq (tgt := 192) hx hb dX5_readLine_185 rfl (fun c => ?_) (fun c => ?_)
          · replace h := h.1 c
            refine lv_iconst hx hb dX5_readLine_192 zc_i0 ?_
            exact zretz X hr hlk hW rfl h dX5_readLine_193
          · replace h := h.2 c
            refine lv_iconst hx hb dX5_readLine_188 zc_i1 ?_
            refine lv_goto (tgt := 193) hx hb dX5_readLine_189 rfl ?_
            exact zretz X hr hlk hW rfl h dX5_readLine_193
      replace h := h.2
      by_cases c8 : zx2 = 8
      · replace h := h.1 c8
        refine lv_tableIn (off := 162) (tgt := 194) hx hb dX5_readLine_32 (by rw [c8]; decide) (by rw [c8]; decide) (by rw [c8]; rfl) rfl ?_
        refine lv_aload_n hx hb dX5_readLine_194 rfl (lv_at hl 0 rfl) ?_
        refine lv_bipush hx hb dX5_readLine_195 zc_b7 ?_
        refine zcalli (zrunV (As := [.int 7]) (rest := []) X hml hl hW h0.1 rfl zk_Reader_112 (c_Reader_readOnce h0 h) rfl ⟨Nat.le_of_ble_eq_true rfl, Nat.le_of_ble_eq_true rfl⟩ ⟨Nat.le_refl 0, Nat.le_refl 0⟩ rfl (Nat.le_of_ble_eq_true rfl) dX5_readLine_197) hW (fun zr28 zm27 H locs h hW => ?_)
        refine lv_if_eq (tgt := 215) hx hb dX5_readLine_200 rfl (fun c => ?_) (fun c => ?_)
        · replace h := h.1 c
          refine lv_iconst hx hb dX5_readLine_215 zc_i0 ?_
          exact zretz X hr hlk hW rfl h dX5_readLine_216
        · replace h := h.2 c
          refine lv_aload_n hx hb dX5_readLine_203 rfl (lv_at hl 0 rfl) ?_
          refine lv_iconst hx hb dX5_readLine_204 zc_i1 ?_
          refine zcalli (zrunV (As := [.int 1]) (rest := []) X hml hl hW h0.1 rfl zk_Reader_128 (c_Reader_readEnds h0 h) rfl ⟨Nat.le_of_ble_eq_true rfl, Nat.le_of_ble_eq_true rfl⟩ ⟨Nat.le_refl 0, Nat.le_refl 0⟩ rfl (Nat.le_of_ble_eq_true rfl) dX5_readLine_205) hW (fun zr30 zm29 H locs h hW => ?_)
          refine lv_if_eq (tgt := 215) hx hb dX5_readLine_208 rfl (fun c => ?_) (fun c => ?_)
          · replace h := h.1 c
            refine lv_iconst hx hb dX5_readLine_215 zc_i0 ?_
            exact zretz X hr hlk hW rfl h dX5_readLine_216
          · replace h := h.2 c
            refine lv_iconst hx hb dX5_readLine_211 zc_i1 ?_
            refine lv_goto (tgt := 216) hx hb dX5_readLine_212 rfl ?_
            exact zretz X hr hlk hW rfl h dX5_readLine_216
      replace h := h.2
      by_cases c9 : zx2 = 9
      · replace h := h.1 c9
        refine lv_tableIn (off := 185) (tgt := 217) hx hb dX5_readLine_32 (by rw [c9]; decide) (by rw [c9]; decide) (by rw [c9]; rfl) rfl ?_
        refine lv_aload_n hx hb dX5_readLine_217 rfl (lv_at hl 0 rfl) ?_
        refine lv_bipush hx hb dX5_readLine_218 zc_b7 ?_
        refine zcalli (zrunV (As := [.int 7]) (rest := []) X hml hl hW h0.1 rfl zk_Reader_112 (c_Reader_readOnce h0 h) rfl ⟨Nat.le_of_ble_eq_true rfl, Nat.le_of_ble_eq_true rfl⟩ ⟨Nat.le_refl 0, Nat.le_refl 0⟩ rfl (Nat.le_of_ble_eq_true rfl) dX5_readLine_220) hW (fun zr32 zm31 H locs h hW => ?_)
        refine lv_if_eq (tgt := 238) hx hb dX5_readLine_223 rfl (fun c => ?_) (fun c => ?_)
        · replace h := h.1 c
          refine lv_iconst hx hb dX5_readLine_238 zc_i0 ?_
          exact zretz X hr hlk hW rfl h dX5_readLine_239
        · replace h := h.2 c
          refine lv_aload_n hx hb dX5_readLine_226 rfl (lv_at hl 0 rfl) ?_
          refine lv_iconst hx hb dX5_readLine_227 zc_i2 ?_
          refine zcalli (zrunV (As := [.int 2]) (rest := []) X hml hl hW h0.1 rfl zk_Reader_128 (c_Reader_readEnds h0 h) rfl ⟨Nat.le_of_ble_eq_true rfl, Nat.le_of_ble_eq_true rfl⟩ ⟨Nat.le_refl 0, Nat.le_refl 0⟩ rfl (Nat.le_of_ble_eq_true rfl) dX5_readLine_228) hW (fun zr34 zm33 H locs h hW => ?_)
          refine lv_if_eq (tgt := 238) hx hb dX5_readLine_231 rfl (fun c => ?_) (fun c => ?_)
          · replace h := h.1 c
            refine lv_iconst hx hb dX5_readLine_238 zc_i0 ?_
            exact zretz X hr hlk hW rfl h dX5_readLine_239
          · replace h := h.2 c
            refine lv_iconst hx hb dX5_readLine_234 zc_i1 ?_
            refine lv_goto (tgt := 239) hx hb dX5_readLine_235 rfl ?_
            exact zretz X hr hlk hW rfl h dX5_readLine_239
      replace h := h.2
      replace h := h c0 c1 c2 c3 c4 c5 c6 c7 c8 c9
      refine lv_tableOut (tgt := 240) hx hb dX5_readLine_32 (zsw 9 (Nat.le_of_ble_eq_true rfl) (fun j hj => ?_)) rfl ?_
      · rcases (show j = 0 ∨ j = 1 ∨ j = 2 ∨ j = 3 ∨ j = 4 ∨ j = 5 ∨ j = 6 ∨ j = 7 ∨ j = 8 ∨ j = 9 by omega) with rfl | rfl | rfl | rfl | rfl | rfl | rfl | rfl | rfl | rfl
        · exact c0
        · exact c1
        · exact c2
        · exact c3
        · exact c4
        · exact c5
        · exact c6
        · exact c7
        · exact c8
        · exact c9
      refine lv_aload_n hx hb dX5_readLine_240 rfl (lv_at hl 0 rfl) ?_
      refine lv_iconst hx hb dX5_readLine_241 zc_i1 ?_
      refine lv_aload_n hx hb dX5_readLine_242 rfl (lv_at hl 0 rfl) ?_
      refine zg_Reader_start X hW h0 zu_118 dX5_readLine_243 ?_
      refine zcalli (zrunV (As := [.int 1, .int (zm1 k 8)]) (rest := []) X hml hl hW h0.1 rfl zk_Reader_73 (c_Reader_refuse h0 h) rfl ⟨Nat.le_of_ble_eq_true rfl, Nat.le_of_ble_eq_true rfl⟩ ⟨Nat.le_refl 0, Nat.le_refl 0⟩ rfl (Nat.le_of_ble_eq_true rfl) dX5_readLine_246) hW (fun zr36 zm35 H locs h hW => ?_)
      exact zretz X hr hlk hW (zbo_n h.1) h.2 dX5_readLine_249
    · replace h := h.2 c
      refine lv_aload_n hx hb dX5_readLine_8 rfl (lv_at hl 0 rfl) ?_
      refine lv_iconst hx hb dX5_readLine_9 zc_i2 ?_
      refine lv_aload_n hx hb dX5_readLine_10 rfl (lv_at hl 0 rfl) ?_
      refine zg_Reader_start X hW h0 zu_118 dX5_readLine_11 ?_
      refine zcalli (zrunV (As := [.int 2, .int (M k 8)]) (rest := []) X hml hl hW h0.1 rfl zk_Reader_73 (c_Reader_refuse h0 h) rfl ⟨Nat.le_of_ble_eq_true rfl, Nat.le_of_ble_eq_true rfl⟩ ⟨Nat.le_refl 0, Nat.le_refl 0⟩ rfl (Nat.le_of_ble_eq_true rfl) dX5_readLine_14) hW (fun zr38 zm37 H locs h hW => ?_)
      exact zretz X hr hlk hW (zbo_n h.1) h.2 dX5_readLine_17
  exact zMain s.heap [] ls hW hl
def wpB_Reader_readAll_51 (k : Nat)   (Q : Int32 → zMem → Prop) (J : Int32 → Int32 → zMem → Prop) (x_1 : Int32) (x_2 : Int32) (M : zMem) : Prop :=
  (400 < x_2 → (¬ (M k 1) = 0 → Q 0 M) ∧ ((M k 1) = 0 → wp_Reader_isComplete k M (fun zr12 zm11 => (zr12 = 0 → Q 0 zm11) ∧ (¬ zr12 = 0 → Q 1 zm11)))) ∧ (¬ 400 < x_2 → (x_1 = 0 → (¬ (M k 1) = 0 → Q 0 M) ∧ ((M k 1) = 0 → wp_Reader_isComplete k M (fun zr14 zm13 => (zr14 = 0 → Q 0 zm13) ∧ (¬ zr14 = 0 → Q 1 zm13)))) ∧ (¬ x_1 = 0 → wp_Reader_readToken k M (fun zr16 zm15 => (zr16 = 0 → ∀ zx17 : Int32, zx17 = x_2 + 1 → J 0 zx17 zm15) ∧ (¬ zr16 = 0 → ((zm15 k 7) = 0 → ∀ zx18 : Int32, zx18 = x_2 + 1 → J 0 zx18 zm15) ∧ (¬ (zm15 k 7) = 0 → wp_Reader_readLine k zm15 (fun zr20 zm19 => (zr20 = 0 → ∀ zx21 : Int32, zx21 = x_2 + 1 → J 0 zx21 zm19) ∧ (¬ zr20 = 0 → ∀ zx22 : Int32, zx22 = x_2 + 1 → J 1 zx22 zm19)))))))
def wp_Reader_readAll (k : Nat) (M : zMem) (Q : Int32 → zMem → Prop) : Prop :=
  ∀ zm1 : zMem, zm1 = zup M k 6 0 → ∀ zm2 : zMem, zm2 = zup zm1 k 3 0 → ∀ zm3 : zMem, zm3 = zup zm2 k 1 0 → ∀ zm4 : zMem, zm4 = zup zm3 k 2 0 → ∀ zm5 : zMem, zm5 = zup zm4 k 10 0 → ∀ zm6 : zMem, zm6 = zup zm5 k 11 0 → ∀ zm7 : zMem, zm7 = zup zm6 k 12 0 → ∀ zm8 : zMem, zm8 = zup zm7 k 13 0 → wp_Told_clear (k + 1) zm8 (fun zm9 => ∃ n : Nat, zlp2 (wpB_Reader_readAll_51 k   Q) n 1 0 zm9)
set_option maxHeartbeats 4000000 in
set_option maxRecDepth 20000 in
theorem c_Reader_readAll {l : Launch} {w : zWd} {k : Nat} {M : zMem} {post : Int32 → zMem → Prop} (h0 : zI_Reader w k) (h : wp_Reader_readAll k M post) : zMi l ⟨"HandToHand$Reader", "readAll", "()Z"⟩ prog_7_method_2_code 3 (Option.some .boolean) 9 193 w [.ref (zad w k)] M post := by
  refine zMet (by decide) (Nat.le_of_ble_eq_true rfl) ?_
  intro p e s m below meth c X hr hlk hml hW ls hl
  have hx := X.1
  have hb := X.2.1
  have hl : lv_has ls 3 [(0, .ref (zad w k))] := hl
  have zL_51 :  ∀ (n : Nat) (x_1 : Int32) (x_2 : Int32) (M : zMem) (H : Heap) (locs : List Loc) (ls : Array Slot), zWo w s.heap M H locs → lv_has ls 3 [(0, .ref (zad w k)), (1, .int x_1), (2, .int x_2)] → zlp2 (wpB_Reader_readAll_51 k   post) n x_1 x_2 M → W p l e (zRm 9 193) s m ([.ref (zad w k)] : List Value).toArray below meth c H locs 0 0 (MQ below (va_Qi post (zB w) (zA w)) ([.ref (zad w k)] : List Value).toArray s 0 0 (zA w)) (F0 m 51 ls []) := by
    intro n
    induction n with
    | zero => intro x_1 x_2 M H locs ls hW hl h; exact h.elim
    | succ n zJ =>
      intro x_1 x_2 M H locs ls hW hl h
      have h : wpB_Reader_readAll_51 k   post (zlp2 (wpB_Reader_readAll_51 k   post) n) x_1 x_2 M := h
      unfold wpB_Reader_readAll_51 at h
      refine lv_iload_n hx hb dX5_readAll_51 rfl (lv_at hl 2 rfl) ?_
      refine lv_sipush hx hb dX5_readAll_52 zc_s400 ?_
      refine lv_icmp_gt (tgt := 95) hx hb dX5_readAll_55 rfl (fun c => ?_) (fun c => ?_)
      · replace h := h.1 c
        refine lv_aload_n hx hb dX5_readAll_95 rfl (lv_at hl 0 rfl) ?_
        refine zg_Reader_fault X hW h0 zu_106 dX5_readAll_96 ?_
        refine lv_if_ne (tgt := 113) hx hb dX5_readAll_99 rfl (fun c => ?_) (fun c => ?_)
        · replace h := h.1 c
          refine lv_iconst hx hb dX5_readAll_113 zc_i0 ?_
          exact zretz X hr hlk hW rfl h dX5_readAll_114
        · replace h := h.2 c
          refine lv_aload_n hx hb dX5_readAll_102 rfl (lv_at hl 0 rfl) ?_
          refine zcalli (zrunV (As := []) (rest := []) X hml hl hW h0.1 rfl zk_Reader_61 (c_Reader_isComplete h0 h) rfl ⟨Nat.le_of_ble_eq_true rfl, Nat.le_of_ble_eq_true rfl⟩ ⟨Nat.le_refl 0, Nat.le_refl 0⟩ rfl (Nat.le_of_ble_eq_true rfl) dX5_readAll_103) hW (fun zr12 zm11 H locs h hW => ?_)
          refine lv_if_eq (tgt := 113) hx hb dX5_readAll_106 rfl (fun c => ?_) (fun c => ?_)
          · replace h := h.1 c
            refine lv_iconst hx hb dX5_readAll_113 zc_i0 ?_
            exact zretz X hr hlk hW rfl h dX5_readAll_114
          · replace h := h.2 c
            refine lv_iconst hx hb dX5_readAll_109 zc_i1 ?_
            refine lv_goto (tgt := 114) hx hb dX5_readAll_110 rfl ?_
            exact zretz X hr hlk hW rfl h dX5_readAll_114
      · replace h := h.2 c
        refine lv_iload_n hx hb dX5_readAll_58 rfl (lv_at hl 1 rfl) ?_
        refine lv_if_eq (tgt := 95) hx hb dX5_readAll_59 rfl (fun c => ?_) (fun c => ?_)
        · replace h := h.1 c
          refine lv_aload_n hx hb dX5_readAll_95 rfl (lv_at hl 0 rfl) ?_
          refine zg_Reader_fault X hW h0 zu_106 dX5_readAll_96 ?_
          refine lv_if_ne (tgt := 113) hx hb dX5_readAll_99 rfl (fun c => ?_) (fun c => ?_)
          · replace h := h.1 c
            refine lv_iconst hx hb dX5_readAll_113 zc_i0 ?_
            exact zretz X hr hlk hW rfl h dX5_readAll_114
          · replace h := h.2 c
            refine lv_aload_n hx hb dX5_readAll_102 rfl (lv_at hl 0 rfl) ?_
            refine zcalli (zrunV (As := []) (rest := []) X hml hl hW h0.1 rfl zk_Reader_61 (c_Reader_isComplete h0 h) rfl ⟨Nat.le_of_ble_eq_true rfl, Nat.le_of_ble_eq_true rfl⟩ ⟨Nat.le_refl 0, Nat.le_refl 0⟩ rfl (Nat.le_of_ble_eq_true rfl) dX5_readAll_103) hW (fun zr14 zm13 H locs h hW => ?_)
            refine lv_if_eq (tgt := 113) hx hb dX5_readAll_106 rfl (fun c => ?_) (fun c => ?_)
            · replace h := h.1 c
              refine lv_iconst hx hb dX5_readAll_113 zc_i0 ?_
              exact zretz X hr hlk hW rfl h dX5_readAll_114
            · replace h := h.2 c
              refine lv_iconst hx hb dX5_readAll_109 zc_i1 ?_
              refine lv_goto (tgt := 114) hx hb dX5_readAll_110 rfl ?_
              exact zretz X hr hlk hW rfl h dX5_readAll_114
        · replace h := h.2 c
          refine lv_aload_n hx hb dX5_readAll_62 rfl (lv_at hl 0 rfl) ?_
          refine zcalli (zrunV (As := []) (rest := []) X hml hl hW h0.1 rfl zk_Reader_51 (c_Reader_readToken h0 h) rfl ⟨Nat.le_of_ble_eq_true rfl, Nat.le_of_ble_eq_true rfl⟩ ⟨Nat.le_refl 0, Nat.le_refl 0⟩ rfl (Nat.le_of_ble_eq_true rfl) dX5_readAll_63) hW (fun zr16 zm15 H locs h hW => ?_)
          refine lv_if_eq (tgt := 87) hx hb dX5_readAll_66 rfl (fun c => ?_) (fun c => ?_)
          · replace h := h.1 c
            refine lv_iconst hx hb dX5_readAll_87 zc_i0 ?_
            refine lv_istore_n (lv' := [(1, .int 0), (0, .ref (zad w k)), (2, .int x_2)]) hx hb dX5_readAll_88 rfl hl (Nat.le_of_ble_eq_true rfl) rfl (fun ls hl => ?_)
            obtain ⟨zx17, ezx17⟩ : ∃ y : Int32, y = x_2 + 1 := ⟨_, rfl⟩
            replace h := h zx17 ezx17
            refine lv_iinc (v := zx17) (lv' := [(2, .int zx17), (1, .int 0), (0, .ref (zad w k))]) hx hb dX5_readAll_89 hl (k := 2) rfl (by rw [ezx17, zc_i1]) (Nat.le_of_ble_eq_true rfl) rfl (fun ls hl => ?_)
            refine lv_goto (tgt := 51) hx hb dX5_readAll_92 rfl ?_
            exact zJ 0 zx17 zm15 H locs ls hW (lv_sub hl [2, 1, 0] rfl) h
          · replace h := h.2 c
            refine lv_aload_n hx hb dX5_readAll_69 rfl (lv_at hl 0 rfl) ?_
            refine zg_Reader_kind X hW h0 zu_117 dX5_readAll_70 ?_
            refine lv_if_eq (tgt := 87) hx hb dX5_readAll_73 rfl (fun c => ?_) (fun c => ?_)
            · replace h := h.1 c
              refine lv_iconst hx hb dX5_readAll_87 zc_i0 ?_
              refine lv_istore_n (lv' := [(1, .int 0), (0, .ref (zad w k)), (2, .int x_2)]) hx hb dX5_readAll_88 rfl hl (Nat.le_of_ble_eq_true rfl) rfl (fun ls hl => ?_)
              obtain ⟨zx18, ezx18⟩ : ∃ y : Int32, y = x_2 + 1 := ⟨_, rfl⟩
              replace h := h zx18 ezx18
              refine lv_iinc (v := zx18) (lv' := [(2, .int zx18), (1, .int 0), (0, .ref (zad w k))]) hx hb dX5_readAll_89 hl (k := 2) rfl (by rw [ezx18, zc_i1]) (Nat.le_of_ble_eq_true rfl) rfl (fun ls hl => ?_)
              refine lv_goto (tgt := 51) hx hb dX5_readAll_92 rfl ?_
              exact zJ 0 zx18 zm15 H locs ls hW (lv_sub hl [2, 1, 0] rfl) h
            · replace h := h.2 c
              refine lv_aload_n hx hb dX5_readAll_76 rfl (lv_at hl 0 rfl) ?_
              refine zcalli (zrunV (As := []) (rest := []) X hml hl hW h0.1 rfl zk_Reader_58 (c_Reader_readLine h0 h) rfl ⟨Nat.le_of_ble_eq_true rfl, Nat.le_of_ble_eq_true rfl⟩ ⟨Nat.le_refl 0, Nat.le_refl 0⟩ rfl (Nat.le_of_ble_eq_true rfl) dX5_readAll_77) hW (fun zr20 zm19 H locs h hW => ?_)
              refine lv_if_eq (tgt := 87) hx hb dX5_readAll_80 rfl (fun c => ?_) (fun c => ?_)
              · replace h := h.1 c
                refine lv_iconst hx hb dX5_readAll_87 zc_i0 ?_
                refine lv_istore_n (lv' := [(1, .int 0), (0, .ref (zad w k)), (2, .int x_2)]) hx hb dX5_readAll_88 rfl hl (Nat.le_of_ble_eq_true rfl) rfl (fun ls hl => ?_)
                obtain ⟨zx21, ezx21⟩ : ∃ y : Int32, y = x_2 + 1 := ⟨_, rfl⟩
                replace h := h zx21 ezx21
                refine lv_iinc (v := zx21) (lv' := [(2, .int zx21), (1, .int 0), (0, .ref (zad w k))]) hx hb dX5_readAll_89 hl (k := 2) rfl (by rw [ezx21, zc_i1]) (Nat.le_of_ble_eq_true rfl) rfl (fun ls hl => ?_)
                refine lv_goto (tgt := 51) hx hb dX5_readAll_92 rfl ?_
                exact zJ 0 zx21 zm19 H locs ls hW (lv_sub hl [2, 1, 0] rfl) h
              · replace h := h.2 c
                refine lv_iconst hx hb dX5_readAll_83 zc_i1 ?_
                refine lv_goto (tgt := 88) hx hb dX5_readAll_84 rfl ?_
                refine lv_istore_n (lv' := [(1, .int 1), (0, .ref (zad w k)), (2, .int x_2)]) hx hb dX5_readAll_88 rfl hl (Nat.le_of_ble_eq_true rfl) rfl (fun ls hl => ?_)
                obtain ⟨zx22, ezx22⟩ : ∃ y : Int32, y = x_2 + 1 := ⟨_, rfl⟩
                replace h := h zx22 ezx22
                refine lv_iinc (v := zx22) (lv' := [(2, .int zx22), (1, .int 1), (0, .ref (zad w k))]) hx hb dX5_readAll_89 hl (k := 2) rfl (by rw [ezx22, zc_i1]) (Nat.le_of_ble_eq_true rfl) rfl (fun ls hl => ?_)
                refine lv_goto (tgt := 51) hx hb dX5_readAll_92 rfl ?_
                exact zJ 1 zx22 zm19 H locs ls hW (lv_sub hl [2, 1, 0] rfl) h
  unfold wp_Reader_readAll at h
  have zMain : ∀ (H : Heap) (locs : List Loc) (ls : Array Slot), zWo w s.heap M H locs → lv_has ls 3 [(0, .ref (zad w k))] → W p l e (zRm 9 193) s m ([.ref (zad w k)] : List Value).toArray below meth c H locs 0 0 (MQ below (va_Qi post (zB w) (zA w)) ([.ref (zad w k)] : List Value).toArray s 0 0 (zA w)) (F0 m 0 ls []) := by
    intro H locs ls hW hl
    refine lv_aload_n hx hb dX5_readAll_0 rfl (lv_at hl 0 rfl) ?_
    refine lv_iconst hx hb dX5_readAll_1 zc_i0 ?_
    refine zp_Reader_next X hW h0 zu_116 dX5_readAll_2 (fun H locs zm1 ezm1 hW => ?_)
    replace h := h zm1 ezm1
    refine lv_aload_n hx hb dX5_readAll_5 rfl (lv_at hl 0 rfl) ?_
    refine lv_iconst hx hb dX5_readAll_6 zc_i0 ?_
    refine zp_Reader_lines X hW h0 zu_110 dX5_readAll_7 (fun H locs zm2 ezm2 hW => ?_)
    replace h := h zm2 ezm2
    refine lv_aload_n hx hb dX5_readAll_10 rfl (lv_at hl 0 rfl) ?_
    refine lv_iconst hx hb dX5_readAll_11 zc_i0 ?_
    refine zp_Reader_fault X hW h0 zu_106 dX5_readAll_12 (fun H locs zm3 ezm3 hW => ?_)
    replace h := h zm3 ezm3
    refine lv_aload_n hx hb dX5_readAll_15 rfl (lv_at hl 0 rfl) ?_
    refine lv_iconst hx hb dX5_readAll_16 zc_i0 ?_
    refine zp_Reader_faultPlace X hW h0 zu_108 dX5_readAll_17 (fun H locs zm4 ezm4 hW => ?_)
    replace h := h zm4 ezm4
    refine lv_aload_n hx hb dX5_readAll_20 rfl (lv_at hl 0 rfl) ?_
    refine lv_iconst hx hb dX5_readAll_21 zc_i0 ?_
    refine zp_Reader_names X hW h0 zu_120 dX5_readAll_22 (fun H locs zm5 ezm5 hW => ?_)
    replace h := h zm5 ezm5
    refine lv_aload_n hx hb dX5_readAll_25 rfl (lv_at hl 0 rfl) ?_
    refine lv_iconst hx hb dX5_readAll_26 zc_i0 ?_
    refine zp_Reader_sorts X hW h0 zu_121 dX5_readAll_27 (fun H locs zm6 ezm6 hW => ?_)
    replace h := h zm6 ezm6
    refine lv_aload_n hx hb dX5_readAll_30 rfl (lv_at hl 0 rfl) ?_
    refine lv_iconst hx hb dX5_readAll_31 zc_i0 ?_
    refine zp_Reader_piecesClosed X hW h0 zbo_0 zu_122 dX5_readAll_32 (fun H locs zm7 ezm7 hW => ?_)
    replace h := h zm7 ezm7
    refine lv_aload_n hx hb dX5_readAll_35 rfl (lv_at hl 0 rfl) ?_
    refine lv_iconst hx hb dX5_readAll_36 zc_i0 ?_
    refine zp_Reader_handsClosed X hW h0 zbo_0 zu_123 dX5_readAll_37 (fun H locs zm8 ezm8 hW => ?_)
    replace h := h zm8 ezm8
    refine lv_aload_n hx hb dX5_readAll_40 rfl (lv_at hl 0 rfl) ?_
    refine zg_Reader_draft X hW h0 zu_104 dX5_readAll_41 ?_
    refine zcallv (zrunV (As := []) (rest := []) X hml hl hW h0.2.2.1 rfl zk_Reader_48 (c_Told_clear h0.2.2 h) rfl ⟨Nat.le_of_ble_eq_true rfl, Nat.le_of_ble_eq_true rfl⟩ ⟨Nat.le_refl 0, Nat.le_refl 0⟩ rfl (Nat.le_of_ble_eq_true rfl) dX5_readAll_44) hW (fun zm9 H locs h hW => ?_)
    refine lv_iconst hx hb dX5_readAll_47 zc_i1 ?_
    refine lv_istore_n (lv' := [(1, .int 1), (0, .ref (zad w k))]) hx hb dX5_readAll_48 rfl hl (Nat.le_of_ble_eq_true rfl) rfl (fun ls hl => ?_)
    refine lv_iconst hx hb dX5_readAll_49 zc_i0 ?_
    refine lv_istore_n (lv' := [(2, .int 0), (1, .int 1), (0, .ref (zad w k))]) hx hb dX5_readAll_50 rfl hl (Nat.le_of_ble_eq_true rfl) rfl (fun ls hl => ?_)
    obtain ⟨n, h⟩ := h
    refine zL_51   n 1 0 zm9 H locs ls hW (lv_sub hl [2, 1, 0] rfl) h
  exact zMain s.heap [] ls hW hl
def wpB_Main_feed_18 (a1 : Int64)   (Q : Int32 → zMem → Prop) (J : Int32 → zMem → Prop) (x_3 : Int32) (M : zMem) : Prop :=
  (8 ≤ x_3 → Q (M 11 5) M) ∧ (¬ 8 ≤ x_3 → vp_in (M 11 5) 400 ∧ ∀ zm1 : zMem, zm1 = zup M 17 (ix (M 11 5)) (vp_nar .byte (((a1 >>> ((8 * (7 - x_3)).toInt64 &&& 63)).toInt32).toInt8.toInt32)) → ∀ zm2 : zMem, zm2 = zup zm1 11 5 ((zm1 11 5) + 1) → ∀ zx3 : Int32, zx3 = x_3 + 1 → J zx3 zm2)
def wp_Main_feed (a1 : Int64) (M : zMem) (Q : Int32 → zMem → Prop) : Prop :=
  ((M 11 5) ≤ 392 → ∃ n : Nat, zlp1 (wpB_Main_feed_18 a1   Q) n 0 M) ∧ (¬ (M 11 5) ≤ 392 → Q ((-3)) M)
set_option maxHeartbeats 4000000 in
set_option maxRecDepth 20000 in
theorem c_Main_feed {l : Launch} {w : zWd} {a1 : Int64} {M : zMem} {post : Int32 → zMem → Prop} (h0 : zI_Main w) (h : wp_Main_feed a1 M post) : zMi l ⟨"HandToHand", "feed", "(J)I"⟩ prog_1_method_2_code 4 (Option.some .int) 0 0 w [.ref (zad w 0), .long a1] M post := by
  refine zMet (by decide) (Nat.le_of_ble_eq_true rfl) ?_
  intro p e s m below meth c X hr hlk hml hW ls hl
  have hx := X.1
  have hb := X.2.1
  have hl : lv_has ls 4 [(0, .ref (zad w 0)), (1, .long a1)] := hl
  have zL_18 :  ∀ (n : Nat) (x_3 : Int32) (M : zMem) (H : Heap) (locs : List Loc) (ls : Array Slot), zWo w s.heap M H locs → lv_has ls 4 [(0, .ref (zad w 0)), (1, .long a1), (3, .int x_3)] → zlp1 (wpB_Main_feed_18 a1   post) n x_3 M → W p l e (zRm 0 0) s m ([.ref (zad w 0), .long a1] : List Value).toArray below meth c H locs 0 0 (MQ below (va_Qi post (zB w) (zA w)) ([.ref (zad w 0), .long a1] : List Value).toArray s 0 0 (zA w)) (F0 m 18 ls []) := by
    intro n
    induction n with
    | zero => intro x_3 M H locs ls hW hl h; exact h.elim
    | succ n zJ =>
      intro x_3 M H locs ls hW hl h
      have h : wpB_Main_feed_18 a1   post (zlp1 (wpB_Main_feed_18 a1   post) n) x_3 M := h
      unfold wpB_Main_feed_18 at h
      refine lv_iload_n hx hb dX10_feed_18 rfl (lv_at hl 2 rfl) ?_
      refine lv_bipush hx hb dX10_feed_19 zc_b8 ?_
      refine lv_icmp_ge (tgt := 69) hx hb dX10_feed_21 rfl (fun c => ?_) (fun c => ?_)
      · replace h := h.1 c
        refine lv_aload_n hx hb dX10_feed_69 rfl (lv_at hl 0 rfl) ?_
        refine zg_Main_reader X hW h0 zu_469 dX10_feed_70 ?_
        refine zg_Reader_length X hW h0.2.2.2.2.2.2.1 zu_114 dX10_feed_73 ?_
        exact zreti X hr hlk hW h dX10_feed_76
      · replace h := h.2 c
        refine lv_aload_n hx hb dX10_feed_24 rfl (lv_at hl 0 rfl) ?_
        refine zg_Main_reader X hW h0 zu_469 dX10_feed_25 ?_
        refine zg_Reader_tape X hW h0.2.2.2.2.2.2.1 zu_113 dX10_feed_28 ?_
        refine lv_aload_n hx hb dX10_feed_31 rfl (lv_at hl 0 rfl) ?_
        refine zg_Main_reader X hW h0 zu_469 dX10_feed_32 ?_
        refine zg_Reader_length X hW h0.2.2.2.2.2.2.1 zu_114 dX10_feed_35 ?_
        refine lv_lload_n hx hb dX10_feed_38 rfl (lv_at hl 1 rfl) ?_
        refine lv_bipush hx hb dX10_feed_39 zc_b8 ?_
        refine lv_bipush hx hb dX10_feed_41 zc_b7 ?_
        refine lv_iload_n hx hb dX10_feed_43 rfl (lv_at hl 2 rfl) ?_
        refine lv_isub hx hb dX10_feed_44 ?_
        refine lv_imul hx hb dX10_feed_45 ?_
        refine lv_lshr hx hb dX10_feed_46 rfl ?_
        refine lv_l2i hx hb dX10_feed_47 rfl ?_
        refine lv_i2b hx hb dX10_feed_48 rfl ?_
        obtain ⟨g, h⟩ := h
        refine zbast X hW h0.2.2.2.2.2.2.1.2.1 g dX10_feed_49 (fun H locs zm1 ezm1 hW => ?_)
        replace h := h zm1 ezm1
        refine lv_aload_n hx hb dX10_feed_50 rfl (lv_at hl 0 rfl) ?_
        refine zg_Main_reader X hW h0 zu_469 dX10_feed_51 ?_
        refine lv_dup hx hb dX10_feed_54 rfl ?_
        refine zg_Reader_length X hW h0.2.2.2.2.2.2.1 zu_114 dX10_feed_55 ?_
        refine lv_iconst hx hb dX10_feed_58 zc_i1 ?_
        refine lv_iadd hx hb dX10_feed_59 ?_
        refine zp_Reader_length X hW h0.2.2.2.2.2.2.1 zu_114 dX10_feed_60 (fun H locs zm2 ezm2 hW => ?_)
        replace h := h zm2 ezm2
        obtain ⟨zx3, ezx3⟩ : ∃ y : Int32, y = x_3 + 1 := ⟨_, rfl⟩
        replace h := h zx3 ezx3
        refine lv_iinc (v := zx3) (lv' := [(3, .int zx3), (0, .ref (zad w 0)), (1, .long a1)]) hx hb dX10_feed_63 hl (k := 2) rfl (by rw [ezx3, zc_i1]) (Nat.le_of_ble_eq_true rfl) rfl (fun ls hl => ?_)
        refine lv_goto (tgt := 18) hx hb dX10_feed_66 rfl ?_
        exact zJ zx3 zm2 H locs ls hW (lv_sub hl [1, 2, 0] rfl) h
  unfold wp_Main_feed at h
  have zMain : ∀ (H : Heap) (locs : List Loc) (ls : Array Slot), zWo w s.heap M H locs → lv_has ls 4 [(0, .ref (zad w 0)), (1, .long a1)] → W p l e (zRm 0 0) s m ([.ref (zad w 0), .long a1] : List Value).toArray below meth c H locs 0 0 (MQ below (va_Qi post (zB w) (zA w)) ([.ref (zad w 0), .long a1] : List Value).toArray s 0 0 (zA w)) (F0 m 0 ls []) := by
    intro H locs ls hW hl
    refine lv_aload_n hx hb dX10_feed_0 rfl (lv_at hl 0 rfl) ?_
    refine zg_Main_reader X hW h0 zu_469 dX10_feed_1 ?_
    refine zg_Reader_length X hW h0.2.2.2.2.2.2.1 zu_114 dX10_feed_4 ?_
    refine lv_sipush hx hb dX10_feed_7 zc_s392 ?_
    refine lv_icmp_le (tgt := 16) hx hb dX10_feed_10 rfl (fun c => ?_) (fun c => ?_)
    · replace h := h.1 c
      refine lv_iconst hx hb dX10_feed_16 zc_i0 ?_
      refine lv_istore_n (lv' := [(3, .int 0), (0, .ref (zad w 0)), (1, .long a1)]) hx hb dX10_feed_17 rfl hl (Nat.le_of_ble_eq_true rfl) rfl (fun ls hl => ?_)
      obtain ⟨n, h⟩ := h
      refine zL_18   n 0 M H locs ls hW (lv_sub hl [1, 2, 0] rfl) h
    · replace h := h.2 c
      refine lv_bipush hx hb dX10_feed_13 zc_bm3 ?_
      exact zreti X hr hlk hW h dX10_feed_15
  exact zMain s.heap [] ls hW hl
def wp_Main_end (a1 : Int32) (M : zMem) (Q : Int32 → zMem → Prop) : Prop :=
  (a1 < 0 → Q ((-1)) M) ∧ (¬ a1 < 0 → (a1 ≤ (M 11 5) → ∀ zx1 : Int32, zx1 = M 11 5 → ∀ zm2 : zMem, zm2 = zup M 11 5 a1 → Q zx1 zm2) ∧ (¬ a1 ≤ (M 11 5) → Q ((-1)) M))
set_option maxHeartbeats 4000000 in
set_option maxRecDepth 20000 in
theorem c_Main_end {l : Launch} {w : zWd} {a1 : Int32} {M : zMem} {post : Int32 → zMem → Prop} (h0 : zI_Main w) (h : wp_Main_end a1 M post) : zMi l ⟨"HandToHand", "end", "(I)I"⟩ prog_1_method_3_code 3 (Option.some .int) 0 0 w [.ref (zad w 0), .int a1] M post := by
  refine zMet (by decide) (Nat.le_of_ble_eq_true rfl) ?_
  intro p e s m below meth c X hr hlk hml hW ls hl
  have hx := X.1
  have hb := X.2.1
  have hl : lv_has ls 3 [(0, .ref (zad w 0)), (1, .int a1)] := hl
  unfold wp_Main_end at h
  have zMain : ∀ (H : Heap) (locs : List Loc) (ls : Array Slot), zWo w s.heap M H locs → lv_has ls 3 [(0, .ref (zad w 0)), (1, .int a1)] → W p l e (zRm 0 0) s m ([.ref (zad w 0), .int a1] : List Value).toArray below meth c H locs 0 0 (MQ below (va_Qi post (zB w) (zA w)) ([.ref (zad w 0), .int a1] : List Value).toArray s 0 0 (zA w)) (F0 m 0 ls []) := by
    intro H locs ls hW hl
    refine lv_iload_n hx hb dX10_end_0 rfl (lv_at hl 1 rfl) ?_
    refine lv_if_lt (tgt := 15) hx hb dX10_end_1 rfl (fun c => ?_) (fun c => ?_)
    · replace h := h.1 c
      refine lv_iconst hx hb dX10_end_15 zc_im1 ?_
      exact zreti X hr hlk hW h dX10_end_16
    · replace h := h.2 c
      refine lv_iload_n hx hb dX10_end_4 rfl (lv_at hl 1 rfl) ?_
      refine lv_aload_n hx hb dX10_end_5 rfl (lv_at hl 0 rfl) ?_
      refine zg_Main_reader X hW h0 zu_469 dX10_end_6 ?_
      refine zg_Reader_length X hW h0.2.2.2.2.2.2.1 zu_114 dX10_end_9 ?_
      refine lv_icmp_le (tgt := 17) hx hb dX10_end_12 rfl (fun c => ?_) (fun c => ?_)
      · replace h := h.1 c
        refine lv_aload_n hx hb dX10_end_17 rfl (lv_at hl 0 rfl) ?_
        refine zg_Main_reader X hW h0 zu_469 dX10_end_18 ?_
        refine zg_Reader_length X hW h0.2.2.2.2.2.2.1 zu_114 dX10_end_21 ?_
        refine lv_topi (fun zx1 ezx1 => ?_)
        replace h := h zx1 ezx1
        refine lv_istore_n (lv' := [(2, .int zx1), (0, .ref (zad w 0)), (1, .int a1)]) hx hb dX10_end_24 rfl hl (Nat.le_of_ble_eq_true rfl) rfl (fun ls hl => ?_)
        refine lv_aload_n hx hb dX10_end_25 rfl (lv_at hl 1 rfl) ?_
        refine zg_Main_reader X hW h0 zu_469 dX10_end_26 ?_
        refine lv_iload_n hx hb dX10_end_29 rfl (lv_at hl 2 rfl) ?_
        refine zp_Reader_length X hW h0.2.2.2.2.2.2.1 zu_114 dX10_end_30 (fun H locs zm2 ezm2 hW => ?_)
        replace h := h zm2 ezm2
        refine lv_iload_n hx hb dX10_end_33 rfl (lv_at hl 0 rfl) ?_
        exact zreti X hr hlk hW h dX10_end_34
      · replace h := h.2 c
        refine lv_iconst hx hb dX10_end_15 zc_im1 ?_
        exact zreti X hr hlk hW h dX10_end_16
  exact zMain s.heap [] ls hW hl
def wp_Main_forgetAnswers  (M : zMem) (Q : zMem → Prop) : Prop :=
  ∀ zm1 : zMem, zm1 = zup M 29 2 0 → ∀ zm2 : zMem, zm2 = zup zm1 54 0 0 → ∀ zm3 : zMem, zm3 = zup zm2 60 0 0 → wp_Orders_forget 56 zm3 (fun zm4 => Q zm4)
set_option maxHeartbeats 4000000 in
set_option maxRecDepth 20000 in
theorem c_Main_forgetAnswers {l : Launch} {w : zWd} {M : zMem} {post : zMem → Prop} (h0 : zI_Main w) (h : wp_Main_forgetAnswers  M post) : zMv l ⟨"HandToHand", "forgetAnswers", "()V"⟩ prog_1_method_48_code 1 none 1 21 w [.ref (zad w 0)] M post := by
  refine zMet (by decide) (Nat.le_of_ble_eq_true rfl) ?_
  intro p e s m below meth c X hr hlk hml hW ls hl
  have hx := X.1
  have hb := X.2.1
  have hl : lv_has ls 1 [(0, .ref (zad w 0))] := hl
  unfold wp_Main_forgetAnswers at h
  have zMain : ∀ (H : Heap) (locs : List Loc) (ls : Array Slot), zWo w s.heap M H locs → lv_has ls 1 [(0, .ref (zad w 0))] → W p l e (zRm 1 21) s m ([.ref (zad w 0)] : List Value).toArray below meth c H locs 0 0 (MQ below (va_Qv post (zB w) (zA w)) ([.ref (zad w 0)] : List Value).toArray s 0 0 (zA w)) (F0 m 0 ls []) := by
    intro H locs ls hW hl
    refine lv_aload_n hx hb dX10_forgetAnswers_0 rfl (lv_at hl 0 rfl) ?_
    refine zg_Main_course X hW h0 zu_473 dX10_forgetAnswers_1 ?_
    refine lv_iconst hx hb dX10_forgetAnswers_4 zc_i0 ?_
    refine zp_Course_coats X hW h0.2.2.2.2.2.2.2.2.1 zu_250 dX10_forgetAnswers_5 (fun H locs zm1 ezm1 hW => ?_)
    replace h := h zm1 ezm1
    refine lv_aload_n hx hb dX10_forgetAnswers_8 rfl (lv_at hl 0 rfl) ?_
    refine zg_Main_ring X hW h0 zu_475 dX10_forgetAnswers_9 ?_
    refine lv_iconst hx hb dX10_forgetAnswers_12 zc_i0 ?_
    refine zp_Ring_known X hW h0.2.2.2.2.2.2.2.2.2.2.1 zbo_0 zu_293 dX10_forgetAnswers_13 (fun H locs zm2 ezm2 hW => ?_)
    replace h := h zm2 ezm2
    refine lv_aload_n hx hb dX10_forgetAnswers_16 rfl (lv_at hl 0 rfl) ?_
    refine zg_Main_bestParts X hW h0 zu_478 dX10_forgetAnswers_17 ?_
    refine lv_iconst hx hb dX10_forgetAnswers_20 zc_i0 ?_
    refine zp_Parts_known X hW h0.2.2.2.2.2.2.2.2.2.2.2.2.2 zbo_0 zu_354 dX10_forgetAnswers_21 (fun H locs zm3 ezm3 hW => ?_)
    replace h := h zm3 ezm3
    refine lv_aload_n hx hb dX10_forgetAnswers_24 rfl (lv_at hl 0 rfl) ?_
    refine zg_Main_orders X hW h0 zu_477 dX10_forgetAnswers_25 ?_
    refine zcallv (zrunV (As := []) (rest := []) X hml hl hW h0.2.2.2.2.2.2.2.2.2.2.2.2.1.1 rfl zk_Main_376 (c_Orders_forget h0.2.2.2.2.2.2.2.2.2.2.2.2.1 h) rfl ⟨Nat.le_of_ble_eq_true rfl, Nat.le_of_ble_eq_true rfl⟩ ⟨Nat.le_refl 0, Nat.le_refl 0⟩ rfl (Nat.le_of_ble_eq_true rfl) dX10_forgetAnswers_28) hW (fun zm4 H locs h hW => ?_)
    exact zretv X hr hlk hW h dX10_forgetAnswers_31
  exact zMain s.heap [] ls hW hl
def wpB_Main_text_61    (Q : Int32 → zMem → Prop) (J : Int32 → zMem → Prop) (x_2 : Int32) (M : zMem) : Prop :=
  (2 ≤ x_2 → wp_Main_forgetAnswers M (fun zm10 => Q (zm10 11 3) zm10)) ∧ (¬ 2 ≤ x_2 → vp_in x_2 2 ∧ ∀ zm12 : zMem, zm12 = zup M 28 (ix x_2) (vp_nar .boolean 0) → ∀ zx13 : Int32, zx13 = x_2 + 1 → J zx13 zm12)
def wp_Main_text  (M : zMem) (Q : Int32 → zMem → Prop) : Prop :=
  wp_Reader_readAll 11 M (fun zr2 zm1 => ∀ zm3 : zMem, zm3 = zup zm1 11 5 0 → (¬ zr2 = 0 → wp_Told_copyFrom 1 12 zm3 (fun zm4 => wp_Bench_clear 18 zm4 (fun zm6 => wp_Bench_doAll 18 zm6 (fun zm8 => ∃ n : Nat, zlp1 (wpB_Main_text_61    Q) n 0 zm8)))) ∧ (zr2 = 0 → Q (((-10)) - (zm3 11 2)) zm3))
set_option maxHeartbeats 4000000 in
set_option maxRecDepth 20000 in
theorem c_Main_text {l : Launch} {w : zWd} {M : zMem} {post : Int32 → zMem → Prop} (h0 : zI_Main w) (h : wp_Main_text  M post) : zMi l ⟨"HandToHand", "text", "()I"⟩ prog_1_method_4_code 3 (Option.some .int) 10 215 w [.ref (zad w 0)] M post := by
  refine zMet (by decide) (Nat.le_of_ble_eq_true rfl) ?_
  intro p e s m below meth c X hr hlk hml hW ls hl
  have hx := X.1
  have hb := X.2.1
  have hl : lv_has ls 3 [(0, .ref (zad w 0))] := hl
  have zL_61 :  ∀ (n : Nat) (x_2 : Int32) (M : zMem) (H : Heap) (locs : List Loc) (ls : Array Slot), zWo w s.heap M H locs → lv_has ls 3 [(0, .ref (zad w 0)), (2, .int x_2)] → zlp1 (wpB_Main_text_61    post) n x_2 M → W p l e (zRm 10 215) s m ([.ref (zad w 0)] : List Value).toArray below meth c H locs 0 0 (MQ below (va_Qi post (zB w) (zA w)) ([.ref (zad w 0)] : List Value).toArray s 0 0 (zA w)) (F0 m 61 ls []) := by
    intro n
    induction n with
    | zero => intro x_2 M H locs ls hW hl h; exact h.elim
    | succ n zJ =>
      intro x_2 M H locs ls hW hl h
      have h : wpB_Main_text_61    post (zlp1 (wpB_Main_text_61    post) n) x_2 M := h
      unfold wpB_Main_text_61 at h
      refine lv_iload_n hx hb dX10_text_61 rfl (lv_at hl 1 rfl) ?_
      refine lv_iconst hx hb dX10_text_62 zc_i2 ?_
      refine lv_icmp_ge (tgt := 79) hx hb dX10_text_63 rfl (fun c => ?_) (fun c => ?_)
      · replace h := h.1 c
        refine lv_aload_n hx hb dX10_text_79 rfl (lv_at hl 0 rfl) ?_
        refine zcallv (zrunV (As := []) (rest := []) X hml hl hW h0.1 rfl zk_Main_120 (c_Main_forgetAnswers h0 h) rfl ⟨Nat.le_of_ble_eq_true rfl, Nat.le_of_ble_eq_true rfl⟩ ⟨Nat.le_refl 0, Nat.le_refl 0⟩ rfl (Nat.le_of_ble_eq_true rfl) dX10_text_80) hW (fun zm10 H locs h hW => ?_)
        refine lv_aload_n hx hb dX10_text_83 rfl (lv_at hl 0 rfl) ?_
        refine zg_Main_reader X hW h0 zu_469 dX10_text_84 ?_
        refine zg_Reader_lines X hW h0.2.2.2.2.2.2.1 zu_111 dX10_text_87 ?_
        exact zreti X hr hlk hW h dX10_text_90
      · replace h := h.2 c
        refine lv_aload_n hx hb dX10_text_66 rfl (lv_at hl 0 rfl) ?_
        refine zg_Main_kept X hW h0 zu_472 dX10_text_67 ?_
        refine lv_iload_n hx hb dX10_text_70 rfl (lv_at hl 1 rfl) ?_
        refine lv_iconst hx hb dX10_text_71 zc_i0 ?_
        obtain ⟨g, h⟩ := h
        refine zzast X hW h0.2.1 g dX10_text_72 (fun H locs zm12 ezm12 hW => ?_)
        replace h := h zm12 ezm12
        obtain ⟨zx13, ezx13⟩ : ∃ y : Int32, y = x_2 + 1 := ⟨_, rfl⟩
        replace h := h zx13 ezx13
        refine lv_iinc (v := zx13) (lv' := [(2, .int zx13), (0, .ref (zad w 0))]) hx hb dX10_text_73 hl (k := 1) rfl (by rw [ezx13, zc_i1]) (Nat.le_of_ble_eq_true rfl) rfl (fun ls hl => ?_)
        refine lv_goto (tgt := 61) hx hb dX10_text_76 rfl ?_
        exact zJ zx13 zm12 H locs ls hW (lv_sub hl [1, 0] rfl) h
  unfold wp_Main_text at h
  have zMain : ∀ (H : Heap) (locs : List Loc) (ls : Array Slot), zWo w s.heap M H locs → lv_has ls 3 [(0, .ref (zad w 0))] → W p l e (zRm 10 215) s m ([.ref (zad w 0)] : List Value).toArray below meth c H locs 0 0 (MQ below (va_Qi post (zB w) (zA w)) ([.ref (zad w 0)] : List Value).toArray s 0 0 (zA w)) (F0 m 0 ls []) := by
    intro H locs ls hW hl
    refine lv_aload_n hx hb dX10_text_0 rfl (lv_at hl 0 rfl) ?_
    refine zg_Main_reader X hW h0 zu_469 dX10_text_1 ?_
    refine zcalli (zrunV (As := []) (rest := []) X hml hl hW h0.2.2.2.2.2.2.1.1 rfl zk_Main_107 (c_Reader_readAll h0.2.2.2.2.2.2.1 h) rfl ⟨Nat.le_of_ble_eq_true rfl, Nat.le_of_ble_eq_true rfl⟩ ⟨Nat.le_refl 0, Nat.le_refl 0⟩ rfl (Nat.le_of_ble_eq_true rfl) dX10_text_4) hW (fun zr2 zm1 H locs h hW => ?_)
    refine lv_istore_n (lv' := [(1, .int zr2), (0, .ref (zad w 0))]) hx hb dX10_text_7 rfl hl (Nat.le_of_ble_eq_true rfl) rfl (fun ls hl => ?_)
    refine lv_aload_n hx hb dX10_text_8 rfl (lv_at hl 1 rfl) ?_
    refine zg_Main_reader X hW h0 zu_469 dX10_text_9 ?_
    refine lv_iconst hx hb dX10_text_12 zc_i0 ?_
    refine zp_Reader_length X hW h0.2.2.2.2.2.2.1 zu_114 dX10_text_13 (fun H locs zm3 ezm3 hW => ?_)
    replace h := h zm3 ezm3
    refine lv_iload_n hx hb dX10_text_16 rfl (lv_at hl 0 rfl) ?_
    refine lv_if_ne (tgt := 31) hx hb dX10_text_17 rfl (fun c => ?_) (fun c => ?_)
    · replace h := h.1 c
      refine lv_aload_n hx hb dX10_text_31 rfl (lv_at hl 1 rfl) ?_
      refine zg_Main_told X hW h0 zu_467 dX10_text_32 ?_
      refine lv_aload_n hx hb dX10_text_35 rfl (lv_at hl 1 rfl) ?_
      refine zg_Main_reader X hW h0 zu_469 dX10_text_36 ?_
      refine zg_Reader_draft X hW h0.2.2.2.2.2.2.1 zu_105 dX10_text_39 ?_
      refine zcallv (zrunV (As := [.ref (zad w 12)]) (rest := []) X hml hl hW h0.2.2.2.2.1.1 rfl zk_Main_117 (c_Told_copyFrom h0.2.2.2.2.1 h0.2.2.2.2.2.2.1.2.2 h) rfl ⟨Nat.le_of_ble_eq_true rfl, Nat.le_of_ble_eq_true rfl⟩ ⟨Nat.le_refl 0, Nat.le_refl 0⟩ rfl (Nat.le_of_ble_eq_true rfl) dX10_text_42) hW (fun zm4 H locs h hW => ?_)
      refine lv_aload_n hx hb dX10_text_45 rfl (lv_at hl 1 rfl) ?_
      refine zg_Main_bench X hW h0 zu_470 dX10_text_46 ?_
      refine zcallv (zrunV (As := []) (rest := []) X hml hl hW h0.2.2.2.2.2.2.2.1.1 rfl zk_Main_93 (c_Bench_clear h0.2.2.2.2.2.2.2.1 h) rfl ⟨Nat.le_of_ble_eq_true rfl, Nat.le_of_ble_eq_true rfl⟩ ⟨Nat.le_refl 0, Nat.le_refl 0⟩ rfl (Nat.le_of_ble_eq_true rfl) dX10_text_49) hW (fun zm6 H locs h hW => ?_)
      refine lv_aload_n hx hb dX10_text_52 rfl (lv_at hl 1 rfl) ?_
      refine zg_Main_bench X hW h0 zu_470 dX10_text_53 ?_
      refine zcallv (zrunV (As := []) (rest := []) X hml hl hW h0.2.2.2.2.2.2.2.1.1 rfl zk_Main_96 (c_Bench_doAll h0.2.2.2.2.2.2.2.1 h) rfl ⟨Nat.le_of_ble_eq_true rfl, Nat.le_of_ble_eq_true rfl⟩ ⟨Nat.le_refl 0, Nat.le_refl 0⟩ rfl (Nat.le_of_ble_eq_true rfl) dX10_text_56) hW (fun zm8 H locs h hW => ?_)
      refine lv_iconst hx hb dX10_text_59 zc_i0 ?_
      refine lv_istore_n (lv' := [(2, .int 0), (1, .int zr2), (0, .ref (zad w 0))]) hx hb dX10_text_60 rfl hl (Nat.le_of_ble_eq_true rfl) rfl (fun ls hl => ?_)
      obtain ⟨n, h⟩ := h
      refine zL_61   n 0 zm8 H locs ls hW (lv_sub hl [2, 0] rfl) h
    · replace h := h.2 c
      refine lv_bipush hx hb dX10_text_20 zc_bm10 ?_
      refine lv_aload_n hx hb dX10_text_22 rfl (lv_at hl 1 rfl) ?_
      refine zg_Main_reader X hW h0 zu_469 dX10_text_23 ?_
      refine zg_Reader_faultPlace X hW h0.2.2.2.2.2.2.1 zu_109 dX10_text_26 ?_
      refine lv_isub hx hb dX10_text_29 ?_
      exact zreti X hr hlk hW h dX10_text_30
  exact zMain s.heap [] ls hW hl
def wp_Main_fault  (M : zMem) (Q : Int32 → zMem → Prop) : Prop :=
  Q (M 11 1) M
set_option maxHeartbeats 4000000 in
set_option maxRecDepth 20000 in
theorem c_Main_fault {l : Launch} {w : zWd} {M : zMem} {post : Int32 → zMem → Prop} (h0 : zI_Main w) (h : wp_Main_fault  M post) : zMi l ⟨"HandToHand", "fault", "()I"⟩ prog_1_method_5_code 1 (Option.some .int) 0 0 w [.ref (zad w 0)] M post := by
  refine zMet (by decide) (Nat.le_of_ble_eq_true rfl) ?_
  intro p e s m below meth c X hr hlk hml hW ls hl
  have hx := X.1
  have hb := X.2.1
  have hl : lv_has ls 1 [(0, .ref (zad w 0))] := hl
  unfold wp_Main_fault at h
  have zMain : ∀ (H : Heap) (locs : List Loc) (ls : Array Slot), zWo w s.heap M H locs → lv_has ls 1 [(0, .ref (zad w 0))] → W p l e (zRm 0 0) s m ([.ref (zad w 0)] : List Value).toArray below meth c H locs 0 0 (MQ below (va_Qi post (zB w) (zA w)) ([.ref (zad w 0)] : List Value).toArray s 0 0 (zA w)) (F0 m 0 ls []) := by
    intro H locs ls hW hl
    refine lv_aload_n hx hb dX10_fault_0 rfl (lv_at hl 0 rfl) ?_
    refine zg_Main_reader X hW h0 zu_469 dX10_fault_1 ?_
    refine zg_Reader_fault X hW h0.2.2.2.2.2.2.1 zu_107 dX10_fault_4 ?_
    exact zreti X hr hlk hW h dX10_fault_7
  exact zMain s.heap [] ls hW hl
def wpJ_Main_rule_66 (a1 : Int32)  (Q : Int32 → zMem → Prop)   (M : zMem) : Prop :=
  ∀ zx1 : Int32, zx1 = a1 → (zx1 = 0 → Q (M 1 0) M) ∧ (zx1 = 1 → Q (M 1 1) M) ∧ (zx1 = 2 → Q (M 1 2) M) ∧ (zx1 = 3 → Q (M 1 3) M) ∧ (zx1 = 4 → Q (M 1 4) M) ∧ (zx1 = 5 → Q (M 1 5) M) ∧ (zx1 = 6 → Q (M 1 6) M) ∧ (¬ zx1 = 0 → ¬ zx1 = 1 → ¬ zx1 = 2 → ¬ zx1 = 3 → ¬ zx1 = 4 → ¬ zx1 = 5 → ¬ zx1 = 6 → Q ((-1)) M)
def wpJ_Main_rule_33 (a1 : Int32)  (Q : Int32 → zMem → Prop)   (M : zMem) : Prop :=
  (a1 < 20 → wpJ_Main_rule_66 a1 Q M) ∧ (¬ a1 < 20 → ((20 + (M 1 1)) ≤ a1 → wpJ_Main_rule_66 a1 Q M) ∧ (¬ (20 + (M 1 1)) ≤ a1 → vp_in (a1 - 20) 5 ∧ Q (M 5 (ix (a1 - 20))) M))
def wp_Main_rule (a1 : Int32) (M : zMem) (Q : Int32 → zMem → Prop) : Prop :=
  (a1 < 10 → wpJ_Main_rule_33 a1 Q M) ∧ (¬ a1 < 10 → ((10 + (M 1 6)) ≤ a1 → wpJ_Main_rule_33 a1 Q M) ∧ (¬ (10 + (M 1 6)) ≤ a1 → vp_in (a1 - 10) 6 ∧ Q (M 2 (ix (a1 - 10))) M))
set_option maxHeartbeats 4000000 in
set_option maxRecDepth 20000 in
theorem c_Main_rule {l : Launch} {w : zWd} {a1 : Int32} {M : zMem} {post : Int32 → zMem → Prop} (h0 : zI_Main w) (h : wp_Main_rule a1 M post) : zMi l ⟨"HandToHand", "rule", "(I)I"⟩ prog_1_method_6_code 2 (Option.some .int) 0 0 w [.ref (zad w 0), .int a1] M post := by
  refine zMet (by decide) (Nat.le_of_ble_eq_true rfl) ?_
  intro p e s m below meth c X hr hlk hml hW ls hl
  have hx := X.1
  have hb := X.2.1
  have hl : lv_has ls 2 [(0, .ref (zad w 0)), (1, .int a1)] := hl
  have zJ_66 : ∀ (M : zMem) (H : Heap) (locs : List Loc) (ls : Array Slot), zWo w s.heap M H locs → lv_has ls 2 [(0, .ref (zad w 0)), (1, .int a1)] → wpJ_Main_rule_66 a1 post M → W p l e (zRm 0 0) s m ([.ref (zad w 0), .int a1] : List Value).toArray below meth c H locs 0 0 (MQ below (va_Qi post (zB w) (zA w)) ([.ref (zad w 0), .int a1] : List Value).toArray s 0 0 (zA w)) (F0 m 66 ls []) := by
    intro  M H locs ls hW hl h
    unfold wpJ_Main_rule_66 at h
    refine lv_iload_n hx hb dX10_rule_66 rfl (lv_at hl 1 rfl) ?_
    refine lv_topi (fun zx1 ezx1 => ?_)
    replace h := h zx1 ezx1
    by_cases c0 : zx1 = 0
    · replace h := h.1 c0
      refine lv_tableIn (off := 41) (tgt := 108) hx hb dX10_rule_67 (by rw [c0]; decide) (by rw [c0]; decide) (by rw [c0]; rfl) rfl ?_
      refine lv_aload_n hx hb dX10_rule_108 rfl (lv_at hl 0 rfl) ?_
      refine zg_Main_told X hW h0 zu_467 dX10_rule_109 ?_
      refine zg_Told_pieces X hW h0.2.2.2.2.1 zu_35 dX10_rule_112 ?_
      exact zreti X hr hlk hW h dX10_rule_115
    replace h := h.2
    by_cases c1 : zx1 = 1
    · replace h := h.1 c1
      refine lv_tableIn (off := 49) (tgt := 116) hx hb dX10_rule_67 (by rw [c1]; decide) (by rw [c1]; decide) (by rw [c1]; rfl) rfl ?_
      refine lv_aload_n hx hb dX10_rule_116 rfl (lv_at hl 0 rfl) ?_
      refine zg_Main_told X hW h0 zu_467 dX10_rule_117 ?_
      refine zg_Told_hands X hW h0.2.2.2.2.1 zu_41 dX10_rule_120 ?_
      exact zreti X hr hlk hW h dX10_rule_123
    replace h := h.2
    by_cases c2 : zx1 = 2
    · replace h := h.1 c2
      refine lv_tableIn (off := 57) (tgt := 124) hx hb dX10_rule_67 (by rw [c2]; decide) (by rw [c2]; decide) (by rw [c2]; rfl) rfl ?_
      refine lv_aload_n hx hb dX10_rule_124 rfl (lv_at hl 0 rfl) ?_
      refine zg_Main_told X hW h0 zu_467 dX10_rule_125 ?_
      refine zg_Told_walk X hW h0.2.2.2.2.1 zu_43 dX10_rule_128 ?_
      exact zreti X hr hlk hW h dX10_rule_131
    replace h := h.2
    by_cases c3 : zx1 = 3
    · replace h := h.1 c3
      refine lv_tableIn (off := 65) (tgt := 132) hx hb dX10_rule_67 (by rw [c3]; decide) (by rw [c3]; decide) (by rw [c3]; rfl) rfl ?_
      refine lv_aload_n hx hb dX10_rule_132 rfl (lv_at hl 0 rfl) ?_
      refine zg_Main_told X hW h0 zu_467 dX10_rule_133 ?_
      refine zg_Told_learn X hW h0.2.2.2.2.1 zu_47 dX10_rule_136 ?_
      exact zreti X hr hlk hW h dX10_rule_139
    replace h := h.2
    by_cases c4 : zx1 = 4
    · replace h := h.1 c4
      refine lv_tableIn (off := 73) (tgt := 140) hx hb dX10_rule_67 (by rw [c4]; decide) (by rw [c4]; decide) (by rw [c4]; rfl) rfl ?_
      refine lv_aload_n hx hb dX10_rule_140 rfl (lv_at hl 0 rfl) ?_
      refine zg_Main_told X hW h0 zu_467 dX10_rule_141 ?_
      refine zg_Told_kind X hW h0.2.2.2.2.1 zu_50 dX10_rule_144 ?_
      exact zreti X hr hlk hW h dX10_rule_147
    replace h := h.2
    by_cases c5 : zx1 = 5
    · replace h := h.1 c5
      refine lv_tableIn (off := 81) (tgt := 148) hx hb dX10_rule_67 (by rw [c5]; decide) (by rw [c5]; decide) (by rw [c5]; rfl) rfl ?_
      refine lv_aload_n hx hb dX10_rule_148 rfl (lv_at hl 0 rfl) ?_
      refine zg_Main_told X hW h0 zu_467 dX10_rule_149 ?_
      refine zg_Told_whole X hW h0.2.2.2.2.1 zu_53 dX10_rule_152 ?_
      exact zreti X hr hlk hW h dX10_rule_155
    replace h := h.2
    by_cases c6 : zx1 = 6
    · replace h := h.1 c6
      refine lv_tableIn (off := 89) (tgt := 156) hx hb dX10_rule_67 (by rw [c6]; decide) (by rw [c6]; decide) (by rw [c6]; rfl) rfl ?_
      refine lv_aload_n hx hb dX10_rule_156 rfl (lv_at hl 0 rfl) ?_
      refine zg_Main_told X hW h0 zu_467 dX10_rule_157 ?_
      refine zg_Told_rowLength X hW h0.2.2.2.2.1 zu_56 dX10_rule_160 ?_
      exact zreti X hr hlk hW h dX10_rule_163
    replace h := h.2
    replace h := h c0 c1 c2 c3 c4 c5 c6
    refine lv_tableOut (tgt := 164) hx hb dX10_rule_67 (zsw 6 (Nat.le_of_ble_eq_true rfl) (fun j hj => ?_)) rfl ?_
    · rcases (show j = 0 ∨ j = 1 ∨ j = 2 ∨ j = 3 ∨ j = 4 ∨ j = 5 ∨ j = 6 by omega) with rfl | rfl | rfl | rfl | rfl | rfl | rfl
      · exact c0
      · exact c1
      · exact c2
      · exact c3
      · exact c4
      · exact c5
      · exact c6
    refine lv_iconst hx hb dX10_rule_164 zc_im1 ?_
    exact zreti X hr hlk hW h dX10_rule_165
  have zJ_33 : ∀ (M : zMem) (H : Heap) (locs : List Loc) (ls : Array Slot), zWo w s.heap M H locs → lv_has ls 2 [(0, .ref (zad w 0)), (1, .int a1)] → wpJ_Main_rule_33 a1 post M → W p l e (zRm 0 0) s m ([.ref (zad w 0), .int a1] : List Value).toArray below meth c H locs 0 0 (MQ below (va_Qi post (zB w) (zA w)) ([.ref (zad w 0), .int a1] : List Value).toArray s 0 0 (zA w)) (F0 m 33 ls []) := by
    intro  M H locs ls hW hl h
    unfold wpJ_Main_rule_33 at h
    refine lv_iload_n hx hb dX10_rule_33 rfl (lv_at hl 1 rfl) ?_
    refine lv_bipush hx hb dX10_rule_34 zc_b20 ?_
    refine lv_icmp_lt (tgt := 66) hx hb dX10_rule_36 rfl (fun c => ?_) (fun c => ?_)
    · replace h := h.1 c
      exact zJ_66  M H locs ls hW (lv_sub hl [0, 1] rfl) h
    · replace h := h.2 c
      refine lv_iload_n hx hb dX10_rule_39 rfl (lv_at hl 1 rfl) ?_
      refine lv_bipush hx hb dX10_rule_40 zc_b20 ?_
      refine lv_aload_n hx hb dX10_rule_42 rfl (lv_at hl 0 rfl) ?_
      refine zg_Main_told X hW h0 zu_467 dX10_rule_43 ?_
      refine zg_Told_hands X hW h0.2.2.2.2.1 zu_41 dX10_rule_46 ?_
      refine lv_iadd hx hb dX10_rule_49 ?_
      refine lv_icmp_ge (tgt := 66) hx hb dX10_rule_50 rfl (fun c => ?_) (fun c => ?_)
      · replace h := h.1 c
        exact zJ_66  M H locs ls hW (lv_sub hl [0, 1] rfl) h
      · replace h := h.2 c
        refine lv_aload_n hx hb dX10_rule_53 rfl (lv_at hl 0 rfl) ?_
        refine zg_Main_told X hW h0 zu_467 dX10_rule_54 ?_
        refine zg_Told_ends X hW h0.2.2.2.2.1 zu_70 dX10_rule_57 ?_
        refine lv_iload_n hx hb dX10_rule_60 rfl (lv_at hl 1 rfl) ?_
        refine lv_bipush hx hb dX10_rule_61 zc_b20 ?_
        refine lv_isub hx hb dX10_rule_63 ?_
        obtain ⟨g, h⟩ := h
        refine ziald X hW h0.2.2.2.2.1.2.2.2.2 g dX10_rule_64 ?_
        exact zreti X hr hlk hW h dX10_rule_65
  unfold wp_Main_rule at h
  have zMain : ∀ (H : Heap) (locs : List Loc) (ls : Array Slot), zWo w s.heap M H locs → lv_has ls 2 [(0, .ref (zad w 0)), (1, .int a1)] → W p l e (zRm 0 0) s m ([.ref (zad w 0), .int a1] : List Value).toArray below meth c H locs 0 0 (MQ below (va_Qi post (zB w) (zA w)) ([.ref (zad w 0), .int a1] : List Value).toArray s 0 0 (zA w)) (F0 m 0 ls []) := by
    intro H locs ls hW hl
    refine lv_iload_n hx hb dX10_rule_0 rfl (lv_at hl 1 rfl) ?_
    refine lv_bipush hx hb dX10_rule_1 zc_b10 ?_
    refine lv_icmp_lt (tgt := 33) hx hb dX10_rule_3 rfl (fun c => ?_) (fun c => ?_)
    · replace h := h.1 c
      exact zJ_33  M H locs ls hW (lv_sub hl [0, 1] rfl) h
    · replace h := h.2 c
      refine lv_iload_n hx hb dX10_rule_6 rfl (lv_at hl 1 rfl) ?_
      refine lv_bipush hx hb dX10_rule_7 zc_b10 ?_
      refine lv_aload_n hx hb dX10_rule_9 rfl (lv_at hl 0 rfl) ?_
      refine zg_Main_told X hW h0 zu_467 dX10_rule_10 ?_
      refine zg_Told_rowLength X hW h0.2.2.2.2.1 zu_56 dX10_rule_13 ?_
      refine lv_iadd hx hb dX10_rule_16 ?_
      refine lv_icmp_ge (tgt := 33) hx hb dX10_rule_17 rfl (fun c => ?_) (fun c => ?_)
      · replace h := h.1 c
        exact zJ_33  M H locs ls hW (lv_sub hl [0, 1] rfl) h
      · replace h := h.2 c
        refine lv_aload_n hx hb dX10_rule_20 rfl (lv_at hl 0 rfl) ?_
        refine zg_Main_told X hW h0 zu_467 dX10_rule_21 ?_
        refine zg_Told_row X hW h0.2.2.2.2.1 zu_60 dX10_rule_24 ?_
        refine lv_iload_n hx hb dX10_rule_27 rfl (lv_at hl 1 rfl) ?_
        refine lv_bipush hx hb dX10_rule_28 zc_b10 ?_
        refine lv_isub hx hb dX10_rule_30 ?_
        obtain ⟨g, h⟩ := h
        refine ziald X hW h0.2.2.2.2.1.2.1 g dX10_rule_31 ?_
        exact zreti X hr hlk hW h dX10_rule_32
  exact zMain s.heap [] ls hW hl
def wp_Main_isPiece (a1 : Int32) (M : zMem) (Q : Int32 → zMem → Prop) : Prop :=
  (a1 < 0 → Q 0 M) ∧ (¬ a1 < 0 → ((M 1 0) ≤ a1 → Q 0 M) ∧ (¬ (M 1 0) ≤ a1 → Q 1 M))
set_option maxHeartbeats 4000000 in
set_option maxRecDepth 20000 in
theorem c_Main_isPiece {l : Launch} {w : zWd} {a1 : Int32} {M : zMem} {post : Int32 → zMem → Prop} (h0 : zI_Main w) (h : wp_Main_isPiece a1 M post) : zMi l ⟨"HandToHand", "isPiece", "(I)Z"⟩ prog_1_method_37_code 2 (Option.some .boolean) 0 0 w [.ref (zad w 0), .int a1] M post := by
  refine zMet (by decide) (Nat.le_of_ble_eq_true rfl) ?_
  intro p e s m below meth c X hr hlk hml hW ls hl
  have hx := X.1
  have hb := X.2.1
  have hl : lv_has ls 2 [(0, .ref (zad w 0)), (1, .int a1)] := hl
  unfold wp_Main_isPiece at h
  have zMain : ∀ (H : Heap) (locs : List Loc) (ls : Array Slot), zWo w s.heap M H locs → lv_has ls 2 [(0, .ref (zad w 0)), (1, .int a1)] → W p l e (zRm 0 0) s m ([.ref (zad w 0), .int a1] : List Value).toArray below meth c H locs 0 0 (MQ below (va_Qi post (zB w) (zA w)) ([.ref (zad w 0), .int a1] : List Value).toArray s 0 0 (zA w)) (F0 m 0 ls []) := by
    intro H locs ls hW hl
    refine lv_iload_n hx hb dX10_isPiece_0 rfl (lv_at hl 1 rfl) ?_
    refine lv_if_lt (tgt := 19) hx hb dX10_isPiece_1 rfl (fun c => ?_) (fun c => ?_)
    · replace h := h.1 c
      refine lv_iconst hx hb dX10_isPiece_19 zc_i0 ?_
      exact zretz X hr hlk hW rfl h dX10_isPiece_20
    · replace h := h.2 c
      refine lv_iload_n hx hb dX10_isPiece_4 rfl (lv_at hl 1 rfl) ?_
      refine lv_aload_n hx hb dX10_isPiece_5 rfl (lv_at hl 0 rfl) ?_
      refine zg_Main_told X hW h0 zu_467 dX10_isPiece_6 ?_
      refine zg_Told_pieces X hW h0.2.2.2.2.1 zu_35 dX10_isPiece_9 ?_
      refine lv_icmp_ge (tgt := 19) hx hb dX10_isPiece_12 rfl (fun c => ?_) (fun c => ?_)
      · replace h := h.1 c
        refine lv_iconst hx hb dX10_isPiece_19 zc_i0 ?_
        exact zretz X hr hlk hW rfl h dX10_isPiece_20
      · replace h := h.2 c
        refine lv_iconst hx hb dX10_isPiece_15 zc_i1 ?_
        refine lv_goto (tgt := 20) hx hb dX10_isPiece_16 rfl ?_
        exact zretz X hr hlk hW rfl h dX10_isPiece_20
  exact zMain s.heap [] ls hW hl
def wp_Main_units (a1 : Int32) (a2 : Int32) (M : zMem) (Q : Int32 → zMem → Prop) : Prop :=
  (a1 < 0 → Q ((-1)) M) ∧ (¬ a1 < 0 → (3 ≤ a1 → Q ((-1)) M) ∧ (¬ 3 ≤ a1 → wp_Main_isPiece a2 M (fun zr2 zm1 => (¬ zr2 = 0 → wp_Told_unitsOf 1 a1 a2 zm1 (fun zr4 zm3 => Q zr4 zm3)) ∧ (zr2 = 0 → Q ((-1)) zm1))))
set_option maxHeartbeats 4000000 in
set_option maxRecDepth 20000 in
theorem c_Main_units {l : Launch} {w : zWd} {a1 : Int32} {a2 : Int32} {M : zMem} {post : Int32 → zMem → Prop} (h0 : zI_Main w) (h : wp_Main_units a1 a2 M post) : zMi l ⟨"HandToHand", "units", "(II)I"⟩ prog_1_method_7_code 3 (Option.some .int) 1 22 w [.ref (zad w 0), .int a1, .int a2] M post := by
  refine zMet (by decide) (Nat.le_of_ble_eq_true rfl) ?_
  intro p e s m below meth c X hr hlk hml hW ls hl
  have hx := X.1
  have hb := X.2.1
  have hl : lv_has ls 3 [(0, .ref (zad w 0)), (1, .int a1), (2, .int a2)] := hl
  unfold wp_Main_units at h
  have zMain : ∀ (H : Heap) (locs : List Loc) (ls : Array Slot), zWo w s.heap M H locs → lv_has ls 3 [(0, .ref (zad w 0)), (1, .int a1), (2, .int a2)] → W p l e (zRm 1 22) s m ([.ref (zad w 0), .int a1, .int a2] : List Value).toArray below meth c H locs 0 0 (MQ below (va_Qi post (zB w) (zA w)) ([.ref (zad w 0), .int a1, .int a2] : List Value).toArray s 0 0 (zA w)) (F0 m 0 ls []) := by
    intro H locs ls hW hl
    refine lv_iload_n hx hb dX10_units_0 rfl (lv_at hl 1 rfl) ?_
    refine lv_if_lt (tgt := 17) hx hb dX10_units_1 rfl (fun c => ?_) (fun c => ?_)
    · replace h := h.1 c
      refine lv_iconst hx hb dX10_units_17 zc_im1 ?_
      exact zreti X hr hlk hW h dX10_units_18
    · replace h := h.2 c
      refine lv_iload_n hx hb dX10_units_4 rfl (lv_at hl 1 rfl) ?_
      refine lv_iconst hx hb dX10_units_5 zc_i3 ?_
      refine lv_icmp_ge (tgt := 17) hx hb dX10_units_6 rfl (fun c => ?_) (fun c => ?_)
      · replace h := h.1 c
        refine lv_iconst hx hb dX10_units_17 zc_im1 ?_
        exact zreti X hr hlk hW h dX10_units_18
      · replace h := h.2 c
        refine lv_aload_n hx hb dX10_units_9 rfl (lv_at hl 0 rfl) ?_
        refine lv_iload_n hx hb dX10_units_10 rfl (lv_at hl 2 rfl) ?_
        refine zcalli (zrunV (As := [.int a2]) (rest := []) X hml hl hW h0.1 rfl zk_Main_157 (c_Main_isPiece h0 h) rfl ⟨Nat.le_of_ble_eq_true rfl, Nat.le_of_ble_eq_true rfl⟩ ⟨Nat.le_refl 0, Nat.le_refl 0⟩ rfl (Nat.le_of_ble_eq_true rfl) dX10_units_11) hW (fun zr2 zm1 H locs h hW => ?_)
        refine lv_if_ne (tgt := 19) hx hb dX10_units_14 rfl (fun c => ?_) (fun c => ?_)
        · replace h := h.1 c
          refine lv_aload_n hx hb dX10_units_19 rfl (lv_at hl 0 rfl) ?_
          refine zg_Main_told X hW h0 zu_467 dX10_units_20 ?_
          refine lv_iload_n hx hb dX10_units_23 rfl (lv_at hl 1 rfl) ?_
          refine lv_iload_n hx hb dX10_units_24 rfl (lv_at hl 2 rfl) ?_
          refine zcalli (zrunV (As := [.int a1, .int a2]) (rest := []) X hml hl hW h0.2.2.2.2.1.1 rfl zk_Main_161 (c_Told_unitsOf h0.2.2.2.2.1 h) rfl ⟨Nat.le_of_ble_eq_true rfl, Nat.le_of_ble_eq_true rfl⟩ ⟨Nat.le_refl 0, Nat.le_refl 0⟩ rfl (Nat.le_of_ble_eq_true rfl) dX10_units_25) hW (fun zr4 zm3 H locs h hW => ?_)
          exact zreti X hr hlk hW h dX10_units_28
        · replace h := h.2 c
          refine lv_iconst hx hb dX10_units_17 zc_im1 ?_
          exact zreti X hr hlk hW h dX10_units_18
  exact zMain s.heap [] ls hW hl
def wp_Main_isHand (a1 : Int32) (M : zMem) (Q : Int32 → zMem → Prop) : Prop :=
  (a1 < 0 → Q 0 M) ∧ (¬ a1 < 0 → ((M 1 1) ≤ a1 → Q 0 M) ∧ (¬ (M 1 1) ≤ a1 → Q 1 M))
set_option maxHeartbeats 4000000 in
set_option maxRecDepth 20000 in
theorem c_Main_isHand {l : Launch} {w : zWd} {a1 : Int32} {M : zMem} {post : Int32 → zMem → Prop} (h0 : zI_Main w) (h : wp_Main_isHand a1 M post) : zMi l ⟨"HandToHand", "isHand", "(I)Z"⟩ prog_1_method_38_code 2 (Option.some .boolean) 0 0 w [.ref (zad w 0), .int a1] M post := by
  refine zMet (by decide) (Nat.le_of_ble_eq_true rfl) ?_
  intro p e s m below meth c X hr hlk hml hW ls hl
  have hx := X.1
  have hb := X.2.1
  have hl : lv_has ls 2 [(0, .ref (zad w 0)), (1, .int a1)] := hl
  unfold wp_Main_isHand at h
  have zMain : ∀ (H : Heap) (locs : List Loc) (ls : Array Slot), zWo w s.heap M H locs → lv_has ls 2 [(0, .ref (zad w 0)), (1, .int a1)] → W p l e (zRm 0 0) s m ([.ref (zad w 0), .int a1] : List Value).toArray below meth c H locs 0 0 (MQ below (va_Qi post (zB w) (zA w)) ([.ref (zad w 0), .int a1] : List Value).toArray s 0 0 (zA w)) (F0 m 0 ls []) := by
    intro H locs ls hW hl
    refine lv_iload_n hx hb dX10_isHand_0 rfl (lv_at hl 1 rfl) ?_
    refine lv_if_lt (tgt := 19) hx hb dX10_isHand_1 rfl (fun c => ?_) (fun c => ?_)
    · replace h := h.1 c
      refine lv_iconst hx hb dX10_isHand_19 zc_i0 ?_
      exact zretz X hr hlk hW rfl h dX10_isHand_20
    · replace h := h.2 c
      refine lv_iload_n hx hb dX10_isHand_4 rfl (lv_at hl 1 rfl) ?_
      refine lv_aload_n hx hb dX10_isHand_5 rfl (lv_at hl 0 rfl) ?_
      refine zg_Main_told X hW h0 zu_467 dX10_isHand_6 ?_
      refine zg_Told_hands X hW h0.2.2.2.2.1 zu_41 dX10_isHand_9 ?_
      refine lv_icmp_ge (tgt := 19) hx hb dX10_isHand_12 rfl (fun c => ?_) (fun c => ?_)
      · replace h := h.1 c
        refine lv_iconst hx hb dX10_isHand_19 zc_i0 ?_
        exact zretz X hr hlk hW rfl h dX10_isHand_20
      · replace h := h.2 c
        refine lv_iconst hx hb dX10_isHand_15 zc_i1 ?_
        refine lv_goto (tgt := 20) hx hb dX10_isHand_16 rfl ?_
        exact zretz X hr hlk hW rfl h dX10_isHand_20
  exact zMain s.heap [] ls hW hl
def wp_Main_pace (a1 : Int32) (a2 : Int32) (M : zMem) (Q : Int32 → zMem → Prop) : Prop :=
  wp_Main_isHand a1 M (fun zr2 zm1 => (zr2 = 0 → Q ((-1)) zm1) ∧ (¬ zr2 = 0 → wp_Main_isPiece a2 zm1 (fun zr4 zm3 => (¬ zr4 = 0 → wp_Told_paceOf 1 a1 a2 zm3 (fun zr6 zm5 => Q zr6 zm5)) ∧ (zr4 = 0 → Q ((-1)) zm3))))
set_option maxHeartbeats 4000000 in
set_option maxRecDepth 20000 in
theorem c_Main_pace {l : Launch} {w : zWd} {a1 : Int32} {a2 : Int32} {M : zMem} {post : Int32 → zMem → Prop} (h0 : zI_Main w) (h : wp_Main_pace a1 a2 M post) : zMi l ⟨"HandToHand", "pace", "(II)I"⟩ prog_1_method_8_code 3 (Option.some .int) 1 22 w [.ref (zad w 0), .int a1, .int a2] M post := by
  refine zMet (by decide) (Nat.le_of_ble_eq_true rfl) ?_
  intro p e s m below meth c X hr hlk hml hW ls hl
  have hx := X.1
  have hb := X.2.1
  have hl : lv_has ls 3 [(0, .ref (zad w 0)), (1, .int a1), (2, .int a2)] := hl
  unfold wp_Main_pace at h
  have zMain : ∀ (H : Heap) (locs : List Loc) (ls : Array Slot), zWo w s.heap M H locs → lv_has ls 3 [(0, .ref (zad w 0)), (1, .int a1), (2, .int a2)] → W p l e (zRm 1 22) s m ([.ref (zad w 0), .int a1, .int a2] : List Value).toArray below meth c H locs 0 0 (MQ below (va_Qi post (zB w) (zA w)) ([.ref (zad w 0), .int a1, .int a2] : List Value).toArray s 0 0 (zA w)) (F0 m 0 ls []) := by
    intro H locs ls hW hl
    refine lv_aload_n hx hb dX10_pace_0 rfl (lv_at hl 0 rfl) ?_
    refine lv_iload_n hx hb dX10_pace_1 rfl (lv_at hl 1 rfl) ?_
    refine zcalli (zrunV (As := [.int a1]) (rest := []) X hml hl hW h0.1 rfl zk_Main_165 (c_Main_isHand h0 h) rfl ⟨Nat.le_of_ble_eq_true rfl, Nat.le_of_ble_eq_true rfl⟩ ⟨Nat.le_refl 0, Nat.le_refl 0⟩ rfl (Nat.le_of_ble_eq_true rfl) dX10_pace_2) hW (fun zr2 zm1 H locs h hW => ?_)
    refine lv_if_eq (tgt := 16) hx hb dX10_pace_5 rfl (fun c => ?_) (fun c => ?_)
    · replace h := h.1 c
      refine lv_iconst hx hb dX10_pace_16 zc_im1 ?_
      exact zreti X hr hlk hW h dX10_pace_17
    · replace h := h.2 c
      refine lv_aload_n hx hb dX10_pace_8 rfl (lv_at hl 0 rfl) ?_
      refine lv_iload_n hx hb dX10_pace_9 rfl (lv_at hl 2 rfl) ?_
      refine zcalli (zrunV (As := [.int a2]) (rest := []) X hml hl hW h0.1 rfl zk_Main_157 (c_Main_isPiece h0 h) rfl ⟨Nat.le_of_ble_eq_true rfl, Nat.le_of_ble_eq_true rfl⟩ ⟨Nat.le_refl 0, Nat.le_refl 0⟩ rfl (Nat.le_of_ble_eq_true rfl) dX10_pace_10) hW (fun zr4 zm3 H locs h hW => ?_)
      refine lv_if_ne (tgt := 18) hx hb dX10_pace_13 rfl (fun c => ?_) (fun c => ?_)
      · replace h := h.1 c
        refine lv_aload_n hx hb dX10_pace_18 rfl (lv_at hl 0 rfl) ?_
        refine zg_Main_told X hW h0 zu_467 dX10_pace_19 ?_
        refine lv_iload_n hx hb dX10_pace_22 rfl (lv_at hl 1 rfl) ?_
        refine lv_iload_n hx hb dX10_pace_23 rfl (lv_at hl 2 rfl) ?_
        refine zcalli (zrunV (As := [.int a1, .int a2]) (rest := []) X hml hl hW h0.2.2.2.2.1.1 rfl zk_Main_168 (c_Told_paceOf h0.2.2.2.2.1 h) rfl ⟨Nat.le_of_ble_eq_true rfl, Nat.le_of_ble_eq_true rfl⟩ ⟨Nat.le_refl 0, Nat.le_refl 0⟩ rfl (Nat.le_of_ble_eq_true rfl) dX10_pace_24) hW (fun zr6 zm5 H locs h hW => ?_)
        exact zreti X hr hlk hW h dX10_pace_27
      · replace h := h.2 c
        refine lv_iconst hx hb dX10_pace_16 zc_im1 ?_
        exact zreti X hr hlk hW h dX10_pace_17
  exact zMain s.heap [] ls hW hl
def wp_Main_isPace (a1 : Int32) (M : zMem) (Q : Int32 → zMem → Prop) : Prop :=
  (a1 < 1 → Q 0 M) ∧ (¬ a1 < 1 → (9 < a1 → Q 0 M) ∧ (¬ 9 < a1 → Q 1 M))
set_option maxHeartbeats 4000000 in
set_option maxRecDepth 20000 in
theorem c_Main_isPace {l : Launch} {w : zWd} {a1 : Int32} {M : zMem} {post : Int32 → zMem → Prop}  (h : wp_Main_isPace a1 M post) : zMi l ⟨"HandToHand", "isPace", "(I)Z"⟩ prog_1_method_40_code 1 (Option.some .boolean) 0 0 w [.int a1] M post := by
  refine zMet (by decide) (Nat.le_of_ble_eq_true rfl) ?_
  intro p e s m below meth c X hr hlk hml hW ls hl
  have hx := X.1
  have hb := X.2.1
  have hl : lv_has ls 1 [(0, .int a1)] := hl
  unfold wp_Main_isPace at h
  have zMain : ∀ (H : Heap) (locs : List Loc) (ls : Array Slot), zWo w s.heap M H locs → lv_has ls 1 [(0, .int a1)] → W p l e (zRm 0 0) s m ([.int a1] : List Value).toArray below meth c H locs 0 0 (MQ below (va_Qi post (zB w) (zA w)) ([.int a1] : List Value).toArray s 0 0 (zA w)) (F0 m 0 ls []) := by
    intro H locs ls hW hl
    refine lv_iload_n hx hb dX10_isPace_0 rfl (lv_at hl 0 rfl) ?_
    refine lv_iconst hx hb dX10_isPace_1 zc_i1 ?_
    refine lv_icmp_lt (tgt := 15) hx hb dX10_isPace_2 rfl (fun c => ?_) (fun c => ?_)
    · replace h := h.1 c
      refine lv_iconst hx hb dX10_isPace_15 zc_i0 ?_
      exact zretz X hr hlk hW rfl h dX10_isPace_16
    · replace h := h.2 c
      refine lv_iload_n hx hb dX10_isPace_5 rfl (lv_at hl 0 rfl) ?_
      refine lv_bipush hx hb dX10_isPace_6 zc_b9 ?_
      refine lv_icmp_gt (tgt := 15) hx hb dX10_isPace_8 rfl (fun c => ?_) (fun c => ?_)
      · replace h := h.1 c
        refine lv_iconst hx hb dX10_isPace_15 zc_i0 ?_
        exact zretz X hr hlk hW rfl h dX10_isPace_16
      · replace h := h.2 c
        refine lv_iconst hx hb dX10_isPace_11 zc_i1 ?_
        refine lv_goto (tgt := 16) hx hb dX10_isPace_12 rfl ?_
        exact zretz X hr hlk hW rfl h dX10_isPace_16
  exact zMain s.heap [] ls hW hl
def wp_Main_setPace (a1 : Int32) (a2 : Int32) (a3 : Int32) (M : zMem) (Q : Int32 → zMem → Prop) : Prop :=
  wp_Main_isHand a1 M (fun zr2 zm1 => (zr2 = 0 → Q ((-1)) zm1) ∧ (¬ zr2 = 0 → wp_Main_isPiece a2 zm1 (fun zr4 zm3 => (zr4 = 0 → Q ((-1)) zm3) ∧ (¬ zr4 = 0 → wp_Main_isPace a3 zm3 (fun zr6 zm5 => (¬ zr6 = 0 → wp_Told_paceOf 1 a1 a2 zm5 (fun zr8 zm7 => vp_in ((a1 * 8) + a2) 40 ∧ ∀ zm9 : zMem, zm9 = zup zm7 4 (ix ((a1 * 8) + a2)) a3 → wp_Main_forgetAnswers zm9 (fun zm10 => Q zr8 zm10))) ∧ (zr6 = 0 → Q ((-1)) zm5))))))
set_option maxHeartbeats 4000000 in
set_option maxRecDepth 20000 in
theorem c_Main_setPace {l : Launch} {w : zWd} {a1 : Int32} {a2 : Int32} {a3 : Int32} {M : zMem} {post : Int32 → zMem → Prop} (h0 : zI_Main w) (h : wp_Main_setPace a1 a2 a3 M post) : zMi l ⟨"HandToHand", "setPace", "(III)I"⟩ prog_1_method_9_code 5 (Option.some .int) 2 41 w [.ref (zad w 0), .int a1, .int a2, .int a3] M post := by
  refine zMet (by decide) (Nat.le_of_ble_eq_true rfl) ?_
  intro p e s m below meth c X hr hlk hml hW ls hl
  have hx := X.1
  have hb := X.2.1
  have hl : lv_has ls 5 [(0, .ref (zad w 0)), (1, .int a1), (2, .int a2), (3, .int a3)] := hl
  unfold wp_Main_setPace at h
  have zMain : ∀ (H : Heap) (locs : List Loc) (ls : Array Slot), zWo w s.heap M H locs → lv_has ls 5 [(0, .ref (zad w 0)), (1, .int a1), (2, .int a2), (3, .int a3)] → W p l e (zRm 2 41) s m ([.ref (zad w 0), .int a1, .int a2, .int a3] : List Value).toArray below meth c H locs 0 0 (MQ below (va_Qi post (zB w) (zA w)) ([.ref (zad w 0), .int a1, .int a2, .int a3] : List Value).toArray s 0 0 (zA w)) (F0 m 0 ls []) := by
    intro H locs ls hW hl
    refine lv_aload_n hx hb dX10_setPace_0 rfl (lv_at hl 0 rfl) ?_
    refine lv_iload_n hx hb dX10_setPace_1 rfl (lv_at hl 1 rfl) ?_
    refine zcalli (zrunV (As := [.int a1]) (rest := []) X hml hl hW h0.1 rfl zk_Main_165 (c_Main_isHand h0 h) rfl ⟨Nat.le_of_ble_eq_true rfl, Nat.le_of_ble_eq_true rfl⟩ ⟨Nat.le_refl 0, Nat.le_refl 0⟩ rfl (Nat.le_of_ble_eq_true rfl) dX10_setPace_2) hW (fun zr2 zm1 H locs h hW => ?_)
    refine lv_if_eq (tgt := 23) hx hb dX10_setPace_5 rfl (fun c => ?_) (fun c => ?_)
    · replace h := h.1 c
      refine lv_iconst hx hb dX10_setPace_23 zc_im1 ?_
      exact zreti X hr hlk hW h dX10_setPace_24
    · replace h := h.2 c
      refine lv_aload_n hx hb dX10_setPace_8 rfl (lv_at hl 0 rfl) ?_
      refine lv_iload_n hx hb dX10_setPace_9 rfl (lv_at hl 2 rfl) ?_
      refine zcalli (zrunV (As := [.int a2]) (rest := []) X hml hl hW h0.1 rfl zk_Main_157 (c_Main_isPiece h0 h) rfl ⟨Nat.le_of_ble_eq_true rfl, Nat.le_of_ble_eq_true rfl⟩ ⟨Nat.le_refl 0, Nat.le_refl 0⟩ rfl (Nat.le_of_ble_eq_true rfl) dX10_setPace_10) hW (fun zr4 zm3 H locs h hW => ?_)
      refine lv_if_eq (tgt := 23) hx hb dX10_setPace_13 rfl (fun c => ?_) (fun c => ?_)
      · replace h := h.1 c
        refine lv_iconst hx hb dX10_setPace_23 zc_im1 ?_
        exact zreti X hr hlk hW h dX10_setPace_24
      · replace h := h.2 c
        refine lv_iload_n hx hb dX10_setPace_16 rfl (lv_at hl 3 rfl) ?_
        refine zcalli (zrunS (As := [.int a3]) (rest := []) X hml hl hW zk_Main_171 (c_Main_isPace  h) rfl ⟨Nat.le_of_ble_eq_true rfl, Nat.le_of_ble_eq_true rfl⟩ ⟨Nat.le_refl 0, Nat.le_refl 0⟩ rfl (Nat.le_of_ble_eq_true rfl) dX10_setPace_17) hW (fun zr6 zm5 H locs h hW => ?_)
        refine lv_if_ne (tgt := 25) hx hb dX10_setPace_20 rfl (fun c => ?_) (fun c => ?_)
        · replace h := h.1 c
          refine lv_aload_n hx hb dX10_setPace_25 rfl (lv_at hl 0 rfl) ?_
          refine zg_Main_told X hW h0 zu_467 dX10_setPace_26 ?_
          refine lv_iload_n hx hb dX10_setPace_29 rfl (lv_at hl 1 rfl) ?_
          refine lv_iload_n hx hb dX10_setPace_30 rfl (lv_at hl 2 rfl) ?_
          refine zcalli (zrunV (As := [.int a1, .int a2]) (rest := []) X hml hl hW h0.2.2.2.2.1.1 rfl zk_Main_168 (c_Told_paceOf h0.2.2.2.2.1 h) rfl ⟨Nat.le_of_ble_eq_true rfl, Nat.le_of_ble_eq_true rfl⟩ ⟨Nat.le_refl 0, Nat.le_refl 0⟩ rfl (Nat.le_of_ble_eq_true rfl) dX10_setPace_31) hW (fun zr8 zm7 H locs h hW => ?_)
          refine lv_istore (lv' := [(4, .int zr8), (0, .ref (zad w 0)), (1, .int a1), (2, .int a2), (3, .int a3)]) hx hb dX10_setPace_34 hl (Nat.le_of_ble_eq_true rfl) rfl (fun ls hl => ?_)
          refine lv_aload_n hx hb dX10_setPace_36 rfl (lv_at hl 1 rfl) ?_
          refine zg_Main_told X hW h0 zu_467 dX10_setPace_37 ?_
          refine zg_Told_paces X hW h0.2.2.2.2.1 zu_66 dX10_setPace_40 ?_
          refine lv_iload_n hx hb dX10_setPace_43 rfl (lv_at hl 2 rfl) ?_
          refine lv_bipush hx hb dX10_setPace_44 zc_b8 ?_
          refine lv_imul hx hb dX10_setPace_46 ?_
          refine lv_iload_n hx hb dX10_setPace_47 rfl (lv_at hl 3 rfl) ?_
          refine lv_iadd hx hb dX10_setPace_48 ?_
          refine lv_iload_n hx hb dX10_setPace_49 rfl (lv_at hl 4 rfl) ?_
          obtain ⟨g, h⟩ := h
          refine ziast X hW h0.2.2.2.2.1.2.2.2.1 g dX10_setPace_50 (fun H locs zm9 ezm9 hW => ?_)
          replace h := h zm9 ezm9
          refine lv_aload_n hx hb dX10_setPace_51 rfl (lv_at hl 1 rfl) ?_
          refine zcallv (zrunV (As := []) (rest := []) X hml hl hW h0.1 rfl zk_Main_120 (c_Main_forgetAnswers h0 h) rfl ⟨Nat.le_of_ble_eq_true rfl, Nat.le_of_ble_eq_true rfl⟩ ⟨Nat.le_refl 0, Nat.le_refl 0⟩ rfl (Nat.le_of_ble_eq_true rfl) dX10_setPace_52) hW (fun zm10 H locs h hW => ?_)
          refine lv_iload hx hb dX10_setPace_55 (lv_at hl 0 rfl) ?_
          exact zreti X hr hlk hW h dX10_setPace_57
        · replace h := h.2 c
          refine lv_iconst hx hb dX10_setPace_23 zc_im1 ?_
          exact zreti X hr hlk hW h dX10_setPace_24
  exact zMain s.heap [] ls hW hl
def wp_Main_begin  (M : zMem) (Q : Int32 → zMem → Prop) : Prop :=
  ∀ zx1 : Int32, zx1 = M 18 3 → wp_Bench_clear 18 M (fun zm2 => wp_Bench_doAll 18 zm2 (fun zm4 => Q zx1 zm4))
set_option maxHeartbeats 4000000 in
set_option maxRecDepth 20000 in
theorem c_Main_begin {l : Launch} {w : zWd} {M : zMem} {post : Int32 → zMem → Prop} (h0 : zI_Main w) (h : wp_Main_begin  M post) : zMi l ⟨"HandToHand", "begin", "()I"⟩ prog_1_method_10_code 2 (Option.some .int) 4 92 w [.ref (zad w 0)] M post := by
  refine zMet (by decide) (Nat.le_of_ble_eq_true rfl) ?_
  intro p e s m below meth c X hr hlk hml hW ls hl
  have hx := X.1
  have hb := X.2.1
  have hl : lv_has ls 2 [(0, .ref (zad w 0))] := hl
  unfold wp_Main_begin at h
  have zMain : ∀ (H : Heap) (locs : List Loc) (ls : Array Slot), zWo w s.heap M H locs → lv_has ls 2 [(0, .ref (zad w 0))] → W p l e (zRm 4 92) s m ([.ref (zad w 0)] : List Value).toArray below meth c H locs 0 0 (MQ below (va_Qi post (zB w) (zA w)) ([.ref (zad w 0)] : List Value).toArray s 0 0 (zA w)) (F0 m 0 ls []) := by
    intro H locs ls hW hl
    refine lv_aload_n hx hb dX10_begin_0 rfl (lv_at hl 0 rfl) ?_
    refine zg_Main_bench X hW h0 zu_470 dX10_begin_1 ?_
    refine zg_Bench_done X hW h0.2.2.2.2.2.2.2.1 zu_169 dX10_begin_4 ?_
    refine lv_topi (fun zx1 ezx1 => ?_)
    replace h := h zx1 ezx1
    refine lv_istore_n (lv' := [(1, .int zx1), (0, .ref (zad w 0))]) hx hb dX10_begin_7 rfl hl (Nat.le_of_ble_eq_true rfl) rfl (fun ls hl => ?_)
    refine lv_aload_n hx hb dX10_begin_8 rfl (lv_at hl 1 rfl) ?_
    refine zg_Main_bench X hW h0 zu_470 dX10_begin_9 ?_
    refine zcallv (zrunV (As := []) (rest := []) X hml hl hW h0.2.2.2.2.2.2.2.1.1 rfl zk_Main_93 (c_Bench_clear h0.2.2.2.2.2.2.2.1 h) rfl ⟨Nat.le_of_ble_eq_true rfl, Nat.le_of_ble_eq_true rfl⟩ ⟨Nat.le_refl 0, Nat.le_refl 0⟩ rfl (Nat.le_of_ble_eq_true rfl) dX10_begin_12) hW (fun zm2 H locs h hW => ?_)
    refine lv_aload_n hx hb dX10_begin_15 rfl (lv_at hl 1 rfl) ?_
    refine zg_Main_bench X hW h0 zu_470 dX10_begin_16 ?_
    refine zcallv (zrunV (As := []) (rest := []) X hml hl hW h0.2.2.2.2.2.2.2.1.1 rfl zk_Main_96 (c_Bench_doAll h0.2.2.2.2.2.2.2.1 h) rfl ⟨Nat.le_of_ble_eq_true rfl, Nat.le_of_ble_eq_true rfl⟩ ⟨Nat.le_refl 0, Nat.le_refl 0⟩ rfl (Nat.le_of_ble_eq_true rfl) dX10_begin_19) hW (fun zm4 H locs h hW => ?_)
    refine lv_iload_n hx hb dX10_begin_22 rfl (lv_at hl 0 rfl) ?_
    exact zreti X hr hlk hW h dX10_begin_23
  exact zMain s.heap [] ls hW hl
def wpJ_Main_go_63 (a1 : Int32)  (J : Int32 → Int32 → zMem → Prop) (Q : Int32 → zMem → Prop) (x_2 : Int32) (x_3 : Int32) (x_4 : Int32) (s_0 : Int32) (M : zMem) : Prop :=
  wp_Bench_letPass 18 s_0 M (fun zm4 => wp_Bench_doAll 18 zm4 (fun zm6 => ∀ zx8 : Int32, zx8 = x_3 - s_0 → ∀ zx9 : Int32, zx9 = x_4 + 1 → J zx8 zx9 zm6))
def wpJ_Main_go_57 (a1 : Int32)  (J : Int32 → Int32 → zMem → Prop) (Q : Int32 → zMem → Prop) (x_2 : Int32) (x_3 : Int32) (x_4 : Int32)  (M : zMem) : Prop :=
  wpJ_Main_go_63 a1 J Q x_2 x_3 x_4 x_3 M
def wpB_Main_go_27 (a1 : Int32) (x_2 : Int32)  (Q : Int32 → zMem → Prop) (J : Int32 → Int32 → zMem → Prop) (x_3 : Int32) (x_4 : Int32) (M : zMem) : Prop :=
  (a1 ≤ x_4 → Q ((M 18 3) - x_2) M) ∧ (¬ a1 ≤ x_4 → (x_3 ≤ 0 → Q ((M 18 3) - x_2) M) ∧ (¬ x_3 ≤ 0 → wp_Bench_leastLeft 18 M (fun zr3 zm2 => (zr3 = 0 → wpJ_Main_go_57 a1 J Q x_2 x_3 x_4 zm2) ∧ (¬ zr3 = 0 → (zr3 ≤ x_3 → wpJ_Main_go_63 a1 J Q x_2 x_3 x_4 zr3 zm2) ∧ (¬ zr3 ≤ x_3 → wpJ_Main_go_57 a1 J Q x_2 x_3 x_4 zm2)))))
def wp_Main_go (a1 : Int32) (M : zMem) (Q : Int32 → zMem → Prop) : Prop :=
  (a1 < 1 → Q ((-1)) M) ∧ (¬ a1 < 1 → (a1 ≤ 9999 → ∀ zx1 : Int32, zx1 = M 18 3 → ∃ n : Nat, zlp2 (wpB_Main_go_27 a1 zx1  Q) n a1 0 M) ∧ (¬ a1 ≤ 9999 → Q ((-1)) M))
set_option maxHeartbeats 4000000 in
set_option maxRecDepth 20000 in
theorem c_Main_go {l : Launch} {w : zWd} {a1 : Int32} {M : zMem} {post : Int32 → zMem → Prop} (h0 : zI_Main w) (h : wp_Main_go a1 M post) : zMi l ⟨"HandToHand", "go", "(I)I"⟩ prog_1_method_11_code 7 (Option.some .int) 4 92 w [.ref (zad w 0), .int a1] M post := by
  refine zMet (by decide) (Nat.le_of_ble_eq_true rfl) ?_
  intro p e s m below meth c X hr hlk hml hW ls hl
  have hx := X.1
  have hb := X.2.1
  have hl : lv_has ls 7 [(0, .ref (zad w 0)), (1, .int a1)] := hl
  have zJ_63 : ∀ (x_2 : Int32) (x_3 : Int32) (x_4 : Int32) (s_0 : Int32) (J : Int32 → Int32 → zMem → Prop) (zJ : ∀ (y_3 : Int32) (y_4 : Int32) (M : zMem) (H : Heap) (locs : List Loc) (ls : Array Slot), zWo w s.heap M H locs → lv_has ls 7 [(0, .ref (zad w 0)), (1, .int a1), (2, .int x_2), (3, .int y_3), (4, .int y_4)] → J y_3 y_4 M → W p l e (zRm 4 92) s m ([.ref (zad w 0), .int a1] : List Value).toArray below meth c H locs 0 0 (MQ below (va_Qi post (zB w) (zA w)) ([.ref (zad w 0), .int a1] : List Value).toArray s 0 0 (zA w)) (F0 m 27 ls [])) (M : zMem) (H : Heap) (locs : List Loc) (ls : Array Slot), zWo w s.heap M H locs → lv_has ls 7 [(0, .ref (zad w 0)), (1, .int a1), (2, .int x_2), (3, .int x_3), (4, .int x_4)] → wpJ_Main_go_63 a1 J post x_2 x_3 x_4 s_0 M → W p l e (zRm 4 92) s m ([.ref (zad w 0), .int a1] : List Value).toArray below meth c H locs 0 0 (MQ below (va_Qi post (zB w) (zA w)) ([.ref (zad w 0), .int a1] : List Value).toArray s 0 0 (zA w)) (F0 m 63 ls [.int s_0]) := by
    intro x_2 x_3 x_4 s_0 J zJ M H locs ls hW hl h
    unfold wpJ_Main_go_63 at h
    refine lv_istore (lv' := [(6, .int s_0), (0, .ref (zad w 0)), (1, .int a1), (2, .int x_2), (3, .int x_3), (4, .int x_4)]) hx hb dX10_go_63 hl (Nat.le_of_ble_eq_true rfl) rfl (fun ls hl => ?_)
    refine lv_aload_n hx hb dX10_go_65 rfl (lv_at hl 1 rfl) ?_
    refine zg_Main_bench X hW h0 zu_470 dX10_go_66 ?_
    refine lv_iload hx hb dX10_go_69 (lv_at hl 0 rfl) ?_
    refine zcallv (zrunV (As := [.int s_0]) (rest := []) X hml hl hW h0.2.2.2.2.2.2.2.1.1 rfl zk_Main_184 (c_Bench_letPass h0.2.2.2.2.2.2.2.1 h) rfl ⟨Nat.le_of_ble_eq_true rfl, Nat.le_of_ble_eq_true rfl⟩ ⟨Nat.le_refl 0, Nat.le_refl 0⟩ rfl (Nat.le_of_ble_eq_true rfl) dX10_go_71) hW (fun zm4 H locs h hW => ?_)
    refine lv_aload_n hx hb dX10_go_74 rfl (lv_at hl 1 rfl) ?_
    refine zg_Main_bench X hW h0 zu_470 dX10_go_75 ?_
    refine zcallv (zrunV (As := []) (rest := []) X hml hl hW h0.2.2.2.2.2.2.2.1.1 rfl zk_Main_96 (c_Bench_doAll h0.2.2.2.2.2.2.2.1 h) rfl ⟨Nat.le_of_ble_eq_true rfl, Nat.le_of_ble_eq_true rfl⟩ ⟨Nat.le_refl 0, Nat.le_refl 0⟩ rfl (Nat.le_of_ble_eq_true rfl) dX10_go_78) hW (fun zm6 H locs h hW => ?_)
    refine lv_iload_n hx hb dX10_go_81 rfl (lv_at hl 4 rfl) ?_
    refine lv_iload hx hb dX10_go_82 (lv_at hl 0 rfl) ?_
    refine lv_isub hx hb dX10_go_84 ?_
    refine lv_topi (fun zx8 ezx8 => ?_)
    replace h := h zx8 ezx8
    refine lv_istore_n (lv' := [(3, .int zx8), (6, .int s_0), (0, .ref (zad w 0)), (1, .int a1), (2, .int x_2), (4, .int x_4)]) hx hb dX10_go_85 rfl hl (Nat.le_of_ble_eq_true rfl) rfl (fun ls hl => ?_)
    obtain ⟨zx9, ezx9⟩ : ∃ y : Int32, y = x_4 + 1 := ⟨_, rfl⟩
    replace h := h zx9 ezx9
    refine lv_iinc (v := zx9) (lv' := [(4, .int zx9), (3, .int zx8), (6, .int s_0), (0, .ref (zad w 0)), (1, .int a1), (2, .int x_2)]) hx hb dX10_go_86 hl (k := 5) rfl (by rw [ezx9, zc_i1]) (Nat.le_of_ble_eq_true rfl) rfl (fun ls hl => ?_)
    refine lv_goto (tgt := 27) hx hb dX10_go_89 rfl ?_
    exact zJ zx8 zx9 zm6 H locs ls hW (lv_sub hl [3, 4, 5, 1, 0] rfl) h
  have zJ_57 : ∀ (x_2 : Int32) (x_3 : Int32) (x_4 : Int32) (J : Int32 → Int32 → zMem → Prop) (zJ : ∀ (y_3 : Int32) (y_4 : Int32) (M : zMem) (H : Heap) (locs : List Loc) (ls : Array Slot), zWo w s.heap M H locs → lv_has ls 7 [(0, .ref (zad w 0)), (1, .int a1), (2, .int x_2), (3, .int y_3), (4, .int y_4)] → J y_3 y_4 M → W p l e (zRm 4 92) s m ([.ref (zad w 0), .int a1] : List Value).toArray below meth c H locs 0 0 (MQ below (va_Qi post (zB w) (zA w)) ([.ref (zad w 0), .int a1] : List Value).toArray s 0 0 (zA w)) (F0 m 27 ls [])) (M : zMem) (H : Heap) (locs : List Loc) (ls : Array Slot), zWo w s.heap M H locs → lv_has ls 7 [(0, .ref (zad w 0)), (1, .int a1), (2, .int x_2), (3, .int x_3), (4, .int x_4)] → wpJ_Main_go_57 a1 J post x_2 x_3 x_4 M → W p l e (zRm 4 92) s m ([.ref (zad w 0), .int a1] : List Value).toArray below meth c H locs 0 0 (MQ below (va_Qi post (zB w) (zA w)) ([.ref (zad w 0), .int a1] : List Value).toArray s 0 0 (zA w)) (F0 m 57 ls []) := by
    intro x_2 x_3 x_4 J zJ M H locs ls hW hl h
    unfold wpJ_Main_go_57 at h
    refine lv_iload_n hx hb dX10_go_57 rfl (lv_at hl 3 rfl) ?_
    refine lv_goto (tgt := 63) hx hb dX10_go_58 rfl ?_
    exact zJ_63 x_2 x_3 x_4 x_3 _ zJ M H locs ls hW (lv_sub hl [0, 1, 2, 3, 4] rfl) h
  have zL_27 : ∀ (x_2 : Int32), ∀ (n : Nat) (x_3 : Int32) (x_4 : Int32) (M : zMem) (H : Heap) (locs : List Loc) (ls : Array Slot), zWo w s.heap M H locs → lv_has ls 7 [(0, .ref (zad w 0)), (1, .int a1), (2, .int x_2), (3, .int x_3), (4, .int x_4)] → zlp2 (wpB_Main_go_27 a1 x_2  post) n x_3 x_4 M → W p l e (zRm 4 92) s m ([.ref (zad w 0), .int a1] : List Value).toArray below meth c H locs 0 0 (MQ below (va_Qi post (zB w) (zA w)) ([.ref (zad w 0), .int a1] : List Value).toArray s 0 0 (zA w)) (F0 m 27 ls []) := by
    intro x_2 n
    induction n with
    | zero => intro x_3 x_4 M H locs ls hW hl h; exact h.elim
    | succ n zJ =>
      intro x_3 x_4 M H locs ls hW hl h
      have h : wpB_Main_go_27 a1 x_2  post (zlp2 (wpB_Main_go_27 a1 x_2  post) n) x_3 x_4 M := h
      unfold wpB_Main_go_27 at h
      refine lv_iload hx hb dX10_go_27 (lv_at hl 4 rfl) ?_
      refine lv_iload_n hx hb dX10_go_29 rfl (lv_at hl 1 rfl) ?_
      refine lv_icmp_ge (tgt := 92) hx hb dX10_go_30 rfl (fun c => ?_) (fun c => ?_)
      · replace h := h.1 c
        refine lv_aload_n hx hb dX10_go_92 rfl (lv_at hl 0 rfl) ?_
        refine zg_Main_bench X hW h0 zu_470 dX10_go_93 ?_
        refine zg_Bench_done X hW h0.2.2.2.2.2.2.2.1 zu_169 dX10_go_96 ?_
        refine lv_iload_n hx hb dX10_go_99 rfl (lv_at hl 2 rfl) ?_
        refine lv_isub hx hb dX10_go_100 ?_
        exact zreti X hr hlk hW h dX10_go_101
      · replace h := h.2 c
        refine lv_iload_n hx hb dX10_go_33 rfl (lv_at hl 3 rfl) ?_
        refine lv_if_le (tgt := 92) hx hb dX10_go_34 rfl (fun c => ?_) (fun c => ?_)
        · replace h := h.1 c
          refine lv_aload_n hx hb dX10_go_92 rfl (lv_at hl 0 rfl) ?_
          refine zg_Main_bench X hW h0 zu_470 dX10_go_93 ?_
          refine zg_Bench_done X hW h0.2.2.2.2.2.2.2.1 zu_169 dX10_go_96 ?_
          refine lv_iload_n hx hb dX10_go_99 rfl (lv_at hl 2 rfl) ?_
          refine lv_isub hx hb dX10_go_100 ?_
          exact zreti X hr hlk hW h dX10_go_101
        · replace h := h.2 c
          refine lv_aload_n hx hb dX10_go_37 rfl (lv_at hl 0 rfl) ?_
          refine zg_Main_bench X hW h0 zu_470 dX10_go_38 ?_
          refine zcalli (zrunV (As := []) (rest := []) X hml hl hW h0.2.2.2.2.2.2.2.1.1 rfl zk_Main_180 (c_Bench_leastLeft h0.2.2.2.2.2.2.2.1 h) rfl ⟨Nat.le_of_ble_eq_true rfl, Nat.le_of_ble_eq_true rfl⟩ ⟨Nat.le_refl 0, Nat.le_refl 0⟩ rfl (Nat.le_of_ble_eq_true rfl) dX10_go_41) hW (fun zr3 zm2 H locs h hW => ?_)
          refine lv_istore (lv' := [(5, .int zr3), (0, .ref (zad w 0)), (1, .int a1), (2, .int x_2), (3, .int x_3), (4, .int x_4)]) hx hb dX10_go_44 hl (Nat.le_of_ble_eq_true rfl) rfl (fun ls hl => ?_)
          refine lv_iload hx hb dX10_go_46 (lv_at hl 0 rfl) ?_
          refine lv_if_eq (tgt := 57) hx hb dX10_go_48 rfl (fun c => ?_) (fun c => ?_)
          · replace h := h.1 c
            exact zJ_57 x_2 x_3 x_4 _ zJ zm2 H locs ls hW (lv_sub hl [1, 2, 3, 4, 5] rfl) h
          · replace h := h.2 c
            refine lv_iload hx hb dX10_go_51 (lv_at hl 0 rfl) ?_
            refine lv_iload_n hx hb dX10_go_53 rfl (lv_at hl 4 rfl) ?_
            refine lv_icmp_le (tgt := 61) hx hb dX10_go_54 rfl (fun c => ?_) (fun c => ?_)
            · replace h := h.1 c
              refine lv_iload hx hb dX10_go_61 (lv_at hl 0 rfl) ?_
              exact zJ_63 x_2 x_3 x_4 zr3 _ zJ zm2 H locs ls hW (lv_sub hl [1, 2, 3, 4, 5] rfl) h
            · replace h := h.2 c
              exact zJ_57 x_2 x_3 x_4 _ zJ zm2 H locs ls hW (lv_sub hl [1, 2, 3, 4, 5] rfl) h
  unfold wp_Main_go at h
  have zMain : ∀ (H : Heap) (locs : List Loc) (ls : Array Slot), zWo w s.heap M H locs → lv_has ls 7 [(0, .ref (zad w 0)), (1, .int a1)] → W p l e (zRm 4 92) s m ([.ref (zad w 0), .int a1] : List Value).toArray below meth c H locs 0 0 (MQ below (va_Qi post (zB w) (zA w)) ([.ref (zad w 0), .int a1] : List Value).toArray s 0 0 (zA w)) (F0 m 0 ls []) := by
    intro H locs ls hW hl
    refine lv_iload_n hx hb dX10_go_0 rfl (lv_at hl 1 rfl) ?_
    refine lv_iconst hx hb dX10_go_1 zc_i1 ?_
    refine lv_icmp_lt (tgt := 12) hx hb dX10_go_2 rfl (fun c => ?_) (fun c => ?_)
    · replace h := h.1 c
      refine lv_iconst hx hb dX10_go_12 zc_im1 ?_
      exact zreti X hr hlk hW h dX10_go_13
    · replace h := h.2 c
      refine lv_iload_n hx hb dX10_go_5 rfl (lv_at hl 1 rfl) ?_
      refine lv_sipush hx hb dX10_go_6 zc_s9999 ?_
      refine lv_icmp_le (tgt := 14) hx hb dX10_go_9 rfl (fun c => ?_) (fun c => ?_)
      · replace h := h.1 c
        refine lv_aload_n hx hb dX10_go_14 rfl (lv_at hl 0 rfl) ?_
        refine zg_Main_bench X hW h0 zu_470 dX10_go_15 ?_
        refine zg_Bench_done X hW h0.2.2.2.2.2.2.2.1 zu_169 dX10_go_18 ?_
        refine lv_topi (fun zx1 ezx1 => ?_)
        replace h := h zx1 ezx1
        refine lv_istore_n (lv' := [(2, .int zx1), (0, .ref (zad w 0)), (1, .int a1)]) hx hb dX10_go_21 rfl hl (Nat.le_of_ble_eq_true rfl) rfl (fun ls hl => ?_)
        refine lv_iload_n hx hb dX10_go_22 rfl (lv_at hl 2 rfl) ?_
        refine lv_istore_n (lv' := [(3, .int a1), (2, .int zx1), (0, .ref (zad w 0)), (1, .int a1)]) hx hb dX10_go_23 rfl hl (Nat.le_of_ble_eq_true rfl) rfl (fun ls hl => ?_)
        refine lv_iconst hx hb dX10_go_24 zc_i0 ?_
        refine lv_istore (lv' := [(4, .int 0), (3, .int a1), (2, .int zx1), (0, .ref (zad w 0)), (1, .int a1)]) hx hb dX10_go_25 hl (Nat.le_of_ble_eq_true rfl) rfl (fun ls hl => ?_)
        obtain ⟨n, h⟩ := h
        refine zL_27 zx1  n a1 0 M H locs ls hW (lv_sub hl [3, 4, 2, 1, 0] rfl) h
      · replace h := h.2 c
        refine lv_iconst hx hb dX10_go_12 zc_im1 ?_
        exact zreti X hr hlk hW h dX10_go_13
  exact zMain s.heap [] ls hW hl
def wp_Main_night  (M : zMem) (Q : Int32 → zMem → Prop) : Prop :=
  wp_Bench_coatsInHand 18 M (fun zr2 zm1 => wp_Bench_makeReady 18 zm1 (fun zm3 => wp_Bench_doAll 18 zm3 (fun zm5 => Q zr2 zm5)))
set_option maxHeartbeats 4000000 in
set_option maxRecDepth 20000 in
theorem c_Main_night {l : Launch} {w : zWd} {M : zMem} {post : Int32 → zMem → Prop} (h0 : zI_Main w) (h : wp_Main_night  M post) : zMi l ⟨"HandToHand", "night", "()I"⟩ prog_1_method_12_code 2 (Option.some .int) 4 92 w [.ref (zad w 0)] M post := by
  refine zMet (by decide) (Nat.le_of_ble_eq_true rfl) ?_
  intro p e s m below meth c X hr hlk hml hW ls hl
  have hx := X.1
  have hb := X.2.1
  have hl : lv_has ls 2 [(0, .ref (zad w 0))] := hl
  unfold wp_Main_night at h
  have zMain : ∀ (H : Heap) (locs : List Loc) (ls : Array Slot), zWo w s.heap M H locs → lv_has ls 2 [(0, .ref (zad w 0))] → W p l e (zRm 4 92) s m ([.ref (zad w 0)] : List Value).toArray below meth c H locs 0 0 (MQ below (va_Qi post (zB w) (zA w)) ([.ref (zad w 0)] : List Value).toArray s 0 0 (zA w)) (F0 m 0 ls []) := by
    intro H locs ls hW hl
    refine lv_aload_n hx hb dX10_night_0 rfl (lv_at hl 0 rfl) ?_
    refine zg_Main_bench X hW h0 zu_470 dX10_night_1 ?_
    refine zcalli (zrunV (As := []) (rest := []) X hml hl hW h0.2.2.2.2.2.2.2.1.1 rfl zk_Main_188 (c_Bench_coatsInHand h0.2.2.2.2.2.2.2.1 h) rfl ⟨Nat.le_of_ble_eq_true rfl, Nat.le_of_ble_eq_true rfl⟩ ⟨Nat.le_refl 0, Nat.le_refl 0⟩ rfl (Nat.le_of_ble_eq_true rfl) dX10_night_4) hW (fun zr2 zm1 H locs h hW => ?_)
    refine lv_istore_n (lv' := [(1, .int zr2), (0, .ref (zad w 0))]) hx hb dX10_night_7 rfl hl (Nat.le_of_ble_eq_true rfl) rfl (fun ls hl => ?_)
    refine lv_aload_n hx hb dX10_night_8 rfl (lv_at hl 1 rfl) ?_
    refine zg_Main_bench X hW h0 zu_470 dX10_night_9 ?_
    refine zcallv (zrunV (As := []) (rest := []) X hml hl hW h0.2.2.2.2.2.2.2.1.1 rfl zk_Main_191 (c_Bench_makeReady h0.2.2.2.2.2.2.2.1 h) rfl ⟨Nat.le_of_ble_eq_true rfl, Nat.le_of_ble_eq_true rfl⟩ ⟨Nat.le_refl 0, Nat.le_refl 0⟩ rfl (Nat.le_of_ble_eq_true rfl) dX10_night_12) hW (fun zm3 H locs h hW => ?_)
    refine lv_aload_n hx hb dX10_night_15 rfl (lv_at hl 1 rfl) ?_
    refine zg_Main_bench X hW h0 zu_470 dX10_night_16 ?_
    refine zcallv (zrunV (As := []) (rest := []) X hml hl hW h0.2.2.2.2.2.2.2.1.1 rfl zk_Main_96 (c_Bench_doAll h0.2.2.2.2.2.2.2.1 h) rfl ⟨Nat.le_of_ble_eq_true rfl, Nat.le_of_ble_eq_true rfl⟩ ⟨Nat.le_refl 0, Nat.le_refl 0⟩ rfl (Nat.le_of_ble_eq_true rfl) dX10_night_19) hW (fun zm5 H locs h hW => ?_)
    refine lv_iload_n hx hb dX10_night_22 rfl (lv_at hl 0 rfl) ?_
    exact zreti X hr hlk hW h dX10_night_23
  exact zMain s.heap [] ls hW hl
def wp_Main_now (a1 : Int32) (M : zMem) (Q : Int32 → zMem → Prop) : Prop :=
  ∀ zx1 : Int32, zx1 = a1 → (zx1 = 0 → Q (M 18 2) M) ∧ (zx1 = 1 → Q (M 18 3) M) ∧ (zx1 = 2 → Q (M 18 4) M) ∧ (zx1 = 3 → wp_Bench_leastLeft 18 M (fun zr3 zm2 => (¬ zr3 = 0 → Q 0 zm2) ∧ (zr3 = 0 → Q 1 zm2))) ∧ (zx1 = 4 → Q (M 18 5) M) ∧ (¬ zx1 = 0 → ¬ zx1 = 1 → ¬ zx1 = 2 → ¬ zx1 = 3 → ¬ zx1 = 4 → Q ((-1)) M)
set_option maxHeartbeats 4000000 in
set_option maxRecDepth 20000 in
theorem c_Main_now {l : Launch} {w : zWd} {a1 : Int32} {M : zMem} {post : Int32 → zMem → Prop} (h0 : zI_Main w) (h : wp_Main_now a1 M post) : zMi l ⟨"HandToHand", "now", "(I)I"⟩ prog_1_method_13_code 2 (Option.some .int) 1 22 w [.ref (zad w 0), .int a1] M post := by
  refine zMet (by decide) (Nat.le_of_ble_eq_true rfl) ?_
  intro p e s m below meth c X hr hlk hml hW ls hl
  have hx := X.1
  have hb := X.2.1
  have hl : lv_has ls 2 [(0, .ref (zad w 0)), (1, .int a1)] := hl
  unfold wp_Main_now at h
  have zMain : ∀ (H : Heap) (locs : List Loc) (ls : Array Slot), zWo w s.heap M H locs → lv_has ls 2 [(0, .ref (zad w 0)), (1, .int a1)] → W p l e (zRm 1 22) s m ([.ref (zad w 0), .int a1] : List Value).toArray below meth c H locs 0 0 (MQ below (va_Qi post (zB w) (zA w)) ([.ref (zad w 0), .int a1] : List Value).toArray s 0 0 (zA w)) (F0 m 0 ls []) := by
    intro H locs ls hW hl
    refine lv_iload_n hx hb dX10_now_0 rfl (lv_at hl 1 rfl) ?_
    refine lv_topi (fun zx1 ezx1 => ?_)
    replace h := h zx1 ezx1
    by_cases c0 : zx1 = 0
    · replace h := h.1 c0
      refine lv_tableIn (off := 35) (tgt := 36) hx hb dX10_now_1 (by rw [c0]; decide) (by rw [c0]; decide) (by rw [c0]; rfl) rfl ?_
      refine lv_aload_n hx hb dX10_now_36 rfl (lv_at hl 0 rfl) ?_
      refine zg_Main_bench X hW h0 zu_470 dX10_now_37 ?_
      refine zg_Bench_tick X hW h0.2.2.2.2.2.2.2.1 zu_165 dX10_now_40 ?_
      exact zreti X hr hlk hW h dX10_now_43
    replace h := h.2
    by_cases c1 : zx1 = 1
    · replace h := h.1 c1
      refine lv_tableIn (off := 43) (tgt := 44) hx hb dX10_now_1 (by rw [c1]; decide) (by rw [c1]; decide) (by rw [c1]; rfl) rfl ?_
      refine lv_aload_n hx hb dX10_now_44 rfl (lv_at hl 0 rfl) ?_
      refine zg_Main_bench X hW h0 zu_470 dX10_now_45 ?_
      refine zg_Bench_done X hW h0.2.2.2.2.2.2.2.1 zu_169 dX10_now_48 ?_
      exact zreti X hr hlk hW h dX10_now_51
    replace h := h.2
    by_cases c2 : zx1 = 2
    · replace h := h.1 c2
      refine lv_tableIn (off := 51) (tgt := 52) hx hb dX10_now_1 (by rw [c2]; decide) (by rw [c2]; decide) (by rw [c2]; rfl) rfl ?_
      refine lv_aload_n hx hb dX10_now_52 rfl (lv_at hl 0 rfl) ?_
      refine zg_Main_bench X hW h0 zu_470 dX10_now_53 ?_
      refine zg_Bench_handings X hW h0.2.2.2.2.2.2.2.1 zu_171 dX10_now_56 ?_
      exact zreti X hr hlk hW h dX10_now_59
    replace h := h.2
    by_cases c3 : zx1 = 3
    · replace h := h.1 c3
      refine lv_tableIn (off := 59) (tgt := 60) hx hb dX10_now_1 (by rw [c3]; decide) (by rw [c3]; decide) (by rw [c3]; rfl) rfl ?_
      refine lv_aload_n hx hb dX10_now_60 rfl (lv_at hl 0 rfl) ?_
      refine zg_Main_bench X hW h0 zu_470 dX10_now_61 ?_
      refine zcalli (zrunV (As := []) (rest := []) X hml hl hW h0.2.2.2.2.2.2.2.1.1 rfl zk_Main_180 (c_Bench_leastLeft h0.2.2.2.2.2.2.2.1 h) rfl ⟨Nat.le_of_ble_eq_true rfl, Nat.le_of_ble_eq_true rfl⟩ ⟨Nat.le_refl 0, Nat.le_refl 0⟩ rfl (Nat.le_of_ble_eq_true rfl) dX10_now_64) hW (fun zr3 zm2 H locs h hW => ?_)
      refine lv_if_ne (tgt := 74) hx hb dX10_now_67 rfl (fun c => ?_) (fun c => ?_)
      · replace h := h.1 c
        refine lv_iconst hx hb dX10_now_74 zc_i0 ?_
        exact zreti X hr hlk hW h dX10_now_75
      · replace h := h.2 c
        refine lv_iconst hx hb dX10_now_70 zc_i1 ?_
        refine lv_goto (tgt := 75) hx hb dX10_now_71 rfl ?_
        exact zreti X hr hlk hW h dX10_now_75
    replace h := h.2
    by_cases c4 : zx1 = 4
    · replace h := h.1 c4
      refine lv_tableIn (off := 75) (tgt := 76) hx hb dX10_now_1 (by rw [c4]; decide) (by rw [c4]; decide) (by rw [c4]; rfl) rfl ?_
      refine lv_aload_n hx hb dX10_now_76 rfl (lv_at hl 0 rfl) ?_
      refine zg_Main_bench X hW h0 zu_470 dX10_now_77 ?_
      refine zg_Bench_place X hW h0.2.2.2.2.2.2.2.1 zu_174 dX10_now_80 ?_
      exact zreti X hr hlk hW h dX10_now_83
    replace h := h.2
    replace h := h c0 c1 c2 c3 c4
    refine lv_tableOut (tgt := 84) hx hb dX10_now_1 (zsw 4 (Nat.le_of_ble_eq_true rfl) (fun j hj => ?_)) rfl ?_
    · rcases (show j = 0 ∨ j = 1 ∨ j = 2 ∨ j = 3 ∨ j = 4 by omega) with rfl | rfl | rfl | rfl | rfl
      · exact c0
      · exact c1
      · exact c2
      · exact c3
      · exact c4
    refine lv_iconst hx hb dX10_now_84 zc_im1 ?_
    exact zreti X hr hlk hW h dX10_now_85
  exact zMain s.heap [] ls hW hl
def wpJ_Main_hand_27 (a1 : Int32) (a2 : Int32)  (Q : Int32 → zMem → Prop)  (s_0 : Int32) (M : zMem) : Prop :=
  ∀ zx3 : Int32, zx3 = a2 → (zx3 = 0 → vp_in a1 5 ∧ Q (M 19 (ix a1)) M) ∧ (zx3 = 1 → vp_in a1 5 ∧ Q (M 20 (ix a1)) M) ∧ (zx3 = 2 → (s_0 = 0 → Q ((-4)) M) ∧ (¬ s_0 = 0 → vp_in a1 5 ∧ Q (M 21 (ix a1)) M)) ∧ (zx3 = 3 → (s_0 = 0 → Q ((-4)) M) ∧ (¬ s_0 = 0 → vp_in a1 5 ∧ Q (M 22 (ix a1)) M)) ∧ (zx3 = 4 → (s_0 = 0 → Q ((-4)) M) ∧ (¬ s_0 = 0 → vp_in a1 5 ∧ Q (M 23 (ix a1)) M)) ∧ (zx3 = 5 → vp_in a1 5 ∧ Q (M 24 (ix a1)) M) ∧ (¬ zx3 = 0 → ¬ zx3 = 1 → ¬ zx3 = 2 → ¬ zx3 = 3 → ¬ zx3 = 4 → ¬ zx3 = 5 → Q ((-1)) M)
def wp_Main_hand (a1 : Int32) (a2 : Int32) (M : zMem) (Q : Int32 → zMem → Prop) : Prop :=
  wp_Main_isHand a1 M (fun zr2 zm1 => (¬ zr2 = 0 → vp_in a1 5 ∧ ((zm1 21 (ix a1)) < 0 → wpJ_Main_hand_27 a1 a2 Q 0 zm1) ∧ (¬ (zm1 21 (ix a1)) < 0 → wpJ_Main_hand_27 a1 a2 Q 1 zm1)) ∧ (zr2 = 0 → Q ((-1)) zm1))
set_option maxHeartbeats 4000000 in
set_option maxRecDepth 20000 in
theorem c_Main_hand {l : Launch} {w : zWd} {a1 : Int32} {a2 : Int32} {M : zMem} {post : Int32 → zMem → Prop} (h0 : zI_Main w) (h : wp_Main_hand a1 a2 M post) : zMi l ⟨"HandToHand", "hand", "(II)I"⟩ prog_1_method_14_code 4 (Option.some .int) 1 21 w [.ref (zad w 0), .int a1, .int a2] M post := by
  refine zMet (by decide) (Nat.le_of_ble_eq_true rfl) ?_
  intro p e s m below meth c X hr hlk hml hW ls hl
  have hx := X.1
  have hb := X.2.1
  have hl : lv_has ls 4 [(0, .ref (zad w 0)), (1, .int a1), (2, .int a2)] := hl
  have zJ_27 : ∀ (s_0 : Int32) (M : zMem) (H : Heap) (locs : List Loc) (ls : Array Slot), zWo w s.heap M H locs → lv_has ls 4 [(0, .ref (zad w 0)), (1, .int a1), (2, .int a2)] → wpJ_Main_hand_27 a1 a2 post s_0 M → W p l e (zRm 1 21) s m ([.ref (zad w 0), .int a1, .int a2] : List Value).toArray below meth c H locs 0 0 (MQ below (va_Qi post (zB w) (zA w)) ([.ref (zad w 0), .int a1, .int a2] : List Value).toArray s 0 0 (zA w)) (F0 m 27 ls [.int s_0]) := by
    intro s_0 M H locs ls hW hl h
    unfold wpJ_Main_hand_27 at h
    refine lv_istore_n (lv' := [(3, .int s_0), (0, .ref (zad w 0)), (1, .int a1), (2, .int a2)]) hx hb dX10_hand_27 rfl hl (Nat.le_of_ble_eq_true rfl) rfl (fun ls hl => ?_)
    refine lv_iload_n hx hb dX10_hand_28 rfl (lv_at hl 3 rfl) ?_
    refine lv_topi (fun zx3 ezx3 => ?_)
    replace h := h zx3 ezx3
    by_cases c0 : zx3 = 0
    · replace h := h.1 c0
      refine lv_tableIn (off := 39) (tgt := 68) hx hb dX10_hand_29 (by rw [c0]; decide) (by rw [c0]; decide) (by rw [c0]; rfl) rfl ?_
      refine lv_aload_n hx hb dX10_hand_68 rfl (lv_at hl 1 rfl) ?_
      refine zg_Main_bench X hW h0 zu_470 dX10_hand_69 ?_
      refine zg_Bench_doing X hW h0.2.2.2.2.2.2.2.1 zu_176 dX10_hand_72 ?_
      refine lv_iload_n hx hb dX10_hand_75 rfl (lv_at hl 2 rfl) ?_
      obtain ⟨g, h⟩ := h
      refine ziald X hW h0.2.2.2.2.2.2.2.1.2.1 g dX10_hand_76 ?_
      exact zreti X hr hlk hW h dX10_hand_77
    replace h := h.2
    by_cases c1 : zx3 = 1
    · replace h := h.1 c1
      refine lv_tableIn (off := 49) (tgt := 78) hx hb dX10_hand_29 (by rw [c1]; decide) (by rw [c1]; decide) (by rw [c1]; rfl) rfl ?_
      refine lv_aload_n hx hb dX10_hand_78 rfl (lv_at hl 1 rfl) ?_
      refine zg_Main_bench X hW h0 zu_470 dX10_hand_79 ?_
      refine zg_Bench_left X hW h0.2.2.2.2.2.2.2.1 zu_178 dX10_hand_82 ?_
      refine lv_iload_n hx hb dX10_hand_85 rfl (lv_at hl 2 rfl) ?_
      obtain ⟨g, h⟩ := h
      refine ziald X hW h0.2.2.2.2.2.2.2.1.2.2.1 g dX10_hand_86 ?_
      exact zreti X hr hlk hW h dX10_hand_87
    replace h := h.2
    by_cases c2 : zx3 = 2
    · replace h := h.1 c2
      refine lv_tableIn (off := 59) (tgt := 88) hx hb dX10_hand_29 (by rw [c2]; decide) (by rw [c2]; decide) (by rw [c2]; rfl) rfl ?_
      refine lv_iload_n hx hb dX10_hand_88 rfl (lv_at hl 0 rfl) ?_
      refine lv_if_eq (tgt := 104) hx hb dX10_hand_89 rfl (fun c => ?_) (fun c => ?_)
      · replace h := h.1 c
        refine lv_bipush hx hb dX10_hand_104 zc_bm4 ?_
        exact zreti X hr hlk hW h dX10_hand_106
      · replace h := h.2 c
        refine lv_aload_n hx hb dX10_hand_92 rfl (lv_at hl 1 rfl) ?_
        refine zg_Main_bench X hW h0 zu_470 dX10_hand_93 ?_
        refine zg_Bench_piece X hW h0.2.2.2.2.2.2.2.1 zu_180 dX10_hand_96 ?_
        refine lv_iload_n hx hb dX10_hand_99 rfl (lv_at hl 2 rfl) ?_
        obtain ⟨g, h⟩ := h
        refine ziald X hW h0.2.2.2.2.2.2.2.1.2.2.2.1 g dX10_hand_100 ?_
        refine lv_goto (tgt := 106) hx hb dX10_hand_101 rfl ?_
        exact zreti X hr hlk hW h dX10_hand_106
    replace h := h.2
    by_cases c3 : zx3 = 3
    · replace h := h.1 c3
      refine lv_tableIn (off := 78) (tgt := 107) hx hb dX10_hand_29 (by rw [c3]; decide) (by rw [c3]; decide) (by rw [c3]; rfl) rfl ?_
      refine lv_iload_n hx hb dX10_hand_107 rfl (lv_at hl 0 rfl) ?_
      refine lv_if_eq (tgt := 123) hx hb dX10_hand_108 rfl (fun c => ?_) (fun c => ?_)
      · replace h := h.1 c
        refine lv_bipush hx hb dX10_hand_123 zc_bm4 ?_
        exact zreti X hr hlk hW h dX10_hand_125
      · replace h := h.2 c
        refine lv_aload_n hx hb dX10_hand_111 rfl (lv_at hl 1 rfl) ?_
        refine zg_Main_bench X hW h0 zu_470 dX10_hand_112 ?_
        refine zg_Bench_unit X hW h0.2.2.2.2.2.2.2.1 zu_182 dX10_hand_115 ?_
        refine lv_iload_n hx hb dX10_hand_118 rfl (lv_at hl 2 rfl) ?_
        obtain ⟨g, h⟩ := h
        refine ziald X hW h0.2.2.2.2.2.2.2.1.2.2.2.2.1 g dX10_hand_119 ?_
        refine lv_goto (tgt := 125) hx hb dX10_hand_120 rfl ?_
        exact zreti X hr hlk hW h dX10_hand_125
    replace h := h.2
    by_cases c4 : zx3 = 4
    · replace h := h.1 c4
      refine lv_tableIn (off := 97) (tgt := 126) hx hb dX10_hand_29 (by rw [c4]; decide) (by rw [c4]; decide) (by rw [c4]; rfl) rfl ?_
      refine lv_iload_n hx hb dX10_hand_126 rfl (lv_at hl 0 rfl) ?_
      refine lv_if_eq (tgt := 142) hx hb dX10_hand_127 rfl (fun c => ?_) (fun c => ?_)
      · replace h := h.1 c
        refine lv_bipush hx hb dX10_hand_142 zc_bm4 ?_
        exact zreti X hr hlk hW h dX10_hand_144
      · replace h := h.2 c
        refine lv_aload_n hx hb dX10_hand_130 rfl (lv_at hl 1 rfl) ?_
        refine zg_Main_bench X hW h0 zu_470 dX10_hand_131 ?_
        refine zg_Bench_sort X hW h0.2.2.2.2.2.2.2.1 zu_184 dX10_hand_134 ?_
        refine lv_iload_n hx hb dX10_hand_137 rfl (lv_at hl 2 rfl) ?_
        obtain ⟨g, h⟩ := h
        refine ziald X hW h0.2.2.2.2.2.2.2.1.2.2.2.2.2.1 g dX10_hand_138 ?_
        refine lv_goto (tgt := 144) hx hb dX10_hand_139 rfl ?_
        exact zreti X hr hlk hW h dX10_hand_144
    replace h := h.2
    by_cases c5 : zx3 = 5
    · replace h := h.1 c5
      refine lv_tableIn (off := 116) (tgt := 145) hx hb dX10_hand_29 (by rw [c5]; decide) (by rw [c5]; decide) (by rw [c5]; rfl) rfl ?_
      refine lv_aload_n hx hb dX10_hand_145 rfl (lv_at hl 1 rfl) ?_
      refine zg_Main_bench X hW h0 zu_470 dX10_hand_146 ?_
      refine zg_Bench_waited X hW h0.2.2.2.2.2.2.2.1 zu_186 dX10_hand_149 ?_
      refine lv_iload_n hx hb dX10_hand_152 rfl (lv_at hl 2 rfl) ?_
      obtain ⟨g, h⟩ := h
      refine ziald X hW h0.2.2.2.2.2.2.2.1.2.2.2.2.2.2.1 g dX10_hand_153 ?_
      exact zreti X hr hlk hW h dX10_hand_154
    replace h := h.2
    replace h := h c0 c1 c2 c3 c4 c5
    refine lv_tableOut (tgt := 155) hx hb dX10_hand_29 (zsw 5 (Nat.le_of_ble_eq_true rfl) (fun j hj => ?_)) rfl ?_
    · rcases (show j = 0 ∨ j = 1 ∨ j = 2 ∨ j = 3 ∨ j = 4 ∨ j = 5 by omega) with rfl | rfl | rfl | rfl | rfl | rfl
      · exact c0
      · exact c1
      · exact c2
      · exact c3
      · exact c4
      · exact c5
    refine lv_iconst hx hb dX10_hand_155 zc_im1 ?_
    exact zreti X hr hlk hW h dX10_hand_156
  unfold wp_Main_hand at h
  have zMain : ∀ (H : Heap) (locs : List Loc) (ls : Array Slot), zWo w s.heap M H locs → lv_has ls 4 [(0, .ref (zad w 0)), (1, .int a1), (2, .int a2)] → W p l e (zRm 1 21) s m ([.ref (zad w 0), .int a1, .int a2] : List Value).toArray below meth c H locs 0 0 (MQ below (va_Qi post (zB w) (zA w)) ([.ref (zad w 0), .int a1, .int a2] : List Value).toArray s 0 0 (zA w)) (F0 m 0 ls []) := by
    intro H locs ls hW hl
    refine lv_aload_n hx hb dX10_hand_0 rfl (lv_at hl 0 rfl) ?_
    refine lv_iload_n hx hb dX10_hand_1 rfl (lv_at hl 1 rfl) ?_
    refine zcalli (zrunV (As := [.int a1]) (rest := []) X hml hl hW h0.1 rfl zk_Main_165 (c_Main_isHand h0 h) rfl ⟨Nat.le_of_ble_eq_true rfl, Nat.le_of_ble_eq_true rfl⟩ ⟨Nat.le_refl 0, Nat.le_refl 0⟩ rfl (Nat.le_of_ble_eq_true rfl) dX10_hand_2) hW (fun zr2 zm1 H locs h hW => ?_)
    refine lv_if_ne (tgt := 10) hx hb dX10_hand_5 rfl (fun c => ?_) (fun c => ?_)
    · replace h := h.1 c
      refine lv_aload_n hx hb dX10_hand_10 rfl (lv_at hl 0 rfl) ?_
      refine zg_Main_bench X hW h0 zu_470 dX10_hand_11 ?_
      refine zg_Bench_piece X hW h0.2.2.2.2.2.2.2.1 zu_180 dX10_hand_14 ?_
      refine lv_iload_n hx hb dX10_hand_17 rfl (lv_at hl 1 rfl) ?_
      obtain ⟨g, h⟩ := h
      refine ziald X hW h0.2.2.2.2.2.2.2.1.2.2.2.1 g dX10_hand_18 ?_
      refine lv_if_lt (tgt := 26) hx hb dX10_hand_19 rfl (fun c => ?_) (fun c => ?_)
      · replace h := h.1 c
        refine lv_iconst hx hb dX10_hand_26 zc_i0 ?_
        exact zJ_27 0 zm1 H locs ls hW (lv_sub hl [0, 1, 2] rfl) h
      · replace h := h.2 c
        refine lv_iconst hx hb dX10_hand_22 zc_i1 ?_
        refine lv_goto (tgt := 27) hx hb dX10_hand_23 rfl ?_
        exact zJ_27 1 zm1 H locs ls hW (lv_sub hl [0, 1, 2] rfl) h
    · replace h := h.2 c
      refine lv_iconst hx hb dX10_hand_8 zc_im1 ?_
      exact zreti X hr hlk hW h dX10_hand_9
  exact zMain s.heap [] ls hW hl
def wp_Main_learnt (a1 : Int32) (a2 : Int32) (M : zMem) (Q : Int32 → zMem → Prop) : Prop :=
  wp_Main_isHand a1 M (fun zr2 zm1 => (zr2 = 0 → Q ((-1)) zm1) ∧ (¬ zr2 = 0 → wp_Main_isPiece a2 zm1 (fun zr4 zm3 => (¬ zr4 = 0 → vp_in ((a1 * 8) + a2) 40 ∧ Q (zm3 25 (ix ((a1 * 8) + a2))) zm3) ∧ (zr4 = 0 → Q ((-1)) zm3))))
set_option maxHeartbeats 4000000 in
set_option maxRecDepth 20000 in
theorem c_Main_learnt {l : Launch} {w : zWd} {a1 : Int32} {a2 : Int32} {M : zMem} {post : Int32 → zMem → Prop} (h0 : zI_Main w) (h : wp_Main_learnt a1 a2 M post) : zMi l ⟨"HandToHand", "learnt", "(II)I"⟩ prog_1_method_15_code 3 (Option.some .int) 1 21 w [.ref (zad w 0), .int a1, .int a2] M post := by
  refine zMet (by decide) (Nat.le_of_ble_eq_true rfl) ?_
  intro p e s m below meth c X hr hlk hml hW ls hl
  have hx := X.1
  have hb := X.2.1
  have hl : lv_has ls 3 [(0, .ref (zad w 0)), (1, .int a1), (2, .int a2)] := hl
  unfold wp_Main_learnt at h
  have zMain : ∀ (H : Heap) (locs : List Loc) (ls : Array Slot), zWo w s.heap M H locs → lv_has ls 3 [(0, .ref (zad w 0)), (1, .int a1), (2, .int a2)] → W p l e (zRm 1 21) s m ([.ref (zad w 0), .int a1, .int a2] : List Value).toArray below meth c H locs 0 0 (MQ below (va_Qi post (zB w) (zA w)) ([.ref (zad w 0), .int a1, .int a2] : List Value).toArray s 0 0 (zA w)) (F0 m 0 ls []) := by
    intro H locs ls hW hl
    refine lv_aload_n hx hb dX10_learnt_0 rfl (lv_at hl 0 rfl) ?_
    refine lv_iload_n hx hb dX10_learnt_1 rfl (lv_at hl 1 rfl) ?_
    refine zcalli (zrunV (As := [.int a1]) (rest := []) X hml hl hW h0.1 rfl zk_Main_165 (c_Main_isHand h0 h) rfl ⟨Nat.le_of_ble_eq_true rfl, Nat.le_of_ble_eq_true rfl⟩ ⟨Nat.le_refl 0, Nat.le_refl 0⟩ rfl (Nat.le_of_ble_eq_true rfl) dX10_learnt_2) hW (fun zr2 zm1 H locs h hW => ?_)
    refine lv_if_eq (tgt := 16) hx hb dX10_learnt_5 rfl (fun c => ?_) (fun c => ?_)
    · replace h := h.1 c
      refine lv_iconst hx hb dX10_learnt_16 zc_im1 ?_
      exact zreti X hr hlk hW h dX10_learnt_17
    · replace h := h.2 c
      refine lv_aload_n hx hb dX10_learnt_8 rfl (lv_at hl 0 rfl) ?_
      refine lv_iload_n hx hb dX10_learnt_9 rfl (lv_at hl 2 rfl) ?_
      refine zcalli (zrunV (As := [.int a2]) (rest := []) X hml hl hW h0.1 rfl zk_Main_157 (c_Main_isPiece h0 h) rfl ⟨Nat.le_of_ble_eq_true rfl, Nat.le_of_ble_eq_true rfl⟩ ⟨Nat.le_refl 0, Nat.le_refl 0⟩ rfl (Nat.le_of_ble_eq_true rfl) dX10_learnt_10) hW (fun zr4 zm3 H locs h hW => ?_)
      refine lv_if_ne (tgt := 18) hx hb dX10_learnt_13 rfl (fun c => ?_) (fun c => ?_)
      · replace h := h.1 c
        refine lv_aload_n hx hb dX10_learnt_18 rfl (lv_at hl 0 rfl) ?_
        refine zg_Main_bench X hW h0 zu_470 dX10_learnt_19 ?_
        refine zg_Bench_learned X hW h0.2.2.2.2.2.2.2.1 zu_189 dX10_learnt_22 ?_
        refine lv_iload_n hx hb dX10_learnt_25 rfl (lv_at hl 1 rfl) ?_
        refine lv_bipush hx hb dX10_learnt_26 zc_b8 ?_
        refine lv_imul hx hb dX10_learnt_28 ?_
        refine lv_iload_n hx hb dX10_learnt_29 rfl (lv_at hl 2 rfl) ?_
        refine lv_iadd hx hb dX10_learnt_30 ?_
        obtain ⟨g, h⟩ := h
        refine ziald X hW h0.2.2.2.2.2.2.2.1.2.2.2.2.2.2.2.1 g dX10_learnt_31 ?_
        exact zreti X hr hlk hW h dX10_learnt_32
      · replace h := h.2 c
        refine lv_iconst hx hb dX10_learnt_16 zc_im1 ?_
        exact zreti X hr hlk hW h dX10_learnt_17
  exact zMain s.heap [] ls hW hl
def wp_Main_takes (a1 : Int32) (a2 : Int32) (M : zMem) (Q : Int32 → zMem → Prop) : Prop :=
  wp_Main_isHand a1 M (fun zr2 zm1 => (zr2 = 0 → Q ((-1)) zm1) ∧ (¬ zr2 = 0 → wp_Main_isPiece a2 zm1 (fun zr4 zm3 => (¬ zr4 = 0 → vp_in ((a1 * 8) + a2) 40 ∧ wp_Told_ticksOf 1 a1 a2 (zm3 25 (ix ((a1 * 8) + a2))) zm3 (fun zr6 zm5 => Q zr6 zm5)) ∧ (zr4 = 0 → Q ((-1)) zm3))))
set_option maxHeartbeats 4000000 in
set_option maxRecDepth 20000 in
theorem c_Main_takes {l : Launch} {w : zWd} {a1 : Int32} {a2 : Int32} {M : zMem} {post : Int32 → zMem → Prop} (h0 : zI_Main w) (h : wp_Main_takes a1 a2 M post) : zMi l ⟨"HandToHand", "takes", "(II)I"⟩ prog_1_method_16_code 3 (Option.some .int) 1 24 w [.ref (zad w 0), .int a1, .int a2] M post := by
  refine zMet (by decide) (Nat.le_of_ble_eq_true rfl) ?_
  intro p e s m below meth c X hr hlk hml hW ls hl
  have hx := X.1
  have hb := X.2.1
  have hl : lv_has ls 3 [(0, .ref (zad w 0)), (1, .int a1), (2, .int a2)] := hl
  unfold wp_Main_takes at h
  have zMain : ∀ (H : Heap) (locs : List Loc) (ls : Array Slot), zWo w s.heap M H locs → lv_has ls 3 [(0, .ref (zad w 0)), (1, .int a1), (2, .int a2)] → W p l e (zRm 1 24) s m ([.ref (zad w 0), .int a1, .int a2] : List Value).toArray below meth c H locs 0 0 (MQ below (va_Qi post (zB w) (zA w)) ([.ref (zad w 0), .int a1, .int a2] : List Value).toArray s 0 0 (zA w)) (F0 m 0 ls []) := by
    intro H locs ls hW hl
    refine lv_aload_n hx hb dX10_takes_0 rfl (lv_at hl 0 rfl) ?_
    refine lv_iload_n hx hb dX10_takes_1 rfl (lv_at hl 1 rfl) ?_
    refine zcalli (zrunV (As := [.int a1]) (rest := []) X hml hl hW h0.1 rfl zk_Main_165 (c_Main_isHand h0 h) rfl ⟨Nat.le_of_ble_eq_true rfl, Nat.le_of_ble_eq_true rfl⟩ ⟨Nat.le_refl 0, Nat.le_refl 0⟩ rfl (Nat.le_of_ble_eq_true rfl) dX10_takes_2) hW (fun zr2 zm1 H locs h hW => ?_)
    refine lv_if_eq (tgt := 16) hx hb dX10_takes_5 rfl (fun c => ?_) (fun c => ?_)
    · replace h := h.1 c
      refine lv_iconst hx hb dX10_takes_16 zc_im1 ?_
      exact zreti X hr hlk hW h dX10_takes_17
    · replace h := h.2 c
      refine lv_aload_n hx hb dX10_takes_8 rfl (lv_at hl 0 rfl) ?_
      refine lv_iload_n hx hb dX10_takes_9 rfl (lv_at hl 2 rfl) ?_
      refine zcalli (zrunV (As := [.int a2]) (rest := []) X hml hl hW h0.1 rfl zk_Main_157 (c_Main_isPiece h0 h) rfl ⟨Nat.le_of_ble_eq_true rfl, Nat.le_of_ble_eq_true rfl⟩ ⟨Nat.le_refl 0, Nat.le_refl 0⟩ rfl (Nat.le_of_ble_eq_true rfl) dX10_takes_10) hW (fun zr4 zm3 H locs h hW => ?_)
      refine lv_if_ne (tgt := 18) hx hb dX10_takes_13 rfl (fun c => ?_) (fun c => ?_)
      · replace h := h.1 c
        refine lv_aload_n hx hb dX10_takes_18 rfl (lv_at hl 0 rfl) ?_
        refine zg_Main_told X hW h0 zu_467 dX10_takes_19 ?_
        refine lv_iload_n hx hb dX10_takes_22 rfl (lv_at hl 1 rfl) ?_
        refine lv_iload_n hx hb dX10_takes_23 rfl (lv_at hl 2 rfl) ?_
        refine lv_aload_n hx hb dX10_takes_24 rfl (lv_at hl 0 rfl) ?_
        refine zg_Main_bench X hW h0 zu_470 dX10_takes_25 ?_
        refine zg_Bench_learned X hW h0.2.2.2.2.2.2.2.1 zu_189 dX10_takes_28 ?_
        refine lv_iload_n hx hb dX10_takes_31 rfl (lv_at hl 1 rfl) ?_
        refine lv_bipush hx hb dX10_takes_32 zc_b8 ?_
        refine lv_imul hx hb dX10_takes_34 ?_
        refine lv_iload_n hx hb dX10_takes_35 rfl (lv_at hl 2 rfl) ?_
        refine lv_iadd hx hb dX10_takes_36 ?_
        obtain ⟨g, h⟩ := h
        refine ziald X hW h0.2.2.2.2.2.2.2.1.2.2.2.2.2.2.2.1 g dX10_takes_37 ?_
        refine zcalli (zrunV (As := [.int a1, .int a2, .int (zm3 25 (ix ((a1 * 8) + a2)))]) (rest := []) X hml hl hW h0.2.2.2.2.1.1 rfl zk_Main_224 (c_Told_ticksOf h0.2.2.2.2.1 h) rfl ⟨Nat.le_of_ble_eq_true rfl, Nat.le_of_ble_eq_true rfl⟩ ⟨Nat.le_refl 0, Nat.le_refl 0⟩ rfl (Nat.le_of_ble_eq_true rfl) dX10_takes_38) hW (fun zr6 zm5 H locs h hW => ?_)
        exact zreti X hr hlk hW h dX10_takes_41
      · replace h := h.2 c
        refine lv_iconst hx hb dX10_takes_16 zc_im1 ?_
        exact zreti X hr hlk hW h dX10_takes_17
  exact zMain s.heap [] ls hW hl
def wp_Main_keep (a1 : Int32) (M : zMem) (Q : Int32 → zMem → Prop) : Prop :=
  (a1 < 0 → Q ((-1)) M) ∧ (¬ a1 < 0 → (a1 < 2 → vp_in a1 2 ∧ ∀ zx1 : Int32, zx1 = M 28 (ix a1) → vp_in a1 2 ∧ wp_Bench_copyFrom (63 + 9 * ix a1) 18 M (fun zm2 => vp_in a1 2 ∧ ∀ zm4 : zMem, zm4 = zup zm2 28 (ix a1) (vp_nar .boolean 1) → (zx1 = 0 → Q 0 zm4) ∧ (¬ zx1 = 0 → Q 1 zm4))) ∧ (¬ a1 < 2 → Q ((-1)) M))
set_option maxHeartbeats 4000000 in
set_option maxRecDepth 20000 in
theorem c_Main_keep {l : Launch} {w : zWd} {a1 : Int32} {M : zMem} {post : Int32 → zMem → Prop} (h0 : zI_Main w) (h : wp_Main_keep a1 M post) : zMi l ⟨"HandToHand", "keep", "(I)I"⟩ prog_1_method_17_code 3 (Option.some .int) 2 51 w [.ref (zad w 0), .int a1] M post := by
  refine zMet (by decide) (Nat.le_of_ble_eq_true rfl) ?_
  intro p e s m below meth c X hr hlk hml hW ls hl
  have hx := X.1
  have hb := X.2.1
  have hl : lv_has ls 3 [(0, .ref (zad w 0)), (1, .int a1)] := hl
  unfold wp_Main_keep at h
  have zMain : ∀ (H : Heap) (locs : List Loc) (ls : Array Slot), zWo w s.heap M H locs → lv_has ls 3 [(0, .ref (zad w 0)), (1, .int a1)] → W p l e (zRm 2 51) s m ([.ref (zad w 0), .int a1] : List Value).toArray below meth c H locs 0 0 (MQ below (va_Qi post (zB w) (zA w)) ([.ref (zad w 0), .int a1] : List Value).toArray s 0 0 (zA w)) (F0 m 0 ls []) := by
    intro H locs ls hW hl
    refine lv_iload_n hx hb dX10_keep_0 rfl (lv_at hl 1 rfl) ?_
    refine lv_if_lt (tgt := 9) hx hb dX10_keep_1 rfl (fun c => ?_) (fun c => ?_)
    · replace h := h.1 c
      refine lv_iconst hx hb dX10_keep_9 zc_im1 ?_
      exact zreti X hr hlk hW h dX10_keep_10
    · replace h := h.2 c
      refine lv_iload_n hx hb dX10_keep_4 rfl (lv_at hl 1 rfl) ?_
      refine lv_iconst hx hb dX10_keep_5 zc_i2 ?_
      refine lv_icmp_lt (tgt := 11) hx hb dX10_keep_6 rfl (fun c => ?_) (fun c => ?_)
      · replace h := h.1 c
        refine lv_aload_n hx hb dX10_keep_11 rfl (lv_at hl 0 rfl) ?_
        refine zg_Main_kept X hW h0 zu_472 dX10_keep_12 ?_
        refine lv_iload_n hx hb dX10_keep_15 rfl (lv_at hl 1 rfl) ?_
        obtain ⟨g, h⟩ := h
        refine zzald X hW h0.2.1 g dX10_keep_16 ?_
        refine lv_topi (fun zx1 ezx1 => ?_)
        replace h := h zx1 ezx1
        refine lv_istore_n (lv' := [(2, .int zx1), (0, .ref (zad w 0)), (1, .int a1)]) hx hb dX10_keep_17 rfl hl (Nat.le_of_ble_eq_true rfl) rfl (fun ls hl => ?_)
        refine lv_aload_n hx hb dX10_keep_18 rfl (lv_at hl 1 rfl) ?_
        refine zg_Main_images X hW h0 zu_471 dX10_keep_19 ?_
        refine lv_iload_n hx hb dX10_keep_22 rfl (lv_at hl 2 rfl) ?_
        obtain ⟨g, h⟩ := h
        refine zaald_Bench X hW h0.2.2.1 g dX10_keep_23 ?_
        refine lv_aload_n hx hb dX10_keep_24 rfl (lv_at hl 1 rfl) ?_
        refine zg_Main_bench X hW h0 zu_470 dX10_keep_25 ?_
        refine zcallv (zrunV (As := [.ref (zad w 18)]) (rest := []) X hml hl hW (h0.2.2.1.2 _ (zix_lt g)).1 rfl zk_Main_228 (c_Bench_copyFrom (h0.2.2.1.2 _ (zix_lt g)) h0.2.2.2.2.2.2.2.1 h) rfl ⟨Nat.le_of_ble_eq_true rfl, Nat.le_of_ble_eq_true rfl⟩ ⟨Nat.le_refl 0, Nat.le_refl 0⟩ rfl (Nat.le_of_ble_eq_true rfl) dX10_keep_28) hW (fun zm2 H locs h hW => ?_)
        refine lv_aload_n hx hb dX10_keep_31 rfl (lv_at hl 1 rfl) ?_
        refine zg_Main_kept X hW h0 zu_472 dX10_keep_32 ?_
        refine lv_iload_n hx hb dX10_keep_35 rfl (lv_at hl 2 rfl) ?_
        refine lv_iconst hx hb dX10_keep_36 zc_i1 ?_
        obtain ⟨g, h⟩ := h
        refine zzast X hW h0.2.1 g dX10_keep_37 (fun H locs zm4 ezm4 hW => ?_)
        replace h := h zm4 ezm4
        refine lv_iload_n hx hb dX10_keep_38 rfl (lv_at hl 0 rfl) ?_
        refine lv_if_eq (tgt := 46) hx hb dX10_keep_39 rfl (fun c => ?_) (fun c => ?_)
        · replace h := h.1 c
          refine lv_iconst hx hb dX10_keep_46 zc_i0 ?_
          exact zreti X hr hlk hW h dX10_keep_47
        · replace h := h.2 c
          refine lv_iconst hx hb dX10_keep_42 zc_i1 ?_
          refine lv_goto (tgt := 47) hx hb dX10_keep_43 rfl ?_
          exact zreti X hr hlk hW h dX10_keep_47
      · replace h := h.2 c
        refine lv_iconst hx hb dX10_keep_9 zc_im1 ?_
        exact zreti X hr hlk hW h dX10_keep_10
  exact zMain s.heap [] ls hW hl
def wp_Main_back (a1 : Int32) (M : zMem) (Q : Int32 → zMem → Prop) : Prop :=
  (a1 < 0 → Q ((-1)) M) ∧ (¬ a1 < 0 → (a1 < 2 → vp_in a1 2 ∧ (¬ (M 28 (ix a1)) = 0 → vp_in a1 2 ∧ wp_Bench_copyFrom 18 (63 + 9 * ix a1) M (fun zm1 => Q (zm1 18 2) zm1)) ∧ ((M 28 (ix a1)) = 0 → Q ((-2)) M)) ∧ (¬ a1 < 2 → Q ((-1)) M))
set_option maxHeartbeats 4000000 in
set_option maxRecDepth 20000 in
theorem c_Main_back {l : Launch} {w : zWd} {a1 : Int32} {M : zMem} {post : Int32 → zMem → Prop} (h0 : zI_Main w) (h : wp_Main_back a1 M post) : zMi l ⟨"HandToHand", "back", "(I)I"⟩ prog_1_method_18_code 2 (Option.some .int) 2 51 w [.ref (zad w 0), .int a1] M post := by
  refine zMet (by decide) (Nat.le_of_ble_eq_true rfl) ?_
  intro p e s m below meth c X hr hlk hml hW ls hl
  have hx := X.1
  have hb := X.2.1
  have hl : lv_has ls 2 [(0, .ref (zad w 0)), (1, .int a1)] := hl
  unfold wp_Main_back at h
  have zMain : ∀ (H : Heap) (locs : List Loc) (ls : Array Slot), zWo w s.heap M H locs → lv_has ls 2 [(0, .ref (zad w 0)), (1, .int a1)] → W p l e (zRm 2 51) s m ([.ref (zad w 0), .int a1] : List Value).toArray below meth c H locs 0 0 (MQ below (va_Qi post (zB w) (zA w)) ([.ref (zad w 0), .int a1] : List Value).toArray s 0 0 (zA w)) (F0 m 0 ls []) := by
    intro H locs ls hW hl
    refine lv_iload_n hx hb dX10_back_0 rfl (lv_at hl 1 rfl) ?_
    refine lv_if_lt (tgt := 9) hx hb dX10_back_1 rfl (fun c => ?_) (fun c => ?_)
    · replace h := h.1 c
      refine lv_iconst hx hb dX10_back_9 zc_im1 ?_
      exact zreti X hr hlk hW h dX10_back_10
    · replace h := h.2 c
      refine lv_iload_n hx hb dX10_back_4 rfl (lv_at hl 1 rfl) ?_
      refine lv_iconst hx hb dX10_back_5 zc_i2 ?_
      refine lv_icmp_lt (tgt := 11) hx hb dX10_back_6 rfl (fun c => ?_) (fun c => ?_)
      · replace h := h.1 c
        refine lv_aload_n hx hb dX10_back_11 rfl (lv_at hl 0 rfl) ?_
        refine zg_Main_kept X hW h0 zu_472 dX10_back_12 ?_
        refine lv_iload_n hx hb dX10_back_15 rfl (lv_at hl 1 rfl) ?_
        obtain ⟨g, h⟩ := h
        refine zzald X hW h0.2.1 g dX10_back_16 ?_
        refine lv_if_ne (tgt := 23) hx hb dX10_back_17 rfl (fun c => ?_) (fun c => ?_)
        · replace h := h.1 c
          refine lv_aload_n hx hb dX10_back_23 rfl (lv_at hl 0 rfl) ?_
          refine zg_Main_bench X hW h0 zu_470 dX10_back_24 ?_
          refine lv_aload_n hx hb dX10_back_27 rfl (lv_at hl 0 rfl) ?_
          refine zg_Main_images X hW h0 zu_471 dX10_back_28 ?_
          refine lv_iload_n hx hb dX10_back_31 rfl (lv_at hl 1 rfl) ?_
          obtain ⟨g, h⟩ := h
          refine zaald_Bench X hW h0.2.2.1 g dX10_back_32 ?_
          refine zcallv (zrunV (As := [.ref (zad w (63 + 9 * ix a1))]) (rest := []) X hml hl hW h0.2.2.2.2.2.2.2.1.1 rfl zk_Main_228 (c_Bench_copyFrom h0.2.2.2.2.2.2.2.1 (h0.2.2.1.2 _ (zix_lt g)) h) rfl ⟨Nat.le_of_ble_eq_true rfl, Nat.le_of_ble_eq_true rfl⟩ ⟨Nat.le_refl 0, Nat.le_refl 0⟩ rfl (Nat.le_of_ble_eq_true rfl) dX10_back_33) hW (fun zm1 H locs h hW => ?_)
          refine lv_aload_n hx hb dX10_back_36 rfl (lv_at hl 0 rfl) ?_
          refine zg_Main_bench X hW h0 zu_470 dX10_back_37 ?_
          refine zg_Bench_tick X hW h0.2.2.2.2.2.2.2.1 zu_165 dX10_back_40 ?_
          exact zreti X hr hlk hW h dX10_back_43
        · replace h := h.2 c
          refine lv_bipush hx hb dX10_back_20 zc_bm2 ?_
          exact zreti X hr hlk hW h dX10_back_22
      · replace h := h.2 c
        refine lv_iconst hx hb dX10_back_9 zc_im1 ?_
        exact zreti X hr hlk hW h dX10_back_10
  exact zMain s.heap [] ls hW hl
def wp_Main_isRun (a1 : Int32) (M : zMem) (Q : Int32 → zMem → Prop) : Prop :=
  (a1 < 1 → Q 0 M) ∧ (¬ a1 < 1 → (120 < a1 → Q 0 M) ∧ (¬ 120 < a1 → Q 1 M))
set_option maxHeartbeats 4000000 in
set_option maxRecDepth 20000 in
theorem c_Main_isRun {l : Launch} {w : zWd} {a1 : Int32} {M : zMem} {post : Int32 → zMem → Prop}  (h : wp_Main_isRun a1 M post) : zMi l ⟨"HandToHand", "isRun", "(I)Z"⟩ prog_1_method_41_code 1 (Option.some .boolean) 0 0 w [.int a1] M post := by
  refine zMet (by decide) (Nat.le_of_ble_eq_true rfl) ?_
  intro p e s m below meth c X hr hlk hml hW ls hl
  have hx := X.1
  have hb := X.2.1
  have hl : lv_has ls 1 [(0, .int a1)] := hl
  unfold wp_Main_isRun at h
  have zMain : ∀ (H : Heap) (locs : List Loc) (ls : Array Slot), zWo w s.heap M H locs → lv_has ls 1 [(0, .int a1)] → W p l e (zRm 0 0) s m ([.int a1] : List Value).toArray below meth c H locs 0 0 (MQ below (va_Qi post (zB w) (zA w)) ([.int a1] : List Value).toArray s 0 0 (zA w)) (F0 m 0 ls []) := by
    intro H locs ls hW hl
    refine lv_iload_n hx hb dX10_isRun_0 rfl (lv_at hl 0 rfl) ?_
    refine lv_iconst hx hb dX10_isRun_1 zc_i1 ?_
    refine lv_icmp_lt (tgt := 15) hx hb dX10_isRun_2 rfl (fun c => ?_) (fun c => ?_)
    · replace h := h.1 c
      refine lv_iconst hx hb dX10_isRun_15 zc_i0 ?_
      exact zretz X hr hlk hW rfl h dX10_isRun_16
    · replace h := h.2 c
      refine lv_iload_n hx hb dX10_isRun_5 rfl (lv_at hl 0 rfl) ?_
      refine lv_bipush hx hb dX10_isRun_6 zc_b120 ?_
      refine lv_icmp_gt (tgt := 15) hx hb dX10_isRun_8 rfl (fun c => ?_) (fun c => ?_)
      · replace h := h.1 c
        refine lv_iconst hx hb dX10_isRun_15 zc_i0 ?_
        exact zretz X hr hlk hW rfl h dX10_isRun_16
      · replace h := h.2 c
        refine lv_iconst hx hb dX10_isRun_11 zc_i1 ?_
        refine lv_goto (tgt := 16) hx hb dX10_isRun_12 rfl ?_
        exact zretz X hr hlk hW rfl h dX10_isRun_16
  exact zMain s.heap [] ls hW hl
def wp_Main_run (a1 : Int32) (a2 : Int32) (M : zMem) (Q : Int32 → zMem → Prop) : Prop :=
  wp_Main_isRun a1 M (fun zr2 zm1 => (zr2 = 0 → Q ((-1)) zm1) ∧ (¬ zr2 = 0 → (a2 < 0 → Q ((-1)) zm1) ∧ (¬ a2 < 0 → (a2 ≤ 5 → wp_Course_runFor 29 a1 zm1 (fun zm3 => ∀ zx5 : Int32, zx5 = a2 → (zx5 = 0 → Q (zm3 32 2) zm3) ∧ (zx5 = 1 → Q (zm3 32 3) zm3) ∧ (zx5 = 2 → Q (zm3 32 4) zm3) ∧ (zx5 = 3 → ((zm3 29 3) = 0 → Q 0 zm3) ∧ (¬ (zm3 29 3) = 0 → Q 1 zm3)) ∧ (zx5 = 4 → wp_Bench_waitedByAll 32 zm3 (fun zr7 zm6 => Q zr7 zm6)) ∧ (¬ zx5 = 0 → ¬ zx5 = 1 → ¬ zx5 = 2 → ¬ zx5 = 3 → ¬ zx5 = 4 → wp_Bench_mostStoodAt 32 zm3 (fun zr9 zm8 => Q zr9 zm8)))) ∧ (¬ a2 ≤ 5 → Q ((-1)) zm1))))
set_option maxHeartbeats 4000000 in
set_option maxRecDepth 20000 in
theorem c_Main_run {l : Launch} {w : zWd} {a1 : Int32} {a2 : Int32} {M : zMem} {post : Int32 → zMem → Prop} (h0 : zI_Main w) (h : wp_Main_run a1 a2 M post) : zMi l ⟨"HandToHand", "run", "(II)I"⟩ prog_1_method_19_code 3 (Option.some .int) 5 115 w [.ref (zad w 0), .int a1, .int a2] M post := by
  refine zMet (by decide) (Nat.le_of_ble_eq_true rfl) ?_
  intro p e s m below meth c X hr hlk hml hW ls hl
  have hx := X.1
  have hb := X.2.1
  have hl : lv_has ls 3 [(0, .ref (zad w 0)), (1, .int a1), (2, .int a2)] := hl
  unfold wp_Main_run at h
  have zMain : ∀ (H : Heap) (locs : List Loc) (ls : Array Slot), zWo w s.heap M H locs → lv_has ls 3 [(0, .ref (zad w 0)), (1, .int a1), (2, .int a2)] → W p l e (zRm 5 115) s m ([.ref (zad w 0), .int a1, .int a2] : List Value).toArray below meth c H locs 0 0 (MQ below (va_Qi post (zB w) (zA w)) ([.ref (zad w 0), .int a1, .int a2] : List Value).toArray s 0 0 (zA w)) (F0 m 0 ls []) := by
    intro H locs ls hW hl
    refine lv_iload_n hx hb dX10_run_0 rfl (lv_at hl 1 rfl) ?_
    refine zcalli (zrunS (As := [.int a1]) (rest := []) X hml hl hW zk_Main_231 (c_Main_isRun  h) rfl ⟨Nat.le_of_ble_eq_true rfl, Nat.le_of_ble_eq_true rfl⟩ ⟨Nat.le_refl 0, Nat.le_refl 0⟩ rfl (Nat.le_of_ble_eq_true rfl) dX10_run_1) hW (fun zr2 zm1 H locs h hW => ?_)
    refine lv_if_eq (tgt := 16) hx hb dX10_run_4 rfl (fun c => ?_) (fun c => ?_)
    · replace h := h.1 c
      refine lv_iconst hx hb dX10_run_16 zc_im1 ?_
      exact zreti X hr hlk hW h dX10_run_17
    · replace h := h.2 c
      refine lv_iload_n hx hb dX10_run_7 rfl (lv_at hl 2 rfl) ?_
      refine lv_if_lt (tgt := 16) hx hb dX10_run_8 rfl (fun c => ?_) (fun c => ?_)
      · replace h := h.1 c
        refine lv_iconst hx hb dX10_run_16 zc_im1 ?_
        exact zreti X hr hlk hW h dX10_run_17
      · replace h := h.2 c
        refine lv_iload_n hx hb dX10_run_11 rfl (lv_at hl 2 rfl) ?_
        refine lv_iconst hx hb dX10_run_12 zc_i5 ?_
        refine lv_icmp_le (tgt := 18) hx hb dX10_run_13 rfl (fun c => ?_) (fun c => ?_)
        · replace h := h.1 c
          refine lv_aload_n hx hb dX10_run_18 rfl (lv_at hl 0 rfl) ?_
          refine zg_Main_course X hW h0 zu_473 dX10_run_19 ?_
          refine lv_iload_n hx hb dX10_run_22 rfl (lv_at hl 1 rfl) ?_
          refine zcallv (zrunV (As := [.int a1]) (rest := []) X hml hl hW h0.2.2.2.2.2.2.2.2.1.1 rfl zk_Main_234 (c_Course_runFor h0.2.2.2.2.2.2.2.2.1 h) rfl ⟨Nat.le_of_ble_eq_true rfl, Nat.le_of_ble_eq_true rfl⟩ ⟨Nat.le_refl 0, Nat.le_refl 0⟩ rfl (Nat.le_of_ble_eq_true rfl) dX10_run_23) hW (fun zm3 H locs h hW => ?_)
          refine lv_iload_n hx hb dX10_run_26 rfl (lv_at hl 2 rfl) ?_
          refine lv_topi (fun zx5 ezx5 => ?_)
          replace h := h zx5 ezx5
          by_cases c0 : zx5 = 0
          · replace h := h.1 c0
            refine lv_tableIn (off := 33) (tgt := 60) hx hb dX10_run_27 (by rw [c0]; decide) (by rw [c0]; decide) (by rw [c0]; rfl) rfl ?_
            refine lv_aload_n hx hb dX10_run_60 rfl (lv_at hl 0 rfl) ?_
            refine zg_Main_course X hW h0 zu_473 dX10_run_61 ?_
            refine zg_Course_bench X hW h0.2.2.2.2.2.2.2.2.1 zu_248 dX10_run_64 ?_
            refine zg_Bench_tick X hW h0.2.2.2.2.2.2.2.2.1.2.2 zu_165 dX10_run_67 ?_
            exact zreti X hr hlk hW h dX10_run_70
          replace h := h.2
          by_cases c1 : zx5 = 1
          · replace h := h.1 c1
            refine lv_tableIn (off := 44) (tgt := 71) hx hb dX10_run_27 (by rw [c1]; decide) (by rw [c1]; decide) (by rw [c1]; rfl) rfl ?_
            refine lv_aload_n hx hb dX10_run_71 rfl (lv_at hl 0 rfl) ?_
            refine zg_Main_course X hW h0 zu_473 dX10_run_72 ?_
            refine zg_Course_bench X hW h0.2.2.2.2.2.2.2.2.1 zu_248 dX10_run_75 ?_
            refine zg_Bench_done X hW h0.2.2.2.2.2.2.2.2.1.2.2 zu_169 dX10_run_78 ?_
            exact zreti X hr hlk hW h dX10_run_81
          replace h := h.2
          by_cases c2 : zx5 = 2
          · replace h := h.1 c2
            refine lv_tableIn (off := 55) (tgt := 82) hx hb dX10_run_27 (by rw [c2]; decide) (by rw [c2]; decide) (by rw [c2]; rfl) rfl ?_
            refine lv_aload_n hx hb dX10_run_82 rfl (lv_at hl 0 rfl) ?_
            refine zg_Main_course X hW h0 zu_473 dX10_run_83 ?_
            refine zg_Course_bench X hW h0.2.2.2.2.2.2.2.2.1 zu_248 dX10_run_86 ?_
            refine zg_Bench_handings X hW h0.2.2.2.2.2.2.2.2.1.2.2 zu_171 dX10_run_89 ?_
            exact zreti X hr hlk hW h dX10_run_92
          replace h := h.2
          by_cases c3 : zx5 = 3
          · replace h := h.1 c3
            refine lv_tableIn (off := 66) (tgt := 93) hx hb dX10_run_27 (by rw [c3]; decide) (by rw [c3]; decide) (by rw [c3]; rfl) rfl ?_
            refine lv_aload_n hx hb dX10_run_93 rfl (lv_at hl 0 rfl) ?_
            refine zg_Main_course X hW h0 zu_473 dX10_run_94 ?_
            refine zg_Course_stuck X hW h0.2.2.2.2.2.2.2.2.1 zu_252 dX10_run_97 ?_
            refine lv_if_eq (tgt := 107) hx hb dX10_run_100 rfl (fun c => ?_) (fun c => ?_)
            · replace h := h.1 c
              refine lv_iconst hx hb dX10_run_107 zc_i0 ?_
              exact zreti X hr hlk hW h dX10_run_108
            · replace h := h.2 c
              refine lv_iconst hx hb dX10_run_103 zc_i1 ?_
              refine lv_goto (tgt := 108) hx hb dX10_run_104 rfl ?_
              exact zreti X hr hlk hW h dX10_run_108
          replace h := h.2
          by_cases c4 : zx5 = 4
          · replace h := h.1 c4
            refine lv_tableIn (off := 82) (tgt := 109) hx hb dX10_run_27 (by rw [c4]; decide) (by rw [c4]; decide) (by rw [c4]; rfl) rfl ?_
            refine lv_aload_n hx hb dX10_run_109 rfl (lv_at hl 0 rfl) ?_
            refine zg_Main_course X hW h0 zu_473 dX10_run_110 ?_
            refine zg_Course_bench X hW h0.2.2.2.2.2.2.2.2.1 zu_248 dX10_run_113 ?_
            refine zcalli (zrunV (As := []) (rest := []) X hml hl hW h0.2.2.2.2.2.2.2.2.1.2.2.1 rfl zk_Main_242 (c_Bench_waitedByAll h0.2.2.2.2.2.2.2.2.1.2.2 h) rfl ⟨Nat.le_of_ble_eq_true rfl, Nat.le_of_ble_eq_true rfl⟩ ⟨Nat.le_refl 0, Nat.le_refl 0⟩ rfl (Nat.le_of_ble_eq_true rfl) dX10_run_116) hW (fun zr7 zm6 H locs h hW => ?_)
            exact zreti X hr hlk hW h dX10_run_119
          replace h := h.2
          replace h := h c0 c1 c2 c3 c4
          refine lv_tableOut (tgt := 120) hx hb dX10_run_27 (zsw 4 (Nat.le_of_ble_eq_true rfl) (fun j hj => ?_)) rfl ?_
          · rcases (show j = 0 ∨ j = 1 ∨ j = 2 ∨ j = 3 ∨ j = 4 by omega) with rfl | rfl | rfl | rfl | rfl
            · exact c0
            · exact c1
            · exact c2
            · exact c3
            · exact c4
          refine lv_aload_n hx hb dX10_run_120 rfl (lv_at hl 0 rfl) ?_
          refine zg_Main_course X hW h0 zu_473 dX10_run_121 ?_
          refine zg_Course_bench X hW h0.2.2.2.2.2.2.2.2.1 zu_248 dX10_run_124 ?_
          refine zcalli (zrunV (As := []) (rest := []) X hml hl hW h0.2.2.2.2.2.2.2.2.1.2.2.1 rfl zk_Main_245 (c_Bench_mostStoodAt h0.2.2.2.2.2.2.2.2.1.2.2 h) rfl ⟨Nat.le_of_ble_eq_true rfl, Nat.le_of_ble_eq_true rfl⟩ ⟨Nat.le_refl 0, Nat.le_refl 0⟩ rfl (Nat.le_of_ble_eq_true rfl) dX10_run_127) hW (fun zr9 zm8 H locs h hW => ?_)
          exact zreti X hr hlk hW h dX10_run_130
        · replace h := h.2 c
          refine lv_iconst hx hb dX10_run_16 zc_im1 ?_
          exact zreti X hr hlk hW h dX10_run_17
  exact zMain s.heap [] ls hW hl
def wp_Main_waits (a1 : Int32) (a2 : Int32) (M : zMem) (Q : Int32 → zMem → Prop) : Prop :=
  wp_Main_isRun a1 M (fun zr2 zm1 => (zr2 = 0 → Q ((-1)) zm1) ∧ (¬ zr2 = 0 → wp_Main_isHand a2 zm1 (fun zr4 zm3 => (¬ zr4 = 0 → wp_Course_runFor 29 a1 zm3 (fun zm5 => vp_in a2 5 ∧ Q (zm5 38 (ix a2)) zm5)) ∧ (zr4 = 0 → Q ((-1)) zm3))))
set_option maxHeartbeats 4000000 in
set_option maxRecDepth 20000 in
theorem c_Main_waits {l : Launch} {w : zWd} {a1 : Int32} {a2 : Int32} {M : zMem} {post : Int32 → zMem → Prop} (h0 : zI_Main w) (h : wp_Main_waits a1 a2 M post) : zMi l ⟨"HandToHand", "waits", "(II)I"⟩ prog_1_method_20_code 3 (Option.some .int) 5 115 w [.ref (zad w 0), .int a1, .int a2] M post := by
  refine zMet (by decide) (Nat.le_of_ble_eq_true rfl) ?_
  intro p e s m below meth c X hr hlk hml hW ls hl
  have hx := X.1
  have hb := X.2.1
  have hl : lv_has ls 3 [(0, .ref (zad w 0)), (1, .int a1), (2, .int a2)] := hl
  unfold wp_Main_waits at h
  have zMain : ∀ (H : Heap) (locs : List Loc) (ls : Array Slot), zWo w s.heap M H locs → lv_has ls 3 [(0, .ref (zad w 0)), (1, .int a1), (2, .int a2)] → W p l e (zRm 5 115) s m ([.ref (zad w 0), .int a1, .int a2] : List Value).toArray below meth c H locs 0 0 (MQ below (va_Qi post (zB w) (zA w)) ([.ref (zad w 0), .int a1, .int a2] : List Value).toArray s 0 0 (zA w)) (F0 m 0 ls []) := by
    intro H locs ls hW hl
    refine lv_iload_n hx hb dX10_waits_0 rfl (lv_at hl 1 rfl) ?_
    refine zcalli (zrunS (As := [.int a1]) (rest := []) X hml hl hW zk_Main_231 (c_Main_isRun  h) rfl ⟨Nat.le_of_ble_eq_true rfl, Nat.le_of_ble_eq_true rfl⟩ ⟨Nat.le_refl 0, Nat.le_refl 0⟩ rfl (Nat.le_of_ble_eq_true rfl) dX10_waits_1) hW (fun zr2 zm1 H locs h hW => ?_)
    refine lv_if_eq (tgt := 15) hx hb dX10_waits_4 rfl (fun c => ?_) (fun c => ?_)
    · replace h := h.1 c
      refine lv_iconst hx hb dX10_waits_15 zc_im1 ?_
      exact zreti X hr hlk hW h dX10_waits_16
    · replace h := h.2 c
      refine lv_aload_n hx hb dX10_waits_7 rfl (lv_at hl 0 rfl) ?_
      refine lv_iload_n hx hb dX10_waits_8 rfl (lv_at hl 2 rfl) ?_
      refine zcalli (zrunV (As := [.int a2]) (rest := []) X hml hl hW h0.1 rfl zk_Main_165 (c_Main_isHand h0 h) rfl ⟨Nat.le_of_ble_eq_true rfl, Nat.le_of_ble_eq_true rfl⟩ ⟨Nat.le_refl 0, Nat.le_refl 0⟩ rfl (Nat.le_of_ble_eq_true rfl) dX10_waits_9) hW (fun zr4 zm3 H locs h hW => ?_)
      refine lv_if_ne (tgt := 17) hx hb dX10_waits_12 rfl (fun c => ?_) (fun c => ?_)
      · replace h := h.1 c
        refine lv_aload_n hx hb dX10_waits_17 rfl (lv_at hl 0 rfl) ?_
        refine zg_Main_course X hW h0 zu_473 dX10_waits_18 ?_
        refine lv_iload_n hx hb dX10_waits_21 rfl (lv_at hl 1 rfl) ?_
        refine zcallv (zrunV (As := [.int a1]) (rest := []) X hml hl hW h0.2.2.2.2.2.2.2.2.1.1 rfl zk_Main_234 (c_Course_runFor h0.2.2.2.2.2.2.2.2.1 h) rfl ⟨Nat.le_of_ble_eq_true rfl, Nat.le_of_ble_eq_true rfl⟩ ⟨Nat.le_refl 0, Nat.le_refl 0⟩ rfl (Nat.le_of_ble_eq_true rfl) dX10_waits_22) hW (fun zm5 H locs h hW => ?_)
        refine lv_aload_n hx hb dX10_waits_25 rfl (lv_at hl 0 rfl) ?_
        refine zg_Main_course X hW h0 zu_473 dX10_waits_26 ?_
        refine zg_Course_bench X hW h0.2.2.2.2.2.2.2.2.1 zu_248 dX10_waits_29 ?_
        refine zg_Bench_waited X hW h0.2.2.2.2.2.2.2.2.1.2.2 zu_186 dX10_waits_32 ?_
        refine lv_iload_n hx hb dX10_waits_35 rfl (lv_at hl 2 rfl) ?_
        obtain ⟨g, h⟩ := h
        refine ziald X hW h0.2.2.2.2.2.2.2.2.1.2.2.2.2.2.2.2.2.1 g dX10_waits_36 ?_
        exact zreti X hr hlk hW h dX10_waits_37
      · replace h := h.2 c
        refine lv_iconst hx hb dX10_waits_15 zc_im1 ?_
        exact zreti X hr hlk hW h dX10_waits_16
  exact zMain s.heap [] ls hW hl
def wp_Main_over (a1 : Int32) (a2 : Int32) (a3 : Int32) (M : zMem) (Q : Int32 → zMem → Prop) : Prop :=
  wp_Main_isRun a1 M (fun zr2 zm1 => (zr2 = 0 → Q ((-1)) zm1) ∧ (¬ zr2 = 0 → (a3 < 0 → Q ((-1)) zm1) ∧ (¬ a3 < 0 → (a3 < 5 → wp_Course_runFor 29 a1 zm1 (fun zm3 => (a2 < 0 → Q ((-1)) zm3) ∧ (¬ a2 < 0 → (a2 < (zm3 30 0) → wp_Handings_valueOf 30 a2 a3 zm3 (fun zr6 zm5 => Q zr6 zm5)) ∧ (¬ a2 < (zm3 30 0) → Q ((-1)) zm3)))) ∧ (¬ a3 < 5 → Q ((-1)) zm1))))
set_option maxHeartbeats 4000000 in
set_option maxRecDepth 20000 in
theorem c_Main_over {l : Launch} {w : zWd} {a1 : Int32} {a2 : Int32} {a3 : Int32} {M : zMem} {post : Int32 → zMem → Prop} (h0 : zI_Main w) (h : wp_Main_over a1 a2 a3 M post) : zMi l ⟨"HandToHand", "over", "(III)I"⟩ prog_1_method_21_code 4 (Option.some .int) 5 115 w [.ref (zad w 0), .int a1, .int a2, .int a3] M post := by
  refine zMet (by decide) (Nat.le_of_ble_eq_true rfl) ?_
  intro p e s m below meth c X hr hlk hml hW ls hl
  have hx := X.1
  have hb := X.2.1
  have hl : lv_has ls 4 [(0, .ref (zad w 0)), (1, .int a1), (2, .int a2), (3, .int a3)] := hl
  unfold wp_Main_over at h
  have zMain : ∀ (H : Heap) (locs : List Loc) (ls : Array Slot), zWo w s.heap M H locs → lv_has ls 4 [(0, .ref (zad w 0)), (1, .int a1), (2, .int a2), (3, .int a3)] → W p l e (zRm 5 115) s m ([.ref (zad w 0), .int a1, .int a2, .int a3] : List Value).toArray below meth c H locs 0 0 (MQ below (va_Qi post (zB w) (zA w)) ([.ref (zad w 0), .int a1, .int a2, .int a3] : List Value).toArray s 0 0 (zA w)) (F0 m 0 ls []) := by
    intro H locs ls hW hl
    refine lv_iload_n hx hb dX10_over_0 rfl (lv_at hl 1 rfl) ?_
    refine zcalli (zrunS (As := [.int a1]) (rest := []) X hml hl hW zk_Main_231 (c_Main_isRun  h) rfl ⟨Nat.le_of_ble_eq_true rfl, Nat.le_of_ble_eq_true rfl⟩ ⟨Nat.le_refl 0, Nat.le_refl 0⟩ rfl (Nat.le_of_ble_eq_true rfl) dX10_over_1) hW (fun zr2 zm1 H locs h hW => ?_)
    refine lv_if_eq (tgt := 16) hx hb dX10_over_4 rfl (fun c => ?_) (fun c => ?_)
    · replace h := h.1 c
      refine lv_iconst hx hb dX10_over_16 zc_im1 ?_
      exact zreti X hr hlk hW h dX10_over_17
    · replace h := h.2 c
      refine lv_iload_n hx hb dX10_over_7 rfl (lv_at hl 3 rfl) ?_
      refine lv_if_lt (tgt := 16) hx hb dX10_over_8 rfl (fun c => ?_) (fun c => ?_)
      · replace h := h.1 c
        refine lv_iconst hx hb dX10_over_16 zc_im1 ?_
        exact zreti X hr hlk hW h dX10_over_17
      · replace h := h.2 c
        refine lv_iload_n hx hb dX10_over_11 rfl (lv_at hl 3 rfl) ?_
        refine lv_iconst hx hb dX10_over_12 zc_i5 ?_
        refine lv_icmp_lt (tgt := 18) hx hb dX10_over_13 rfl (fun c => ?_) (fun c => ?_)
        · replace h := h.1 c
          refine lv_aload_n hx hb dX10_over_18 rfl (lv_at hl 0 rfl) ?_
          refine zg_Main_course X hW h0 zu_473 dX10_over_19 ?_
          refine lv_iload_n hx hb dX10_over_22 rfl (lv_at hl 1 rfl) ?_
          refine zcallv (zrunV (As := [.int a1]) (rest := []) X hml hl hW h0.2.2.2.2.2.2.2.2.1.1 rfl zk_Main_234 (c_Course_runFor h0.2.2.2.2.2.2.2.2.1 h) rfl ⟨Nat.le_of_ble_eq_true rfl, Nat.le_of_ble_eq_true rfl⟩ ⟨Nat.le_refl 0, Nat.le_refl 0⟩ rfl (Nat.le_of_ble_eq_true rfl) dX10_over_23) hW (fun zm3 H locs h hW => ?_)
          refine lv_iload_n hx hb dX10_over_26 rfl (lv_at hl 2 rfl) ?_
          refine lv_if_lt (tgt := 44) hx hb dX10_over_27 rfl (fun c => ?_) (fun c => ?_)
          · replace h := h.1 c
            refine lv_iconst hx hb dX10_over_44 zc_im1 ?_
            exact zreti X hr hlk hW h dX10_over_45
          · replace h := h.2 c
            refine lv_iload_n hx hb dX10_over_30 rfl (lv_at hl 2 rfl) ?_
            refine lv_aload_n hx hb dX10_over_31 rfl (lv_at hl 0 rfl) ?_
            refine zg_Main_course X hW h0 zu_473 dX10_over_32 ?_
            refine zg_Course_handings X hW h0.2.2.2.2.2.2.2.2.1 zu_246 dX10_over_35 ?_
            refine zg_Handings_size X hW h0.2.2.2.2.2.2.2.2.1.2.1 zu_235 dX10_over_38 ?_
            refine lv_icmp_lt (tgt := 46) hx hb dX10_over_41 rfl (fun c => ?_) (fun c => ?_)
            · replace h := h.1 c
              refine lv_aload_n hx hb dX10_over_46 rfl (lv_at hl 0 rfl) ?_
              refine zg_Main_course X hW h0 zu_473 dX10_over_47 ?_
              refine zg_Course_handings X hW h0.2.2.2.2.2.2.2.2.1 zu_246 dX10_over_50 ?_
              refine lv_iload_n hx hb dX10_over_53 rfl (lv_at hl 2 rfl) ?_
              refine lv_iload_n hx hb dX10_over_54 rfl (lv_at hl 3 rfl) ?_
              refine zcalli (zrunV (As := [.int a2, .int a3]) (rest := []) X hml hl hW h0.2.2.2.2.2.2.2.2.1.2.1.1 rfl zk_Main_256 (c_Handings_valueOf h0.2.2.2.2.2.2.2.2.1.2.1 h) rfl ⟨Nat.le_of_ble_eq_true rfl, Nat.le_of_ble_eq_true rfl⟩ ⟨Nat.le_refl 0, Nat.le_refl 0⟩ rfl (Nat.le_of_ble_eq_true rfl) dX10_over_55) hW (fun zr6 zm5 H locs h hW => ?_)
              exact zreti X hr hlk hW h dX10_over_58
            · replace h := h.2 c
              refine lv_iconst hx hb dX10_over_44 zc_im1 ?_
              exact zreti X hr hlk hW h dX10_over_45
        · replace h := h.2 c
          refine lv_iconst hx hb dX10_over_16 zc_im1 ?_
          exact zreti X hr hlk hW h dX10_over_17
  exact zMain s.heap [] ls hW hl
def wp_Main_judge (a1 : Int32) (a2 : Int32) (a3 : Int32) (a4 : Int32) (a5 : Int32) (M : zMem) (Q : Int32 → zMem → Prop) : Prop :=
  wp_Course_runFor 29 120 M (fun zm1 => (a1 < 0 → Q ((-1)) zm1) ∧ (¬ a1 < 0 → (a1 < (zm1 30 0) → wp_Handings_valueOf 30 a1 0 zm1 (fun zr4 zm3 => (zr4 = a2 → wp_Handings_valueOf 30 a1 1 zm3 (fun zr6 zm5 => (zr6 = a3 → wp_Handings_valueOf 30 a1 2 zm5 (fun zr8 zm7 => (zr8 = a4 → wp_Handings_valueOf 30 a1 3 zm7 (fun zr10 zm9 => (zr10 = a5 → Q 0 zm9) ∧ (¬ zr10 = a5 → Q 4 zm9))) ∧ (¬ zr8 = a4 → Q 3 zm7))) ∧ (¬ zr6 = a3 → Q 2 zm5))) ∧ (¬ zr4 = a2 → Q 1 zm3))) ∧ (¬ a1 < (zm1 30 0) → Q ((-1)) zm1)))
set_option maxHeartbeats 4000000 in
set_option maxRecDepth 20000 in
theorem c_Main_judge {l : Launch} {w : zWd} {a1 : Int32} {a2 : Int32} {a3 : Int32} {a4 : Int32} {a5 : Int32} {M : zMem} {post : Int32 → zMem → Prop} (h0 : zI_Main w) (h : wp_Main_judge a1 a2 a3 a4 a5 M post) : zMi l ⟨"HandToHand", "judge", "(IIIII)I"⟩ prog_1_method_22_code 7 (Option.some .int) 5 115 w [.ref (zad w 0), .int a1, .int a2, .int a3, .int a4, .int a5] M post := by
  refine zMet (by decide) (Nat.le_of_ble_eq_true rfl) ?_
  intro p e s m below meth c X hr hlk hml hW ls hl
  have hx := X.1
  have hb := X.2.1
  have hl : lv_has ls 7 [(0, .ref (zad w 0)), (1, .int a1), (2, .int a2), (3, .int a3), (4, .int a4), (5, .int a5)] := hl
  unfold wp_Main_judge at h
  have zMain : ∀ (H : Heap) (locs : List Loc) (ls : Array Slot), zWo w s.heap M H locs → lv_has ls 7 [(0, .ref (zad w 0)), (1, .int a1), (2, .int a2), (3, .int a3), (4, .int a4), (5, .int a5)] → W p l e (zRm 5 115) s m ([.ref (zad w 0), .int a1, .int a2, .int a3, .int a4, .int a5] : List Value).toArray below meth c H locs 0 0 (MQ below (va_Qi post (zB w) (zA w)) ([.ref (zad w 0), .int a1, .int a2, .int a3, .int a4, .int a5] : List Value).toArray s 0 0 (zA w)) (F0 m 0 ls []) := by
    intro H locs ls hW hl
    refine lv_aload_n hx hb dX10_judge_0 rfl (lv_at hl 0 rfl) ?_
    refine zg_Main_course X hW h0 zu_473 dX10_judge_1 ?_
    refine lv_bipush hx hb dX10_judge_4 zc_b120 ?_
    refine zcallv (zrunV (As := [.int 120]) (rest := []) X hml hl hW h0.2.2.2.2.2.2.2.2.1.1 rfl zk_Main_234 (c_Course_runFor h0.2.2.2.2.2.2.2.2.1 h) rfl ⟨Nat.le_of_ble_eq_true rfl, Nat.le_of_ble_eq_true rfl⟩ ⟨Nat.le_refl 0, Nat.le_refl 0⟩ rfl (Nat.le_of_ble_eq_true rfl) dX10_judge_6) hW (fun zm1 H locs h hW => ?_)
    refine lv_aload_n hx hb dX10_judge_9 rfl (lv_at hl 0 rfl) ?_
    refine zg_Main_course X hW h0 zu_473 dX10_judge_10 ?_
    refine zg_Course_handings X hW h0.2.2.2.2.2.2.2.2.1 zu_246 dX10_judge_13 ?_
    refine lv_astore (lv' := [(6, .ref (zad w 30)), (0, .ref (zad w 0)), (1, .int a1), (2, .int a2), (3, .int a3), (4, .int a4), (5, .int a5)]) hx hb dX10_judge_16 hl (Nat.le_of_ble_eq_true rfl) rfl (fun ls hl => ?_)
    refine lv_iload_n hx hb dX10_judge_18 rfl (lv_at hl 2 rfl) ?_
    refine lv_if_lt (tgt := 31) hx hb dX10_judge_19 rfl (fun c => ?_) (fun c => ?_)
    · replace h := h.1 c
      refine lv_iconst hx hb dX10_judge_31 zc_im1 ?_
      exact zreti X hr hlk hW h dX10_judge_32
    · replace h := h.2 c
      refine lv_iload_n hx hb dX10_judge_22 rfl (lv_at hl 2 rfl) ?_
      refine lv_aload hx hb dX10_judge_23 (lv_at hl 0 rfl) ?_
      refine zg_Handings_size X hW h0.2.2.2.2.2.2.2.2.1.2.1 zu_235 dX10_judge_25 ?_
      refine lv_icmp_lt (tgt := 33) hx hb dX10_judge_28 rfl (fun c => ?_) (fun c => ?_)
      · replace h := h.1 c
        refine lv_aload hx hb dX10_judge_33 (lv_at hl 0 rfl) ?_
        refine lv_iload_n hx hb dX10_judge_35 rfl (lv_at hl 2 rfl) ?_
        refine lv_iconst hx hb dX10_judge_36 zc_i0 ?_
        refine zcalli (zrunV (As := [.int a1, .int 0]) (rest := []) X hml hl hW h0.2.2.2.2.2.2.2.2.1.2.1.1 rfl zk_Main_256 (c_Handings_valueOf h0.2.2.2.2.2.2.2.2.1.2.1 h) rfl ⟨Nat.le_of_ble_eq_true rfl, Nat.le_of_ble_eq_true rfl⟩ ⟨Nat.le_refl 0, Nat.le_refl 0⟩ rfl (Nat.le_of_ble_eq_true rfl) dX10_judge_37) hW (fun zr4 zm3 H locs h hW => ?_)
        refine lv_iload_n hx hb dX10_judge_40 rfl (lv_at hl 3 rfl) ?_
        refine lv_icmp_eq (tgt := 46) hx hb dX10_judge_41 rfl (fun c => ?_) (fun c => ?_)
        · replace h := h.1 c
          refine lv_aload hx hb dX10_judge_46 (lv_at hl 0 rfl) ?_
          refine lv_iload_n hx hb dX10_judge_48 rfl (lv_at hl 2 rfl) ?_
          refine lv_iconst hx hb dX10_judge_49 zc_i1 ?_
          refine zcalli (zrunV (As := [.int a1, .int 1]) (rest := []) X hml hl hW h0.2.2.2.2.2.2.2.2.1.2.1.1 rfl zk_Main_256 (c_Handings_valueOf h0.2.2.2.2.2.2.2.2.1.2.1 h) rfl ⟨Nat.le_of_ble_eq_true rfl, Nat.le_of_ble_eq_true rfl⟩ ⟨Nat.le_refl 0, Nat.le_refl 0⟩ rfl (Nat.le_of_ble_eq_true rfl) dX10_judge_50) hW (fun zr6 zm5 H locs h hW => ?_)
          refine lv_iload_n hx hb dX10_judge_53 rfl (lv_at hl 4 rfl) ?_
          refine lv_icmp_eq (tgt := 59) hx hb dX10_judge_54 rfl (fun c => ?_) (fun c => ?_)
          · replace h := h.1 c
            refine lv_aload hx hb dX10_judge_59 (lv_at hl 0 rfl) ?_
            refine lv_iload_n hx hb dX10_judge_61 rfl (lv_at hl 2 rfl) ?_
            refine lv_iconst hx hb dX10_judge_62 zc_i2 ?_
            refine zcalli (zrunV (As := [.int a1, .int 2]) (rest := []) X hml hl hW h0.2.2.2.2.2.2.2.2.1.2.1.1 rfl zk_Main_256 (c_Handings_valueOf h0.2.2.2.2.2.2.2.2.1.2.1 h) rfl ⟨Nat.le_of_ble_eq_true rfl, Nat.le_of_ble_eq_true rfl⟩ ⟨Nat.le_refl 0, Nat.le_refl 0⟩ rfl (Nat.le_of_ble_eq_true rfl) dX10_judge_63) hW (fun zr8 zm7 H locs h hW => ?_)
            refine lv_iload hx hb dX10_judge_66 (lv_at hl 5 rfl) ?_
            refine lv_icmp_eq (tgt := 73) hx hb dX10_judge_68 rfl (fun c => ?_) (fun c => ?_)
            · replace h := h.1 c
              refine lv_aload hx hb dX10_judge_73 (lv_at hl 0 rfl) ?_
              refine lv_iload_n hx hb dX10_judge_75 rfl (lv_at hl 2 rfl) ?_
              refine lv_iconst hx hb dX10_judge_76 zc_i3 ?_
              refine zcalli (zrunV (As := [.int a1, .int 3]) (rest := []) X hml hl hW h0.2.2.2.2.2.2.2.2.1.2.1.1 rfl zk_Main_256 (c_Handings_valueOf h0.2.2.2.2.2.2.2.2.1.2.1 h) rfl ⟨Nat.le_of_ble_eq_true rfl, Nat.le_of_ble_eq_true rfl⟩ ⟨Nat.le_refl 0, Nat.le_refl 0⟩ rfl (Nat.le_of_ble_eq_true rfl) dX10_judge_77) hW (fun zr10 zm9 H locs h hW => ?_)
              refine lv_iload hx hb dX10_judge_80 (lv_at hl 6 rfl) ?_
              refine lv_icmp_eq (tgt := 89) hx hb dX10_judge_82 rfl (fun c => ?_) (fun c => ?_)
              · replace h := h.1 c
                refine lv_iconst hx hb dX10_judge_89 zc_i0 ?_
                exact zreti X hr hlk hW h dX10_judge_90
              · replace h := h.2 c
                refine lv_iconst hx hb dX10_judge_85 zc_i4 ?_
                refine lv_goto (tgt := 90) hx hb dX10_judge_86 rfl ?_
                exact zreti X hr hlk hW h dX10_judge_90
            · replace h := h.2 c
              refine lv_iconst hx hb dX10_judge_71 zc_i3 ?_
              exact zreti X hr hlk hW h dX10_judge_72
          · replace h := h.2 c
            refine lv_iconst hx hb dX10_judge_57 zc_i2 ?_
            exact zreti X hr hlk hW h dX10_judge_58
        · replace h := h.2 c
          refine lv_iconst hx hb dX10_judge_44 zc_i1 ?_
          exact zreti X hr hlk hW h dX10_judge_45
      · replace h := h.2 c
        refine lv_iconst hx hb dX10_judge_31 zc_im1 ?_
        exact zreti X hr hlk hW h dX10_judge_32
  exact zMain s.heap [] ls hW hl
def wp_Main_findRing  (M : zMem) (Q : zMem → Prop) : Prop :=
  (¬ (M 54 0) = 0 → Q M) ∧ ((M 54 0) = 0 → wp_Settling_settle 41 1 54 M (fun zm1 => Q zm1))
set_option maxHeartbeats 4000000 in
set_option maxRecDepth 20000 in
theorem c_Main_findRing {l : Launch} {w : zWd} {M : zMem} {post : zMem → Prop} (h0 : zI_Main w) (h : wp_Main_findRing  M post) : zMv l ⟨"HandToHand", "findRing", "()V"⟩ prog_1_method_49_code 1 none 5 118 w [.ref (zad w 0)] M post := by
  refine zMet (by decide) (Nat.le_of_ble_eq_true rfl) ?_
  intro p e s m below meth c X hr hlk hml hW ls hl
  have hx := X.1
  have hb := X.2.1
  have hl : lv_has ls 1 [(0, .ref (zad w 0))] := hl
  unfold wp_Main_findRing at h
  have zMain : ∀ (H : Heap) (locs : List Loc) (ls : Array Slot), zWo w s.heap M H locs → lv_has ls 1 [(0, .ref (zad w 0))] → W p l e (zRm 5 118) s m ([.ref (zad w 0)] : List Value).toArray below meth c H locs 0 0 (MQ below (va_Qv post (zB w) (zA w)) ([.ref (zad w 0)] : List Value).toArray s 0 0 (zA w)) (F0 m 0 ls []) := by
    intro H locs ls hW hl
    refine lv_aload_n hx hb dX10_findRing_0 rfl (lv_at hl 0 rfl) ?_
    refine zg_Main_ring X hW h0 zu_475 dX10_findRing_1 ?_
    refine zg_Ring_known X hW h0.2.2.2.2.2.2.2.2.2.2.1 zu_293 dX10_findRing_4 ?_
    refine lv_if_ne (tgt := 25) hx hb dX10_findRing_7 rfl (fun c => ?_) (fun c => ?_)
    · replace h := h.1 c
      exact zretv X hr hlk hW h dX10_findRing_25
    · replace h := h.2 c
      refine lv_aload_n hx hb dX10_findRing_10 rfl (lv_at hl 0 rfl) ?_
      refine zg_Main_settling X hW h0 zu_474 dX10_findRing_11 ?_
      refine lv_aload_n hx hb dX10_findRing_14 rfl (lv_at hl 0 rfl) ?_
      refine zg_Main_told X hW h0 zu_467 dX10_findRing_15 ?_
      refine lv_aload_n hx hb dX10_findRing_18 rfl (lv_at hl 0 rfl) ?_
      refine zg_Main_ring X hW h0 zu_475 dX10_findRing_19 ?_
      refine zcallv (zrunV (As := [.ref (zad w 1), .ref (zad w 54)]) (rest := []) X hml hl hW h0.2.2.2.2.2.2.2.2.2.1.1 rfl zk_Main_333 (c_Settling_settle h0.2.2.2.2.2.2.2.2.2.1 h0.2.2.2.2.1 h0.2.2.2.2.2.2.2.2.2.2.1 h) rfl ⟨Nat.le_of_ble_eq_true rfl, Nat.le_of_ble_eq_true rfl⟩ ⟨Nat.le_refl 0, Nat.le_refl 0⟩ rfl (Nat.le_of_ble_eq_true rfl) dX10_findRing_22) hW (fun zm1 H locs h hW => ?_)
      exact zretv X hr hlk hW h dX10_findRing_25
  exact zMain s.heap [] ls hW hl
def wp_Main_settles (a1 : Int32) (M : zMem) (Q : Int32 → zMem → Prop) : Prop :=
  (a1 < 0 → Q ((-1)) M) ∧ (¬ a1 < 0 → (a1 ≤ 2 → wp_Main_findRing M (fun zm1 => (¬ (zm1 54 1) = 0 → (¬ a1 = 0 → (¬ a1 = 1 → Q (zm1 54 4) zm1) ∧ (a1 = 1 → Q (zm1 54 3) zm1)) ∧ (a1 = 0 → Q (zm1 54 2) zm1)) ∧ ((zm1 54 1) = 0 → Q ((-4)) zm1))) ∧ (¬ a1 ≤ 2 → Q ((-1)) M))
set_option maxHeartbeats 4000000 in
set_option maxRecDepth 20000 in
theorem c_Main_settles {l : Launch} {w : zWd} {a1 : Int32} {M : zMem} {post : Int32 → zMem → Prop} (h0 : zI_Main w) (h : wp_Main_settles a1 M post) : zMi l ⟨"HandToHand", "settles", "(I)I"⟩ prog_1_method_23_code 2 (Option.some .int) 6 138 w [.ref (zad w 0), .int a1] M post := by
  refine zMet (by decide) (Nat.le_of_ble_eq_true rfl) ?_
  intro p e s m below meth c X hr hlk hml hW ls hl
  have hx := X.1
  have hb := X.2.1
  have hl : lv_has ls 2 [(0, .ref (zad w 0)), (1, .int a1)] := hl
  unfold wp_Main_settles at h
  have zMain : ∀ (H : Heap) (locs : List Loc) (ls : Array Slot), zWo w s.heap M H locs → lv_has ls 2 [(0, .ref (zad w 0)), (1, .int a1)] → W p l e (zRm 6 138) s m ([.ref (zad w 0), .int a1] : List Value).toArray below meth c H locs 0 0 (MQ below (va_Qi post (zB w) (zA w)) ([.ref (zad w 0), .int a1] : List Value).toArray s 0 0 (zA w)) (F0 m 0 ls []) := by
    intro H locs ls hW hl
    refine lv_iload_n hx hb dX10_settles_0 rfl (lv_at hl 1 rfl) ?_
    refine lv_if_lt (tgt := 9) hx hb dX10_settles_1 rfl (fun c => ?_) (fun c => ?_)
    · replace h := h.1 c
      refine lv_iconst hx hb dX10_settles_9 zc_im1 ?_
      exact zreti X hr hlk hW h dX10_settles_10
    · replace h := h.2 c
      refine lv_iload_n hx hb dX10_settles_4 rfl (lv_at hl 1 rfl) ?_
      refine lv_iconst hx hb dX10_settles_5 zc_i2 ?_
      refine lv_icmp_le (tgt := 11) hx hb dX10_settles_6 rfl (fun c => ?_) (fun c => ?_)
      · replace h := h.1 c
        refine lv_aload_n hx hb dX10_settles_11 rfl (lv_at hl 0 rfl) ?_
        refine zcallv (zrunV (As := []) (rest := []) X hml hl hW h0.1 rfl zk_Main_259 (c_Main_findRing h0 h) rfl ⟨Nat.le_of_ble_eq_true rfl, Nat.le_of_ble_eq_true rfl⟩ ⟨Nat.le_refl 0, Nat.le_refl 0⟩ rfl (Nat.le_of_ble_eq_true rfl) dX10_settles_12) hW (fun zm1 H locs h hW => ?_)
        refine lv_aload_n hx hb dX10_settles_15 rfl (lv_at hl 0 rfl) ?_
        refine zg_Main_ring X hW h0 zu_475 dX10_settles_16 ?_
        refine zg_Ring_found X hW h0.2.2.2.2.2.2.2.2.2.2.1 zu_296 dX10_settles_19 ?_
        refine lv_if_ne (tgt := 28) hx hb dX10_settles_22 rfl (fun c => ?_) (fun c => ?_)
        · replace h := h.1 c
          refine lv_iload_n hx hb dX10_settles_28 rfl (lv_at hl 1 rfl) ?_
          refine lv_if_ne (tgt := 42) hx hb dX10_settles_29 rfl (fun c => ?_) (fun c => ?_)
          · replace h := h.1 c
            refine lv_iload_n hx hb dX10_settles_42 rfl (lv_at hl 1 rfl) ?_
            refine lv_iconst hx hb dX10_settles_43 zc_i1 ?_
            refine lv_icmp_ne (tgt := 57) hx hb dX10_settles_44 rfl (fun c => ?_) (fun c => ?_)
            · replace h := h.1 c
              refine lv_aload_n hx hb dX10_settles_57 rfl (lv_at hl 0 rfl) ?_
              refine zg_Main_ring X hW h0 zu_475 dX10_settles_58 ?_
              refine zg_Ring_ticks X hW h0.2.2.2.2.2.2.2.2.2.2.1 zu_303 dX10_settles_61 ?_
              exact zreti X hr hlk hW h dX10_settles_64
            · replace h := h.2 c
              refine lv_aload_n hx hb dX10_settles_47 rfl (lv_at hl 0 rfl) ?_
              refine zg_Main_ring X hW h0 zu_475 dX10_settles_48 ?_
              refine zg_Ring_coats X hW h0.2.2.2.2.2.2.2.2.2.2.1 zu_300 dX10_settles_51 ?_
              refine lv_goto (tgt := 64) hx hb dX10_settles_54 rfl ?_
              exact zreti X hr hlk hW h dX10_settles_64
          · replace h := h.2 c
            refine lv_aload_n hx hb dX10_settles_32 rfl (lv_at hl 0 rfl) ?_
            refine zg_Main_ring X hW h0 zu_475 dX10_settles_33 ?_
            refine zg_Ring_ahead X hW h0.2.2.2.2.2.2.2.2.2.2.1 zu_298 dX10_settles_36 ?_
            refine lv_goto (tgt := 64) hx hb dX10_settles_39 rfl ?_
            exact zreti X hr hlk hW h dX10_settles_64
        · replace h := h.2 c
          refine lv_bipush hx hb dX10_settles_25 zc_bm4 ?_
          exact zreti X hr hlk hW h dX10_settles_27
      · replace h := h.2 c
        refine lv_iconst hx hb dX10_settles_9 zc_im1 ?_
        exact zreti X hr hlk hW h dX10_settles_10
  exact zMain s.heap [] ls hW hl
def wp_Main_where (a1 : Int32) (a2 : Int32) (M : zMem) (Q : Int32 → zMem → Prop) : Prop :=
  (a1 < 1 → Q ((-1)) M) ∧ (¬ a1 < 1 → ((M 1 1) ≤ a1 → Q ((-1)) M) ∧ (¬ (M 1 1) ≤ a1 → (a2 < 0 → Q ((-1)) M) ∧ (¬ a2 < 0 → (a2 ≤ 3 → wp_Main_findRing M (fun zm1 => (¬ (zm1 54 1) = 0 → wp_Course_runFor 29 120 zm1 (fun zm3 => wp_Handings_placesOf 30 a1 54 a2 zm3 (fun zr6 zm5 => Q zr6 zm5))) ∧ ((zm1 54 1) = 0 → Q ((-4)) zm1))) ∧ (¬ a2 ≤ 3 → Q ((-1)) M))))
set_option maxHeartbeats 4000000 in
set_option maxRecDepth 20000 in
theorem c_Main_where {l : Launch} {w : zWd} {a1 : Int32} {a2 : Int32} {M : zMem} {post : Int32 → zMem → Prop} (h0 : zI_Main w) (h : wp_Main_where a1 a2 M post) : zMi l ⟨"HandToHand", "where", "(II)I"⟩ prog_1_method_24_code 3 (Option.some .int) 6 138 w [.ref (zad w 0), .int a1, .int a2] M post := by
  refine zMet (by decide) (Nat.le_of_ble_eq_true rfl) ?_
  intro p e s m below meth c X hr hlk hml hW ls hl
  have hx := X.1
  have hb := X.2.1
  have hl : lv_has ls 3 [(0, .ref (zad w 0)), (1, .int a1), (2, .int a2)] := hl
  unfold wp_Main_where at h
  have zMain : ∀ (H : Heap) (locs : List Loc) (ls : Array Slot), zWo w s.heap M H locs → lv_has ls 3 [(0, .ref (zad w 0)), (1, .int a1), (2, .int a2)] → W p l e (zRm 6 138) s m ([.ref (zad w 0), .int a1, .int a2] : List Value).toArray below meth c H locs 0 0 (MQ below (va_Qi post (zB w) (zA w)) ([.ref (zad w 0), .int a1, .int a2] : List Value).toArray s 0 0 (zA w)) (F0 m 0 ls []) := by
    intro H locs ls hW hl
    refine lv_iload_n hx hb dX10_where_0 rfl (lv_at hl 1 rfl) ?_
    refine lv_iconst hx hb dX10_where_1 zc_i1 ?_
    refine lv_icmp_lt (tgt := 25) hx hb dX10_where_2 rfl (fun c => ?_) (fun c => ?_)
    · replace h := h.1 c
      refine lv_iconst hx hb dX10_where_25 zc_im1 ?_
      exact zreti X hr hlk hW h dX10_where_26
    · replace h := h.2 c
      refine lv_iload_n hx hb dX10_where_5 rfl (lv_at hl 1 rfl) ?_
      refine lv_aload_n hx hb dX10_where_6 rfl (lv_at hl 0 rfl) ?_
      refine zg_Main_told X hW h0 zu_467 dX10_where_7 ?_
      refine zg_Told_hands X hW h0.2.2.2.2.1 zu_41 dX10_where_10 ?_
      refine lv_icmp_ge (tgt := 25) hx hb dX10_where_13 rfl (fun c => ?_) (fun c => ?_)
      · replace h := h.1 c
        refine lv_iconst hx hb dX10_where_25 zc_im1 ?_
        exact zreti X hr hlk hW h dX10_where_26
      · replace h := h.2 c
        refine lv_iload_n hx hb dX10_where_16 rfl (lv_at hl 2 rfl) ?_
        refine lv_if_lt (tgt := 25) hx hb dX10_where_17 rfl (fun c => ?_) (fun c => ?_)
        · replace h := h.1 c
          refine lv_iconst hx hb dX10_where_25 zc_im1 ?_
          exact zreti X hr hlk hW h dX10_where_26
        · replace h := h.2 c
          refine lv_iload_n hx hb dX10_where_20 rfl (lv_at hl 2 rfl) ?_
          refine lv_iconst hx hb dX10_where_21 zc_i3 ?_
          refine lv_icmp_le (tgt := 27) hx hb dX10_where_22 rfl (fun c => ?_) (fun c => ?_)
          · replace h := h.1 c
            refine lv_aload_n hx hb dX10_where_27 rfl (lv_at hl 0 rfl) ?_
            refine zcallv (zrunV (As := []) (rest := []) X hml hl hW h0.1 rfl zk_Main_259 (c_Main_findRing h0 h) rfl ⟨Nat.le_of_ble_eq_true rfl, Nat.le_of_ble_eq_true rfl⟩ ⟨Nat.le_refl 0, Nat.le_refl 0⟩ rfl (Nat.le_of_ble_eq_true rfl) dX10_where_28) hW (fun zm1 H locs h hW => ?_)
            refine lv_aload_n hx hb dX10_where_31 rfl (lv_at hl 0 rfl) ?_
            refine zg_Main_ring X hW h0 zu_475 dX10_where_32 ?_
            refine zg_Ring_found X hW h0.2.2.2.2.2.2.2.2.2.2.1 zu_296 dX10_where_35 ?_
            refine lv_if_ne (tgt := 44) hx hb dX10_where_38 rfl (fun c => ?_) (fun c => ?_)
            · replace h := h.1 c
              refine lv_aload_n hx hb dX10_where_44 rfl (lv_at hl 0 rfl) ?_
              refine zg_Main_course X hW h0 zu_473 dX10_where_45 ?_
              refine lv_bipush hx hb dX10_where_48 zc_b120 ?_
              refine zcallv (zrunV (As := [.int 120]) (rest := []) X hml hl hW h0.2.2.2.2.2.2.2.2.1.1 rfl zk_Main_234 (c_Course_runFor h0.2.2.2.2.2.2.2.2.1 h) rfl ⟨Nat.le_of_ble_eq_true rfl, Nat.le_of_ble_eq_true rfl⟩ ⟨Nat.le_refl 0, Nat.le_refl 0⟩ rfl (Nat.le_of_ble_eq_true rfl) dX10_where_50) hW (fun zm3 H locs h hW => ?_)
              refine lv_aload_n hx hb dX10_where_53 rfl (lv_at hl 0 rfl) ?_
              refine zg_Main_course X hW h0 zu_473 dX10_where_54 ?_
              refine zg_Course_handings X hW h0.2.2.2.2.2.2.2.2.1 zu_246 dX10_where_57 ?_
              refine lv_iload_n hx hb dX10_where_60 rfl (lv_at hl 1 rfl) ?_
              refine lv_aload_n hx hb dX10_where_61 rfl (lv_at hl 0 rfl) ?_
              refine zg_Main_ring X hW h0 zu_475 dX10_where_62 ?_
              refine lv_iload_n hx hb dX10_where_65 rfl (lv_at hl 2 rfl) ?_
              refine zcalli (zrunV (As := [.int a1, .ref (zad w 54), .int a2]) (rest := []) X hml hl hW h0.2.2.2.2.2.2.2.2.1.2.1.1 rfl zk_Main_274 (c_Handings_placesOf h0.2.2.2.2.2.2.2.2.1.2.1 h0.2.2.2.2.2.2.2.2.2.2.1 h) rfl ⟨Nat.le_of_ble_eq_true rfl, Nat.le_of_ble_eq_true rfl⟩ ⟨Nat.le_refl 0, Nat.le_refl 0⟩ rfl (Nat.le_of_ble_eq_true rfl) dX10_where_66) hW (fun zr6 zm5 H locs h hW => ?_)
              exact zreti X hr hlk hW h dX10_where_69
            · replace h := h.2 c
              refine lv_bipush hx hb dX10_where_41 zc_bm4 ?_
              exact zreti X hr hlk hW h dX10_where_43
          · replace h := h.2 c
            refine lv_iconst hx hb dX10_where_25 zc_im1 ?_
            exact zreti X hr hlk hW h dX10_where_26
  exact zMain s.heap [] ls hW hl
def wp_Main_isHalf (a1 : Int32) (M : zMem) (Q : Int32 → zMem → Prop) : Prop :=
  (a1 = 0 → Q 1 M) ∧ (¬ a1 = 0 → (¬ a1 = 1 → Q 0 M) ∧ (a1 = 1 → Q 1 M))
set_option maxHeartbeats 4000000 in
set_option maxRecDepth 20000 in
theorem c_Main_isHalf {l : Launch} {w : zWd} {a1 : Int32} {M : zMem} {post : Int32 → zMem → Prop}  (h : wp_Main_isHalf a1 M post) : zMi l ⟨"HandToHand", "isHalf", "(I)Z"⟩ prog_1_method_42_code 1 (Option.some .boolean) 0 0 w [.int a1] M post := by
  refine zMet (by decide) (Nat.le_of_ble_eq_true rfl) ?_
  intro p e s m below meth c X hr hlk hml hW ls hl
  have hx := X.1
  have hb := X.2.1
  have hl : lv_has ls 1 [(0, .int a1)] := hl
  unfold wp_Main_isHalf at h
  have zMain : ∀ (H : Heap) (locs : List Loc) (ls : Array Slot), zWo w s.heap M H locs → lv_has ls 1 [(0, .int a1)] → W p l e (zRm 0 0) s m ([.int a1] : List Value).toArray below meth c H locs 0 0 (MQ below (va_Qi post (zB w) (zA w)) ([.int a1] : List Value).toArray s 0 0 (zA w)) (F0 m 0 ls []) := by
    intro H locs ls hW hl
    refine lv_iload_n hx hb dX10_isHalf_0 rfl (lv_at hl 0 rfl) ?_
    refine lv_if_eq (tgt := 9) hx hb dX10_isHalf_1 rfl (fun c => ?_) (fun c => ?_)
    · replace h := h.1 c
      refine lv_iconst hx hb dX10_isHalf_9 zc_i1 ?_
      refine lv_goto (tgt := 14) hx hb dX10_isHalf_10 rfl ?_
      exact zretz X hr hlk hW rfl h dX10_isHalf_14
    · replace h := h.2 c
      refine lv_iload_n hx hb dX10_isHalf_4 rfl (lv_at hl 0 rfl) ?_
      refine lv_iconst hx hb dX10_isHalf_5 zc_i1 ?_
      refine lv_icmp_ne (tgt := 13) hx hb dX10_isHalf_6 rfl (fun c => ?_) (fun c => ?_)
      · replace h := h.1 c
        refine lv_iconst hx hb dX10_isHalf_13 zc_i0 ?_
        exact zretz X hr hlk hW rfl h dX10_isHalf_14
      · replace h := h.2 c
        refine lv_iconst hx hb dX10_isHalf_9 zc_i1 ?_
        refine lv_goto (tgt := 14) hx hb dX10_isHalf_10 rfl ?_
        exact zretz X hr hlk hW rfl h dX10_isHalf_14
  exact zMain s.heap [] ls hW hl
def wp_Main_makes (a1 : Int32) (M : zMem) (Q : Int32 → zMem → Prop) : Prop :=
  wp_Main_isHalf a1 M (fun zr2 zm1 => (¬ zr2 = 0 → wp_Main_findRing zm1 (fun zm3 => (¬ a1 = 0 → Q (zm3 54 7) zm3) ∧ (a1 = 0 → Q (zm3 54 6) zm3))) ∧ (zr2 = 0 → Q ((-1)) zm1))
set_option maxHeartbeats 4000000 in
set_option maxRecDepth 20000 in
theorem c_Main_makes {l : Launch} {w : zWd} {a1 : Int32} {M : zMem} {post : Int32 → zMem → Prop} (h0 : zI_Main w) (h : wp_Main_makes a1 M post) : zMi l ⟨"HandToHand", "makes", "(I)I"⟩ prog_1_method_25_code 2 (Option.some .int) 6 138 w [.ref (zad w 0), .int a1] M post := by
  refine zMet (by decide) (Nat.le_of_ble_eq_true rfl) ?_
  intro p e s m below meth c X hr hlk hml hW ls hl
  have hx := X.1
  have hb := X.2.1
  have hl : lv_has ls 2 [(0, .ref (zad w 0)), (1, .int a1)] := hl
  unfold wp_Main_makes at h
  have zMain : ∀ (H : Heap) (locs : List Loc) (ls : Array Slot), zWo w s.heap M H locs → lv_has ls 2 [(0, .ref (zad w 0)), (1, .int a1)] → W p l e (zRm 6 138) s m ([.ref (zad w 0), .int a1] : List Value).toArray below meth c H locs 0 0 (MQ below (va_Qi post (zB w) (zA w)) ([.ref (zad w 0), .int a1] : List Value).toArray s 0 0 (zA w)) (F0 m 0 ls []) := by
    intro H locs ls hW hl
    refine lv_iload_n hx hb dX10_makes_0 rfl (lv_at hl 1 rfl) ?_
    refine zcalli (zrunS (As := [.int a1]) (rest := []) X hml hl hW zk_Main_278 (c_Main_isHalf  h) rfl ⟨Nat.le_of_ble_eq_true rfl, Nat.le_of_ble_eq_true rfl⟩ ⟨Nat.le_refl 0, Nat.le_refl 0⟩ rfl (Nat.le_of_ble_eq_true rfl) dX10_makes_1) hW (fun zr2 zm1 H locs h hW => ?_)
    refine lv_if_ne (tgt := 9) hx hb dX10_makes_4 rfl (fun c => ?_) (fun c => ?_)
    · replace h := h.1 c
      refine lv_aload_n hx hb dX10_makes_9 rfl (lv_at hl 0 rfl) ?_
      refine zcallv (zrunV (As := []) (rest := []) X hml hl hW h0.1 rfl zk_Main_259 (c_Main_findRing h0 h) rfl ⟨Nat.le_of_ble_eq_true rfl, Nat.le_of_ble_eq_true rfl⟩ ⟨Nat.le_refl 0, Nat.le_refl 0⟩ rfl (Nat.le_of_ble_eq_true rfl) dX10_makes_10) hW (fun zm3 H locs h hW => ?_)
      refine lv_iload_n hx hb dX10_makes_13 rfl (lv_at hl 1 rfl) ?_
      refine lv_if_ne (tgt := 27) hx hb dX10_makes_14 rfl (fun c => ?_) (fun c => ?_)
      · replace h := h.1 c
        refine lv_aload_n hx hb dX10_makes_27 rfl (lv_at hl 0 rfl) ?_
        refine zg_Main_ring X hW h0 zu_475 dX10_makes_28 ?_
        refine zg_Ring_bottom X hW h0.2.2.2.2.2.2.2.2.2.2.1 zu_311 dX10_makes_31 ?_
        exact zreti X hr hlk hW h dX10_makes_34
      · replace h := h.2 c
        refine lv_aload_n hx hb dX10_makes_17 rfl (lv_at hl 0 rfl) ?_
        refine zg_Main_ring X hW h0 zu_475 dX10_makes_18 ?_
        refine zg_Ring_top X hW h0.2.2.2.2.2.2.2.2.2.2.1 zu_308 dX10_makes_21 ?_
        refine lv_goto (tgt := 34) hx hb dX10_makes_24 rfl ?_
        exact zreti X hr hlk hW h dX10_makes_34
    · replace h := h.2 c
      refine lv_iconst hx hb dX10_makes_7 zc_im1 ?_
      exact zreti X hr hlk hW h dX10_makes_8
  exact zMain s.heap [] ls hW hl
