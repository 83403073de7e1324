def wpB_Model_nameAt_39 (a1 : Int32) (a2 : Int32) (x_3 : Int32) (K90 : Int32 → zMem → Prop) (Q : Int32 → zMem → Prop) (J : Int32 → Int32 → zMem → Prop) (x_4 : Int32) (x_5 : Int32) (M : zMem) : Prop :=
  (x_4 = 0 → K90 x_4 M) ∧ (¬ x_4 = 0 → ((a2 - a1) ≤ x_5 → K90 x_4 M) ∧ (¬ (a2 - a1) ≤ x_5 → wp_Model_byteAt (a1 + x_5) M (fun zr2 zm1 => vp_in x_3 11 ∧ vp_in ((zm1 2 (ix x_3)) + x_5) 43 ∧ (¬ zr2 = (zm1 3 (ix ((zm1 2 (ix x_3)) + x_5))) → ∀ zx3 : Int32, zx3 = x_5 + 1 → J 0 zx3 zm1) ∧ (zr2 = (zm1 3 (ix ((zm1 2 (ix x_3)) + x_5))) → ∀ zx4 : Int32, zx4 = x_5 + 1 → J 1 zx4 zm1))))
def wpB_Model_nameAt_2 (a1 : Int32) (a2 : Int32)   (Q : Int32 → zMem → Prop) (J : Int32 → zMem → Prop) (x_3 : Int32) (M : zMem) : Prop :=
  (10 ≤ x_3 → Q ((-4)) M) ∧ (¬ 10 ≤ x_3 → vp_in (x_3 + 1) 11 ∧ vp_in x_3 11 ∧ (¬ (a2 - a1) = ((M 2 (ix (x_3 + 1))) - (M 2 (ix x_3))) → ∃ n : Nat, zlp2 (wpB_Model_nameAt_39 a1 a2 x_3 (fun (zx6 : Int32) (zm5 : zMem) => (zx6 = 0 → ∀ zx7 : Int32, zx7 = x_3 + 1 → J zx7 zm5) ∧ (¬ zx6 = 0 → Q x_3 zm5)) Q) n 0 0 M) ∧ ((a2 - a1) = ((M 2 (ix (x_3 + 1))) - (M 2 (ix x_3))) → ∃ n : Nat, zlp2 (wpB_Model_nameAt_39 a1 a2 x_3 (fun (zx9 : Int32) (zm8 : zMem) => (zx9 = 0 → ∀ zx10 : Int32, zx10 = x_3 + 1 → J zx10 zm8) ∧ (¬ zx9 = 0 → Q x_3 zm8)) Q) n 1 0 M))
def wp_Model_nameAt (a1 : Int32) (a2 : Int32) (M : zMem) (Q : Int32 → zMem → Prop) : Prop :=
  ∃ n : Nat, zlp1 (wpB_Model_nameAt_2 a1 a2   Q) n 0 M
set_option maxHeartbeats 4000000 in
set_option maxRecDepth 20000 in
theorem c_Model_nameAt {l : Launch} {w : zWd} {a1 : Int32} {a2 : Int32} {M : zMem} {post : Int32 → zMem → Prop} (h0 : zI_Model w) (h : wp_Model_nameAt a1 a2 M post) : zMi l ⟨"HandToHandModel", "nameAt", "(II)I"⟩ prog_13_method_8_code 6 (Option.some .int) 1 21 w [.ref (zad w 0), .int a1, .int a2] M post := by
  refine zMet (by decide) (Nat.le_of_ble_eq_true rfl) ?_
  intro p e s m below meth c X hr hlk hml hW ls hl
  have hx := X.1
  have hb := X.2.1
  have hl : lv_has ls 6 [(0, .ref (zad w 0)), (1, .int a1), (2, .int a2)] := hl
  have zL_39 : ∀ (x_3 : Int32) (K90 : Int32 → zMem → Prop) (zK90 : ∀ (y_4 : Int32) (M : zMem) (H : Heap) (locs : List Loc) (ls : Array Slot), zWo w s.heap M H locs → lv_has ls 6 [(0, .ref (zad w 0)), (1, .int a1), (2, .int a2), (3, .int x_3), (4, .int y_4)] → K90 y_4 M → W p l e (zRm 1 21) s m ([.ref (zad w 0), .int a1, .int a2] : List Value).toArray below meth c H locs 0 0 (MQ below (va_Qi post (zB w) (zA w)) ([.ref (zad w 0), .int a1, .int a2] : List Value).toArray s 0 0 (zA w)) (F0 m 90 ls [])), ∀ (n : Nat) (x_4 : Int32) (x_5 : Int32) (M : zMem) (H : Heap) (locs : List Loc) (ls : Array Slot), zWo w s.heap M H locs → lv_has ls 6 [(0, .ref (zad w 0)), (1, .int a1), (2, .int a2), (3, .int x_3), (4, .int x_4), (5, .int x_5)] → zlp2 (wpB_Model_nameAt_39 a1 a2 x_3 K90 post) n x_4 x_5 M → W p l e (zRm 1 21) s m ([.ref (zad w 0), .int a1, .int a2] : List Value).toArray below meth c H locs 0 0 (MQ below (va_Qi post (zB w) (zA w)) ([.ref (zad w 0), .int a1, .int a2] : List Value).toArray s 0 0 (zA w)) (F0 m 39 ls []) := by
    intro x_3 K90 zK90 n
    induction n with
    | zero => intro x_4 x_5 M H locs ls hW hl h; exact h.elim
    | succ n zJ =>
      intro x_4 x_5 M H locs ls hW hl h
      have h : wpB_Model_nameAt_39 a1 a2 x_3 K90 post (zlp2 (wpB_Model_nameAt_39 a1 a2 x_3 K90 post) n) x_4 x_5 M := h
      unfold wpB_Model_nameAt_39 at h
      refine lv_iload hx hb dX11_nameAt_39 (lv_at hl 4 rfl) ?_
      refine lv_if_eq (tgt := 90) hx hb dX11_nameAt_41 rfl (fun c => ?_) (fun c => ?_)
      · replace h := h.1 c
        exact zK90 x_4 M H locs ls hW (lv_sub hl [0, 1, 2, 3, 4] rfl) h
      · replace h := h.2 c
        refine lv_iload hx hb dX11_nameAt_44 (lv_at hl 5 rfl) ?_
        refine lv_iload_n hx hb dX11_nameAt_46 rfl (lv_at hl 2 rfl) ?_
        refine lv_iload_n hx hb dX11_nameAt_47 rfl (lv_at hl 1 rfl) ?_
        refine lv_isub hx hb dX11_nameAt_48 ?_
        refine lv_icmp_ge (tgt := 90) hx hb dX11_nameAt_49 rfl (fun c => ?_) (fun c => ?_)
        · replace h := h.1 c
          exact zK90 x_4 M H locs ls hW (lv_sub hl [0, 1, 2, 3, 4] rfl) h
        · replace h := h.2 c
          refine lv_aload_n hx hb dX11_nameAt_52 rfl (lv_at hl 0 rfl) ?_
          refine lv_iload_n hx hb dX11_nameAt_53 rfl (lv_at hl 1 rfl) ?_
          refine lv_iload hx hb dX11_nameAt_54 (lv_at hl 5 rfl) ?_
          refine lv_iadd hx hb dX11_nameAt_56 ?_
          refine zcalli (zrunV (As := [.int (a1 + x_5)]) (rest := []) X hml hl hW h0.1 rfl zk_Model_82 (c_Model_byteAt h0 h) rfl ⟨Nat.le_of_ble_eq_true rfl, Nat.le_of_ble_eq_true rfl⟩ ⟨Nat.le_refl 0, Nat.le_refl 0⟩ rfl (Nat.le_of_ble_eq_true rfl) dX11_nameAt_57) hW (fun zr2 zm1 H locs h hW => ?_)
          refine lv_aload_n hx hb dX11_nameAt_60 rfl (lv_at hl 0 rfl) ?_
          refine zg_Model_letters X hW h0 zu_1030 dX11_nameAt_61 ?_
          refine lv_aload_n hx hb dX11_nameAt_64 rfl (lv_at hl 0 rfl) ?_
          refine zg_Model_cuts X hW h0 zu_1029 dX11_nameAt_65 ?_
          refine lv_iload_n hx hb dX11_nameAt_68 rfl (lv_at hl 3 rfl) ?_
          obtain ⟨g, h⟩ := h
          refine ziald X hW h0.2.2.1 g dX11_nameAt_69 ?_
          refine lv_iload hx hb dX11_nameAt_70 (lv_at hl 5 rfl) ?_
          refine lv_iadd hx hb dX11_nameAt_72 ?_
          obtain ⟨g, h⟩ := h
          refine ziald X hW h0.2.2.2.1 g dX11_nameAt_73 ?_
          refine lv_icmp_ne (tgt := 81) hx hb dX11_nameAt_74 rfl (fun c => ?_) (fun c => ?_)
          · replace h := h.1 c
            refine lv_iconst hx hb dX11_nameAt_81 zc_i0 ?_
            refine lv_istore (lv' := [(4, .int 0), (0, .ref (zad w 0)), (1, .int a1), (2, .int a2), (3, .int x_3), (5, .int x_5)]) hx hb dX11_nameAt_82 hl (Nat.le_of_ble_eq_true rfl) rfl (fun ls hl => ?_)
            obtain ⟨zx3, ezx3⟩ : ∃ y : Int32, y = x_5 + 1 := ⟨_, rfl⟩
            replace h := h zx3 ezx3
            refine lv_iinc (v := zx3) (lv' := [(5, .int zx3), (4, .int 0), (0, .ref (zad w 0)), (1, .int a1), (2, .int a2), (3, .int x_3)]) hx hb dX11_nameAt_84 hl (k := 5) rfl (by rw [ezx3, zc_i1]) (Nat.le_of_ble_eq_true rfl) rfl (fun ls hl => ?_)
            refine lv_goto (tgt := 39) hx hb dX11_nameAt_87 rfl ?_
            exact zJ 0 zx3 zm1 H locs ls hW (lv_sub hl [2, 3, 4, 5, 1, 0] rfl) h
          · replace h := h.2 c
            refine lv_iconst hx hb dX11_nameAt_77 zc_i1 ?_
            refine lv_goto (tgt := 82) hx hb dX11_nameAt_78 rfl ?_
            refine lv_istore (lv' := [(4, .int 1), (0, .ref (zad w 0)), (1, .int a1), (2, .int a2), (3, .int x_3), (5, .int x_5)]) hx hb dX11_nameAt_82 hl (Nat.le_of_ble_eq_true rfl) rfl (fun ls hl => ?_)
            obtain ⟨zx4, ezx4⟩ : ∃ y : Int32, y = x_5 + 1 := ⟨_, rfl⟩
            replace h := h zx4 ezx4
            refine lv_iinc (v := zx4) (lv' := [(5, .int zx4), (4, .int 1), (0, .ref (zad w 0)), (1, .int a1), (2, .int a2), (3, .int x_3)]) hx hb dX11_nameAt_84 hl (k := 5) rfl (by rw [ezx4, zc_i1]) (Nat.le_of_ble_eq_true rfl) rfl (fun ls hl => ?_)
            refine lv_goto (tgt := 39) hx hb dX11_nameAt_87 rfl ?_
            exact zJ 1 zx4 zm1 H locs ls hW (lv_sub hl [2, 3, 4, 5, 1, 0] rfl) h
  have zL_2 :  ∀ (n : Nat) (x_3 : Int32) (M : zMem) (H : Heap) (locs : List Loc) (ls : Array Slot), zWo w s.heap M H locs → lv_has ls 6 [(0, .ref (zad w 0)), (1, .int a1), (2, .int a2), (3, .int x_3)] → zlp1 (wpB_Model_nameAt_2 a1 a2   post) n x_3 M → W p l e (zRm 1 21) s m ([.ref (zad w 0), .int a1, .int a2] : List Value).toArray below meth c H locs 0 0 (MQ below (va_Qi post (zB w) (zA w)) ([.ref (zad w 0), .int a1, .int a2] : List Value).toArray s 0 0 (zA w)) (F0 m 2 ls []) := by
    intro n
    induction n with
    | zero => intro x_3 M H locs ls hW hl h; exact h.elim
    | succ n zJ =>
      intro x_3 M H locs ls hW hl h
      have h : wpB_Model_nameAt_2 a1 a2   post (zlp1 (wpB_Model_nameAt_2 a1 a2   post) n) x_3 M := h
      unfold wpB_Model_nameAt_2 at h
      refine lv_iload_n hx hb dX11_nameAt_2 rfl (lv_at hl 3 rfl) ?_
      refine lv_bipush hx hb dX11_nameAt_3 zc_b10 ?_
      refine lv_icmp_ge (tgt := 103) hx hb dX11_nameAt_5 rfl (fun c => ?_) (fun c => ?_)
      · replace h := h.1 c
        refine lv_bipush hx hb dX11_nameAt_103 zc_bm4 ?_
        exact zreti X hr hlk hW h dX11_nameAt_105
      · replace h := h.2 c
        refine lv_iload_n hx hb dX11_nameAt_8 rfl (lv_at hl 2 rfl) ?_
        refine lv_iload_n hx hb dX11_nameAt_9 rfl (lv_at hl 1 rfl) ?_
        refine lv_isub hx hb dX11_nameAt_10 ?_
        refine lv_aload_n hx hb dX11_nameAt_11 rfl (lv_at hl 0 rfl) ?_
        refine zg_Model_cuts X hW h0 zu_1029 dX11_nameAt_12 ?_
        refine lv_iload_n hx hb dX11_nameAt_15 rfl (lv_at hl 3 rfl) ?_
        refine lv_iconst hx hb dX11_nameAt_16 zc_i1 ?_
        refine lv_iadd hx hb dX11_nameAt_17 ?_
        obtain ⟨g, h⟩ := h
        refine ziald X hW h0.2.2.1 g dX11_nameAt_18 ?_
        refine lv_aload_n hx hb dX11_nameAt_19 rfl (lv_at hl 0 rfl) ?_
        refine zg_Model_cuts X hW h0 zu_1029 dX11_nameAt_20 ?_
        refine lv_iload_n hx hb dX11_nameAt_23 rfl (lv_at hl 3 rfl) ?_
        obtain ⟨g, h⟩ := h
        refine ziald X hW h0.2.2.1 g dX11_nameAt_24 ?_
        refine lv_isub hx hb dX11_nameAt_25 ?_
        refine lv_icmp_ne (tgt := 33) hx hb dX11_nameAt_26 rfl (fun c => ?_) (fun c => ?_)
        · replace h := h.1 c
          refine lv_iconst hx hb dX11_nameAt_33 zc_i0 ?_
          refine lv_istore (lv' := [(4, .int 0), (0, .ref (zad w 0)), (1, .int a1), (2, .int a2), (3, .int x_3)]) hx hb dX11_nameAt_34 hl (Nat.le_of_ble_eq_true rfl) rfl (fun ls hl => ?_)
          refine lv_iconst hx hb dX11_nameAt_36 zc_i0 ?_
          refine lv_istore (lv' := [(5, .int 0), (4, .int 0), (0, .ref (zad w 0)), (1, .int a1), (2, .int a2), (3, .int x_3)]) hx hb dX11_nameAt_37 hl (Nat.le_of_ble_eq_true rfl) rfl (fun ls hl => ?_)
          obtain ⟨n, h⟩ := h
          refine zL_39 x_3 _ (fun zx6 zm5 H locs ls hW hl h => ?_) n 0 0 M H locs ls hW (lv_sub hl [2, 3, 4, 5, 1, 0] rfl) h
          · skip
            refine lv_iload hx hb dX11_nameAt_90 (lv_at hl 4 rfl) ?_
            refine lv_if_eq (tgt := 97) hx hb dX11_nameAt_92 rfl (fun c => ?_) (fun c => ?_)
            · replace h := h.1 c
              obtain ⟨zx7, ezx7⟩ : ∃ y : Int32, y = x_3 + 1 := ⟨_, rfl⟩
              replace h := h zx7 ezx7
              refine lv_iinc (v := zx7) (lv' := [(3, .int zx7), (0, .ref (zad w 0)), (1, .int a1), (2, .int a2), (4, .int zx6)]) hx hb dX11_nameAt_97 hl (k := 3) rfl (by rw [ezx7, zc_i1]) (Nat.le_of_ble_eq_true rfl) rfl (fun ls hl => ?_)
              refine lv_goto (tgt := 2) hx hb dX11_nameAt_100 rfl ?_
              exact zJ zx7 zm5 H locs ls hW (lv_sub hl [1, 2, 3, 0] rfl) h
            · replace h := h.2 c
              refine lv_iload_n hx hb dX11_nameAt_95 rfl (lv_at hl 3 rfl) ?_
              exact zreti X hr hlk hW h dX11_nameAt_96
        · replace h := h.2 c
          refine lv_iconst hx hb dX11_nameAt_29 zc_i1 ?_
          refine lv_goto (tgt := 34) hx hb dX11_nameAt_30 rfl ?_
          refine lv_istore (lv' := [(4, .int 1), (0, .ref (zad w 0)), (1, .int a1), (2, .int a2), (3, .int x_3)]) hx hb dX11_nameAt_34 hl (Nat.le_of_ble_eq_true rfl) rfl (fun ls hl => ?_)
          refine lv_iconst hx hb dX11_nameAt_36 zc_i0 ?_
          refine lv_istore (lv' := [(5, .int 0), (4, .int 1), (0, .ref (zad w 0)), (1, .int a1), (2, .int a2), (3, .int x_3)]) hx hb dX11_nameAt_37 hl (Nat.le_of_ble_eq_true rfl) rfl (fun ls hl => ?_)
          obtain ⟨n, h⟩ := h
          refine zL_39 x_3 _ (fun zx9 zm8 H locs ls hW hl h => ?_) n 1 0 M H locs ls hW (lv_sub hl [2, 3, 4, 5, 1, 0] rfl) h
          · skip
            refine lv_iload hx hb dX11_nameAt_90 (lv_at hl 4 rfl) ?_
            refine lv_if_eq (tgt := 97) hx hb dX11_nameAt_92 rfl (fun c => ?_) (fun c => ?_)
            · replace h := h.1 c
              obtain ⟨zx10, ezx10⟩ : ∃ y : Int32, y = x_3 + 1 := ⟨_, rfl⟩
              replace h := h zx10 ezx10
              refine lv_iinc (v := zx10) (lv' := [(3, .int zx10), (0, .ref (zad w 0)), (1, .int a1), (2, .int a2), (4, .int zx9)]) hx hb dX11_nameAt_97 hl (k := 3) rfl (by rw [ezx10, zc_i1]) (Nat.le_of_ble_eq_true rfl) rfl (fun ls hl => ?_)
              refine lv_goto (tgt := 2) hx hb dX11_nameAt_100 rfl ?_
              exact zJ zx10 zm8 H locs ls hW (lv_sub hl [1, 2, 3, 0] rfl) h
            · replace h := h.2 c
              refine lv_iload_n hx hb dX11_nameAt_95 rfl (lv_at hl 3 rfl) ?_
              exact zreti X hr hlk hW h dX11_nameAt_96
  unfold wp_Model_nameAt at h
  have zMain : ∀ (H : Heap) (locs : List Loc) (ls : Array Slot), zWo w s.heap M H locs → lv_has ls 6 [(0, .ref (zad w 0)), (1, .int a1), (2, .int a2)] → W p l e (zRm 1 21) s m ([.ref (zad w 0), .int a1, .int a2] : List Value).toArray below meth c H locs 0 0 (MQ below (va_Qi post (zB w) (zA w)) ([.ref (zad w 0), .int a1, .int a2] : List Value).toArray s 0 0 (zA w)) (F0 m 0 ls []) := by
    intro H locs ls hW hl
    refine lv_iconst hx hb dX11_nameAt_0 zc_i0 ?_
    refine lv_istore_n (lv' := [(3, .int 0), (0, .ref (zad w 0)), (1, .int a1), (2, .int a2)]) hx hb dX11_nameAt_1 rfl hl (Nat.le_of_ble_eq_true rfl) rfl (fun ls hl => ?_)
    obtain ⟨n, h⟩ := h
    refine zL_2   n 0 M H locs ls hW (lv_sub hl [1, 2, 3, 0] rfl) h
  exact zMain s.heap [] ls hW hl
def wpB_Model_next_8   (K34 : zMem → Prop) (Q : zMem → Prop) (J : zMem → Prop)  (M : zMem) : Prop :=
  wp_Model_byteAt (M 0 5) M (fun zr2 zm1 => (¬ zr2 = 32 → K34 zm1) ∧ (zr2 = 32 → ∀ zm3 : zMem, zm3 = zup zm1 0 5 ((zm1 0 5) + 1) → J zm3))
def wpB_Model_next_170   (K247 : zMem → Prop) (Q : zMem → Prop) (J : zMem → Prop)  (M : zMem) : Prop :=
  wp_Model_byteAt (M 0 5) M (fun zr18 zm17 => wp_Model_in zr18.toInt64 48 57 zm17 (fun zr20 zm19 => (zr20 = 0 → K247 zm19) ∧ (¬ zr20 = 0 → (2 ≤ ((zm19 0 5) - (zm19 0 6)) → ∀ zm21 : zMem, zm21 = zup zm19 0 8 (zm19 0 8) → ∀ zm22 : zMem, zm22 = zup zm21 0 5 ((zm21 0 5) + 1) → J zm22) ∧ (¬ 2 ≤ ((zm19 0 5) - (zm19 0 6)) → wp_Model_byteAt (zm19 0 5) zm19 (fun zr24 zm23 => ∀ zm25 : zMem, zm25 = zup zm23 0 8 (((10 * (zm19 0 8)) + zr24) - 48) → ∀ zm26 : zMem, zm26 = zup zm25 0 5 ((zm25 0 5) + 1) → J zm26)))))
def wpB_Model_next_84   (K118 : zMem → Prop) (Q : zMem → Prop) (J : zMem → Prop)  (M : zMem) : Prop :=
  wp_Model_byteAt (M 0 5) M (fun zr32 zm31 => wp_Model_in zr32.toInt64 97 122 zm31 (fun zr34 zm33 => (zr34 = 0 → K118 zm33) ∧ (¬ zr34 = 0 → ∀ zm35 : zMem, zm35 = zup zm33 0 5 ((zm33 0 5) + 1) → J zm35)))
def wp_Model_next  (M : zMem) (Q : zMem → Prop) : Prop :=
  ((M 0 3) ≤ 0 → ∃ n : Nat, zlp0 (wpB_Model_next_8   (fun (zm4 : zMem) => ∀ zm5 : zMem, zm5 = zup zm4 0 6 (zm4 0 5) → wp_Model_byteAt (zm5 0 5) zm5 (fun zr7 zm6 => ∀ zm8 : zMem, zm8 = zup zm6 0 8 0 → (¬ zr7 = (-4) → wp_Model_in zr7.toInt64 97 122 zm8 (fun zr10 zm9 => (zr10 = 0 → wp_Model_in zr7.toInt64 48 57 zm9 (fun zr12 zm11 => (zr12 = 0 → ∀ zm13 : zMem, zm13 = zup zm11 0 7 3 → ∀ zm14 : zMem, zm14 = zup zm13 0 5 ((zm13 0 5) + 1) → (zr7 = 59 → Q zm14) ∧ (¬ zr7 = 59 → wp_Model_fails 1 zm14 (fun zm15 => Q zm15))) ∧ (¬ zr12 = 0 → ∃ n : Nat, zlp0 (wpB_Model_next_170   (fun (zm27 : zMem) => ∀ zm28 : zMem, zm28 = zup zm27 0 7 2 → (((zm28 0 5) - (zm28 0 6)) ≤ 2 → Q zm28) ∧ (¬ ((zm28 0 5) - (zm28 0 6)) ≤ 2 → wp_Model_fails 1 zm28 (fun zm29 => Q zm29))) Q) n  zm11))) ∧ (¬ zr10 = 0 → ∃ n : Nat, zlp0 (wpB_Model_next_84   (fun (zm36 : zMem) => ∀ zm37 : zMem, zm37 = zup zm36 0 7 1 → wp_Model_nameAt (zm37 0 6) (zm37 0 5) zm37 (fun zr39 zm38 => ∀ zm40 : zMem, zm40 = zup zm38 0 8 zr39 → (¬ (zm40 0 8) = (-4) → Q zm40) ∧ ((zm40 0 8) = (-4) → wp_Model_fails 1 zm40 (fun zm41 => Q zm41)))) Q) n  zm9))) ∧ (zr7 = (-4) → ∀ zm43 : zMem, zm43 = zup zm8 0 7 0 → Q zm43))) Q) n  M) ∧ (¬ (M 0 3) ≤ 0 → Q M)
set_option maxHeartbeats 4000000 in
set_option maxRecDepth 20000 in
theorem c_Model_next {l : Launch} {w : zWd} {M : zMem} {post : zMem → Prop} (h0 : zI_Model w) (h : wp_Model_next  M post) : zMv l ⟨"HandToHandModel", "next", "()V"⟩ prog_13_method_9_code 2 none 2 46 w [.ref (zad w 0)] M post := by
  refine zMet (by decide) (Nat.le_of_ble_eq_true rfl) ?_
  intro p e s m below meth c X hr hlk hml hW ls hl
  have hx := X.1
  have hb := X.2.1
  have hl : lv_has ls 2 [(0, .ref (zad w 0))] := hl
  have zL_8 : ∀ (K34 : zMem → Prop) (zK34 : ∀ (M : zMem) (H : Heap) (locs : List Loc) (ls : Array Slot), zWo w s.heap M H locs → lv_has ls 2 [(0, .ref (zad w 0))] → K34 M → W p l e (zRm 2 46) s m ([.ref (zad w 0)] : List Value).toArray below meth c H locs 0 0 (MQ below (va_Qv post (zB w) (zA w)) ([.ref (zad w 0)] : List Value).toArray s 0 0 (zA w)) (F0 m 34 ls [])), ∀ (n : Nat) (M : zMem) (H : Heap) (locs : List Loc) (ls : Array Slot), zWo w s.heap M H locs → lv_has ls 2 [(0, .ref (zad w 0))] → zlp0 (wpB_Model_next_8   K34 post) n M → W p l e (zRm 2 46) s m ([.ref (zad w 0)] : List Value).toArray below meth c H locs 0 0 (MQ below (va_Qv post (zB w) (zA w)) ([.ref (zad w 0)] : List Value).toArray s 0 0 (zA w)) (F0 m 8 ls []) := by
    intro K34 zK34 n
    induction n with
    | zero => intro M H locs ls hW hl h; exact h.elim
    | succ n zJ =>
      intro M H locs ls hW hl h
      have h : wpB_Model_next_8   K34 post (zlp0 (wpB_Model_next_8   K34 post) n) M := h
      unfold wpB_Model_next_8 at h
      refine lv_aload_n hx hb dX11_next_8 rfl (lv_at hl 0 rfl) ?_
      refine lv_aload_n hx hb dX11_next_9 rfl (lv_at hl 0 rfl) ?_
      refine zg_Model_spot X hW h0 zu_1025 dX11_next_10 ?_
      refine zcalli (zrunV (As := [.int (M 0 5)]) (rest := []) X hml hl hW h0.1 rfl zk_Model_82 (c_Model_byteAt h0 h) rfl ⟨Nat.le_of_ble_eq_true rfl, Nat.le_of_ble_eq_true rfl⟩ ⟨Nat.le_refl 0, Nat.le_refl 0⟩ rfl (Nat.le_of_ble_eq_true rfl) dX11_next_13) hW (fun zr2 zm1 H locs h hW => ?_)
      refine lv_bipush hx hb dX11_next_16 zc_b32 ?_
      refine lv_icmp_ne (tgt := 34) hx hb dX11_next_18 rfl (fun c => ?_) (fun c => ?_)
      · replace h := h.1 c
        exact zK34 zm1 H locs ls hW (lv_sub hl [0] rfl) h
      · replace h := h.2 c
        refine lv_aload_n hx hb dX11_next_21 rfl (lv_at hl 0 rfl) ?_
        refine lv_dup hx hb dX11_next_22 rfl ?_
        refine zg_Model_spot X hW h0 zu_1025 dX11_next_23 ?_
        refine lv_iconst hx hb dX11_next_26 zc_i1 ?_
        refine lv_iadd hx hb dX11_next_27 ?_
        refine zp_Model_spot X hW h0 zu_1025 dX11_next_28 (fun H locs zm3 ezm3 hW => ?_)
        replace h := h zm3 ezm3
        refine lv_goto (tgt := 8) hx hb dX11_next_31 rfl ?_
        exact zJ zm3 H locs ls hW (lv_sub hl [0] rfl) h
  have zL_170 : ∀ (K247 : zMem → Prop) (zK247 : ∀ (M : zMem) (H : Heap) (locs : List Loc) (ls : Array Slot), zWo w s.heap M H locs → lv_has ls 2 [(0, .ref (zad w 0))] → K247 M → W p l e (zRm 2 46) s m ([.ref (zad w 0)] : List Value).toArray below meth c H locs 0 0 (MQ below (va_Qv post (zB w) (zA w)) ([.ref (zad w 0)] : List Value).toArray s 0 0 (zA w)) (F0 m 247 ls [])), ∀ (n : Nat) (M : zMem) (H : Heap) (locs : List Loc) (ls : Array Slot), zWo w s.heap M H locs → lv_has ls 2 [(0, .ref (zad w 0))] → zlp0 (wpB_Model_next_170   K247 post) n M → W p l e (zRm 2 46) s m ([.ref (zad w 0)] : List Value).toArray below meth c H locs 0 0 (MQ below (va_Qv post (zB w) (zA w)) ([.ref (zad w 0)] : List Value).toArray s 0 0 (zA w)) (F0 m 170 ls []) := by
    intro K247 zK247 n
    induction n with
    | zero => intro M H locs ls hW hl h; exact h.elim
    | succ n zJ =>
      intro M H locs ls hW hl h
      have h : wpB_Model_next_170   K247 post (zlp0 (wpB_Model_next_170   K247 post) n) M := h
      unfold wpB_Model_next_170 at h
      refine lv_aload_n hx hb dX11_next_170 rfl (lv_at hl 0 rfl) ?_
      refine lv_aload_n hx hb dX11_next_171 rfl (lv_at hl 0 rfl) ?_
      refine zg_Model_spot X hW h0 zu_1025 dX11_next_172 ?_
      refine zcalli (zrunV (As := [.int (M 0 5)]) (rest := []) X hml hl hW h0.1 rfl zk_Model_82 (c_Model_byteAt h0 h) rfl ⟨Nat.le_of_ble_eq_true rfl, Nat.le_of_ble_eq_true rfl⟩ ⟨Nat.le_refl 0, Nat.le_refl 0⟩ rfl (Nat.le_of_ble_eq_true rfl) dX11_next_175) hW (fun zr18 zm17 H locs h hW => ?_)
      refine lv_i2l hx hb dX11_next_178 rfl ?_
      refine lv_ldc2 hx hb X.2.2.1 (X.2.2.2.1 _ zu_1174) dX11_next_179 ?_
      refine lv_ldc2 hx hb X.2.2.1 (X.2.2.2.1 _ zu_1175) dX11_next_182 ?_
      refine zcalli (zrunS (As := [.long zr18.toInt64, .long 48, .long 57]) (rest := []) X hml hl hW zk_Model_69 (c_Model_in  h) rfl ⟨Nat.le_of_ble_eq_true rfl, Nat.le_of_ble_eq_true rfl⟩ ⟨Nat.le_refl 0, Nat.le_refl 0⟩ rfl (Nat.le_of_ble_eq_true rfl) dX11_next_185) hW (fun zr20 zm19 H locs h hW => ?_)
      refine lv_if_eq (tgt := 247) hx hb dX11_next_188 rfl (fun c => ?_) (fun c => ?_)
      · replace h := h.1 c
        exact zK247 zm19 H locs ls hW (lv_sub hl [0] rfl) h
      · replace h := h.2 c
        refine lv_aload_n hx hb dX11_next_191 rfl (lv_at hl 0 rfl) ?_
        refine lv_aload_n hx hb dX11_next_192 rfl (lv_at hl 0 rfl) ?_
        refine zg_Model_spot X hW h0 zu_1025 dX11_next_193 ?_
        refine lv_aload_n hx hb dX11_next_196 rfl (lv_at hl 0 rfl) ?_
        refine zg_Model_place X hW h0 zu_1026 dX11_next_197 ?_
        refine lv_isub hx hb dX11_next_200 ?_
        refine lv_iconst hx hb dX11_next_201 zc_i2 ?_
        refine lv_icmp_ge (tgt := 227) hx hb dX11_next_202 rfl (fun c => ?_) (fun c => ?_)
        · replace h := h.1 c
          refine lv_aload_n hx hb dX11_next_227 rfl (lv_at hl 0 rfl) ?_
          refine zg_Model_value X hW h0 zu_1028 dX11_next_228 ?_
          refine zp_Model_value X hW h0 zu_1028 dX11_next_231 (fun H locs zm21 ezm21 hW => ?_)
          replace h := h zm21 ezm21
          refine lv_aload_n hx hb dX11_next_234 rfl (lv_at hl 0 rfl) ?_
          refine lv_dup hx hb dX11_next_235 rfl ?_
          refine zg_Model_spot X hW h0 zu_1025 dX11_next_236 ?_
          refine lv_iconst hx hb dX11_next_239 zc_i1 ?_
          refine lv_iadd hx hb dX11_next_240 ?_
          refine zp_Model_spot X hW h0 zu_1025 dX11_next_241 (fun H locs zm22 ezm22 hW => ?_)
          replace h := h zm22 ezm22
          refine lv_goto (tgt := 170) hx hb dX11_next_244 rfl ?_
          exact zJ zm22 H locs ls hW (lv_sub hl [0] rfl) h
        · replace h := h.2 c
          refine lv_bipush hx hb dX11_next_205 zc_b10 ?_
          refine lv_aload_n hx hb dX11_next_207 rfl (lv_at hl 0 rfl) ?_
          refine zg_Model_value X hW h0 zu_1028 dX11_next_208 ?_
          refine lv_imul hx hb dX11_next_211 ?_
          refine lv_aload_n hx hb dX11_next_212 rfl (lv_at hl 0 rfl) ?_
          refine lv_aload_n hx hb dX11_next_213 rfl (lv_at hl 0 rfl) ?_
          refine zg_Model_spot X hW h0 zu_1025 dX11_next_214 ?_
          refine zcalli (zrunV (As := [.int (zm19 0 5)]) (rest := [.int (10 * (zm19 0 8)), .ref (zad w 0)]) X hml hl hW h0.1 rfl zk_Model_82 (c_Model_byteAt h0 h) rfl ⟨Nat.le_of_ble_eq_true rfl, Nat.le_of_ble_eq_true rfl⟩ ⟨Nat.le_refl 0, Nat.le_refl 0⟩ rfl (Nat.le_of_ble_eq_true rfl) dX11_next_217) hW (fun zr24 zm23 H locs h hW => ?_)
          refine lv_iadd hx hb dX11_next_220 ?_
          refine lv_bipush hx hb dX11_next_221 zc_b48 ?_
          refine lv_isub hx hb dX11_next_223 ?_
          refine lv_goto (tgt := 231) hx hb dX11_next_224 rfl ?_
          refine zp_Model_value X hW h0 zu_1028 dX11_next_231 (fun H locs zm25 ezm25 hW => ?_)
          replace h := h zm25 ezm25
          refine lv_aload_n hx hb dX11_next_234 rfl (lv_at hl 0 rfl) ?_
          refine lv_dup hx hb dX11_next_235 rfl ?_
          refine zg_Model_spot X hW h0 zu_1025 dX11_next_236 ?_
          refine lv_iconst hx hb dX11_next_239 zc_i1 ?_
          refine lv_iadd hx hb dX11_next_240 ?_
          refine zp_Model_spot X hW h0 zu_1025 dX11_next_241 (fun H locs zm26 ezm26 hW => ?_)
          replace h := h zm26 ezm26
          refine lv_goto (tgt := 170) hx hb dX11_next_244 rfl ?_
          exact zJ zm26 H locs ls hW (lv_sub hl [0] rfl) h
  have zL_84 : ∀ (K118 : zMem → Prop) (zK118 : ∀ (M : zMem) (H : Heap) (locs : List Loc) (ls : Array Slot), zWo w s.heap M H locs → lv_has ls 2 [(0, .ref (zad w 0))] → K118 M → W p l e (zRm 2 46) s m ([.ref (zad w 0)] : List Value).toArray below meth c H locs 0 0 (MQ below (va_Qv post (zB w) (zA w)) ([.ref (zad w 0)] : List Value).toArray s 0 0 (zA w)) (F0 m 118 ls [])), ∀ (n : Nat) (M : zMem) (H : Heap) (locs : List Loc) (ls : Array Slot), zWo w s.heap M H locs → lv_has ls 2 [(0, .ref (zad w 0))] → zlp0 (wpB_Model_next_84   K118 post) n M → W p l e (zRm 2 46) s m ([.ref (zad w 0)] : List Value).toArray below meth c H locs 0 0 (MQ below (va_Qv post (zB w) (zA w)) ([.ref (zad w 0)] : List Value).toArray s 0 0 (zA w)) (F0 m 84 ls []) := by
    intro K118 zK118 n
    induction n with
    | zero => intro M H locs ls hW hl h; exact h.elim
    | succ n zJ =>
      intro M H locs ls hW hl h
      have h : wpB_Model_next_84   K118 post (zlp0 (wpB_Model_next_84   K118 post) n) M := h
      unfold wpB_Model_next_84 at h
      refine lv_aload_n hx hb dX11_next_84 rfl (lv_at hl 0 rfl) ?_
      refine lv_aload_n hx hb dX11_next_85 rfl (lv_at hl 0 rfl) ?_
      refine zg_Model_spot X hW h0 zu_1025 dX11_next_86 ?_
      refine zcalli (zrunV (As := [.int (M 0 5)]) (rest := []) X hml hl hW h0.1 rfl zk_Model_82 (c_Model_byteAt h0 h) rfl ⟨Nat.le_of_ble_eq_true rfl, Nat.le_of_ble_eq_true rfl⟩ ⟨Nat.le_refl 0, Nat.le_refl 0⟩ rfl (Nat.le_of_ble_eq_true rfl) dX11_next_89) hW (fun zr32 zm31 H locs h hW => ?_)
      refine lv_i2l hx hb dX11_next_92 rfl ?_
      refine lv_ldc2 hx hb X.2.2.1 (X.2.2.2.1 _ zu_1164) dX11_next_93 ?_
      refine lv_ldc2 hx hb X.2.2.1 (X.2.2.2.1 _ zu_1165) dX11_next_96 ?_
      refine zcalli (zrunS (As := [.long zr32.toInt64, .long 97, .long 122]) (rest := []) X hml hl hW zk_Model_69 (c_Model_in  h) rfl ⟨Nat.le_of_ble_eq_true rfl, Nat.le_of_ble_eq_true rfl⟩ ⟨Nat.le_refl 0, Nat.le_refl 0⟩ rfl (Nat.le_of_ble_eq_true rfl) dX11_next_99) hW (fun zr34 zm33 H locs h hW => ?_)
      refine lv_if_eq (tgt := 118) hx hb dX11_next_102 rfl (fun c => ?_) (fun c => ?_)
      · replace h := h.1 c
        exact zK118 zm33 H locs ls hW (lv_sub hl [0] rfl) h
      · replace h := h.2 c
        refine lv_aload_n hx hb dX11_next_105 rfl (lv_at hl 0 rfl) ?_
        refine lv_dup hx hb dX11_next_106 rfl ?_
        refine zg_Model_spot X hW h0 zu_1025 dX11_next_107 ?_
        refine lv_iconst hx hb dX11_next_110 zc_i1 ?_
        refine lv_iadd hx hb dX11_next_111 ?_
        refine zp_Model_spot X hW h0 zu_1025 dX11_next_112 (fun H locs zm35 ezm35 hW => ?_)
        replace h := h zm35 ezm35
        refine lv_goto (tgt := 84) hx hb dX11_next_115 rfl ?_
        exact zJ zm35 H locs ls hW (lv_sub hl [0] rfl) h
  unfold wp_Model_next at h
  have zMain : ∀ (H : Heap) (locs : List Loc) (ls : Array Slot), zWo w s.heap M H locs → lv_has ls 2 [(0, .ref (zad w 0))] → W p l e (zRm 2 46) s m ([.ref (zad w 0)] : List Value).toArray below meth c H locs 0 0 (MQ below (va_Qv post (zB w) (zA w)) ([.ref (zad w 0)] : List Value).toArray s 0 0 (zA w)) (F0 m 0 ls []) := by
    intro H locs ls hW hl
    refine lv_aload_n hx hb dX11_next_0 rfl (lv_at hl 0 rfl) ?_
    refine zg_Model_wrong X hW h0 zu_1023 dX11_next_1 ?_
    refine lv_if_le (tgt := 8) hx hb dX11_next_4 rfl (fun c => ?_) (fun c => ?_)
    · replace h := h.1 c
      obtain ⟨n, h⟩ := h
      refine zL_8  _ (fun  zm4 H locs ls hW hl h => ?_) n  M H locs ls hW (lv_sub hl [0] rfl) h
      · skip
        refine lv_aload_n hx hb dX11_next_34 rfl (lv_at hl 0 rfl) ?_
        refine lv_aload_n hx hb dX11_next_35 rfl (lv_at hl 0 rfl) ?_
        refine zg_Model_spot X hW h0 zu_1025 dX11_next_36 ?_
        refine zp_Model_place X hW h0 zu_1026 dX11_next_39 (fun H locs zm5 ezm5 hW => ?_)
        replace h := h zm5 ezm5
        refine lv_aload_n hx hb dX11_next_42 rfl (lv_at hl 0 rfl) ?_
        refine lv_aload_n hx hb dX11_next_43 rfl (lv_at hl 0 rfl) ?_
        refine zg_Model_spot X hW h0 zu_1025 dX11_next_44 ?_
        refine zcalli (zrunV (As := [.int (zm5 0 5)]) (rest := []) X hml hl hW h0.1 rfl zk_Model_82 (c_Model_byteAt h0 h) rfl ⟨Nat.le_of_ble_eq_true rfl, Nat.le_of_ble_eq_true rfl⟩ ⟨Nat.le_refl 0, Nat.le_refl 0⟩ rfl (Nat.le_of_ble_eq_true rfl) dX11_next_47) hW (fun zr7 zm6 H locs h hW => ?_)
        refine lv_istore_n (lv' := [(1, .int zr7), (0, .ref (zad w 0))]) hx hb dX11_next_50 rfl hl (Nat.le_of_ble_eq_true rfl) rfl (fun ls hl => ?_)
        refine lv_aload_n hx hb dX11_next_51 rfl (lv_at hl 1 rfl) ?_
        refine lv_iconst hx hb dX11_next_52 zc_i0 ?_
        refine zp_Model_value X hW h0 zu_1028 dX11_next_53 (fun H locs zm8 ezm8 hW => ?_)
        replace h := h zm8 ezm8
        refine lv_iload_n hx hb dX11_next_56 rfl (lv_at hl 0 rfl) ?_
        refine lv_bipush hx hb dX11_next_57 zc_bm4 ?_
        refine lv_icmp_ne (tgt := 70) hx hb dX11_next_59 rfl (fun c => ?_) (fun c => ?_)
        · replace h := h.1 c
          refine lv_iload_n hx hb dX11_next_70 rfl (lv_at hl 0 rfl) ?_
          refine lv_i2l hx hb dX11_next_71 rfl ?_
          refine lv_ldc2 hx hb X.2.2.1 (X.2.2.2.1 _ zu_1164) dX11_next_72 ?_
          refine lv_ldc2 hx hb X.2.2.1 (X.2.2.2.1 _ zu_1165) dX11_next_75 ?_
          refine zcalli (zrunS (As := [.long zr7.toInt64, .long 97, .long 122]) (rest := []) X hml hl hW zk_Model_69 (c_Model_in  h) rfl ⟨Nat.le_of_ble_eq_true rfl, Nat.le_of_ble_eq_true rfl⟩ ⟨Nat.le_refl 0, Nat.le_refl 0⟩ rfl (Nat.le_of_ble_eq_true rfl) dX11_next_78) hW (fun zr10 zm9 H locs h hW => ?_)
          refine lv_if_eq (tgt := 156) hx hb dX11_next_81 rfl (fun c => ?_) (fun c => ?_)
          · replace h := h.1 c
            refine lv_iload_n hx hb dX11_next_156 rfl (lv_at hl 0 rfl) ?_
            refine lv_i2l hx hb dX11_next_157 rfl ?_
            refine lv_ldc2 hx hb X.2.2.1 (X.2.2.2.1 _ zu_1174) dX11_next_158 ?_
            refine lv_ldc2 hx hb X.2.2.1 (X.2.2.2.1 _ zu_1175) dX11_next_161 ?_
            refine zcalli (zrunS (As := [.long zr7.toInt64, .long 48, .long 57]) (rest := []) X hml hl hW zk_Model_69 (c_Model_in  h) rfl ⟨Nat.le_of_ble_eq_true rfl, Nat.le_of_ble_eq_true rfl⟩ ⟨Nat.le_refl 0, Nat.le_refl 0⟩ rfl (Nat.le_of_ble_eq_true rfl) dX11_next_164) hW (fun zr12 zm11 H locs h hW => ?_)
            refine lv_if_eq (tgt := 273) hx hb dX11_next_167 rfl (fun c => ?_) (fun c => ?_)
            · replace h := h.1 c
              refine lv_aload_n hx hb dX11_next_273 rfl (lv_at hl 1 rfl) ?_
              refine lv_iconst hx hb dX11_next_274 zc_i3 ?_
              refine zp_Model_token X hW h0 zu_1027 dX11_next_275 (fun H locs zm13 ezm13 hW => ?_)
              replace h := h zm13 ezm13
              refine lv_aload_n hx hb dX11_next_278 rfl (lv_at hl 1 rfl) ?_
              refine lv_dup hx hb dX11_next_279 rfl ?_
              refine zg_Model_spot X hW h0 zu_1025 dX11_next_280 ?_
              refine lv_iconst hx hb dX11_next_283 zc_i1 ?_
              refine lv_iadd hx hb dX11_next_284 ?_
              refine zp_Model_spot X hW h0 zu_1025 dX11_next_285 (fun H locs zm14 ezm14 hW => ?_)
              replace h := h zm14 ezm14
              refine lv_iload_n hx hb dX11_next_288 rfl (lv_at hl 0 rfl) ?_
              refine lv_bipush hx hb dX11_next_289 zc_b59 ?_
              refine lv_icmp_eq (tgt := 299) hx hb dX11_next_291 rfl (fun c => ?_) (fun c => ?_)
              · replace h := h.1 c
                exact zretv X hr hlk hW h dX11_next_299
              · replace h := h.2 c
                refine lv_aload_n hx hb dX11_next_294 rfl (lv_at hl 1 rfl) ?_
                refine lv_iconst hx hb dX11_next_295 zc_i1 ?_
                refine zcallv (zrunV (As := [.int 1]) (rest := []) X hml hl hW h0.1 rfl zk_Model_103 (c_Model_fails h0 h) rfl ⟨Nat.le_of_ble_eq_true rfl, Nat.le_of_ble_eq_true rfl⟩ ⟨Nat.le_refl 0, Nat.le_refl 0⟩ rfl (Nat.le_of_ble_eq_true rfl) dX11_next_296) hW (fun zm15 H locs h hW => ?_)
                exact zretv X hr hlk hW h dX11_next_299
            · replace h := h.2 c
              obtain ⟨n, h⟩ := h
              refine zL_170  _ (fun  zm27 H locs ls hW hl h => ?_) n  zm11 H locs ls hW (lv_sub hl [1] rfl) h
              · skip
                refine lv_aload_n hx hb dX11_next_247 rfl (lv_at hl 0 rfl) ?_
                refine lv_iconst hx hb dX11_next_248 zc_i2 ?_
                refine zp_Model_token X hW h0 zu_1027 dX11_next_249 (fun H locs zm28 ezm28 hW => ?_)
                replace h := h zm28 ezm28
                refine lv_aload_n hx hb dX11_next_252 rfl (lv_at hl 0 rfl) ?_
                refine zg_Model_spot X hW h0 zu_1025 dX11_next_253 ?_
                refine lv_aload_n hx hb dX11_next_256 rfl (lv_at hl 0 rfl) ?_
                refine zg_Model_place X hW h0 zu_1026 dX11_next_257 ?_
                refine lv_isub hx hb dX11_next_260 ?_
                refine lv_iconst hx hb dX11_next_261 zc_i2 ?_
                refine lv_icmp_le (tgt := 299) hx hb dX11_next_262 rfl (fun c => ?_) (fun c => ?_)
                · replace h := h.1 c
                  exact zretv X hr hlk hW h dX11_next_299
                · replace h := h.2 c
                  refine lv_aload_n hx hb dX11_next_265 rfl (lv_at hl 0 rfl) ?_
                  refine lv_iconst hx hb dX11_next_266 zc_i1 ?_
                  refine zcallv (zrunV (As := [.int 1]) (rest := []) X hml hl hW h0.1 rfl zk_Model_103 (c_Model_fails h0 h) rfl ⟨Nat.le_of_ble_eq_true rfl, Nat.le_of_ble_eq_true rfl⟩ ⟨Nat.le_refl 0, Nat.le_refl 0⟩ rfl (Nat.le_of_ble_eq_true rfl) dX11_next_267) hW (fun zm29 H locs h hW => ?_)
                  refine lv_goto (tgt := 299) hx hb dX11_next_270 rfl ?_
                  exact zretv X hr hlk hW h dX11_next_299
          · replace h := h.2 c
            obtain ⟨n, h⟩ := h
            refine zL_84  _ (fun  zm36 H locs ls hW hl h => ?_) n  zm9 H locs ls hW (lv_sub hl [1] rfl) h
            · skip
              refine lv_aload_n hx hb dX11_next_118 rfl (lv_at hl 0 rfl) ?_
              refine lv_iconst hx hb dX11_next_119 zc_i1 ?_
              refine zp_Model_token X hW h0 zu_1027 dX11_next_120 (fun H locs zm37 ezm37 hW => ?_)
              replace h := h zm37 ezm37
              refine lv_aload_n hx hb dX11_next_123 rfl (lv_at hl 0 rfl) ?_
              refine lv_aload_n hx hb dX11_next_124 rfl (lv_at hl 0 rfl) ?_
              refine lv_aload_n hx hb dX11_next_125 rfl (lv_at hl 0 rfl) ?_
              refine zg_Model_place X hW h0 zu_1026 dX11_next_126 ?_
              refine lv_aload_n hx hb dX11_next_129 rfl (lv_at hl 0 rfl) ?_
              refine zg_Model_spot X hW h0 zu_1025 dX11_next_130 ?_
              refine zcalli (zrunV (As := [.int (zm37 0 6), .int (zm37 0 5)]) (rest := [.ref (zad w 0)]) X hml hl hW h0.1 rfl zk_Model_99 (c_Model_nameAt h0 h) rfl ⟨Nat.le_of_ble_eq_true rfl, Nat.le_of_ble_eq_true rfl⟩ ⟨Nat.le_refl 0, Nat.le_refl 0⟩ rfl (Nat.le_of_ble_eq_true rfl) dX11_next_133) hW (fun zr39 zm38 H locs h hW => ?_)
              refine zp_Model_value X hW h0 zu_1028 dX11_next_136 (fun H locs zm40 ezm40 hW => ?_)
              replace h := h zm40 ezm40
              refine lv_aload_n hx hb dX11_next_139 rfl (lv_at hl 0 rfl) ?_
              refine zg_Model_value X hW h0 zu_1028 dX11_next_140 ?_
              refine lv_bipush hx hb dX11_next_143 zc_bm4 ?_
              refine lv_icmp_ne (tgt := 299) hx hb dX11_next_145 rfl (fun c => ?_) (fun c => ?_)
              · replace h := h.1 c
                exact zretv X hr hlk hW h dX11_next_299
              · replace h := h.2 c
                refine lv_aload_n hx hb dX11_next_148 rfl (lv_at hl 0 rfl) ?_
                refine lv_iconst hx hb dX11_next_149 zc_i1 ?_
                refine zcallv (zrunV (As := [.int 1]) (rest := []) X hml hl hW h0.1 rfl zk_Model_103 (c_Model_fails h0 h) rfl ⟨Nat.le_of_ble_eq_true rfl, Nat.le_of_ble_eq_true rfl⟩ ⟨Nat.le_refl 0, Nat.le_refl 0⟩ rfl (Nat.le_of_ble_eq_true rfl) dX11_next_150) hW (fun zm41 H locs h hW => ?_)
                refine lv_goto (tgt := 299) hx hb dX11_next_153 rfl ?_
                exact zretv X hr hlk hW h dX11_next_299
        · replace h := h.2 c
          refine lv_aload_n hx hb dX11_next_62 rfl (lv_at hl 1 rfl) ?_
          refine lv_iconst hx hb dX11_next_63 zc_i0 ?_
          refine zp_Model_token X hW h0 zu_1027 dX11_next_64 (fun H locs zm43 ezm43 hW => ?_)
          replace h := h zm43 ezm43
          refine lv_goto (tgt := 299) hx hb dX11_next_67 rfl ?_
          exact zretv X hr hlk hW h dX11_next_299
    · replace h := h.2 c
      exact zretv X hr hlk hW h dX11_next_7
  exact zMain s.heap [] ls hW hl
def wpJ_Model_number_20 (a1 : Int32) (a2 : Int32)  (Q : Int32 → zMem → Prop)   (M : zMem) : Prop :=
  (¬ (M 0 3) = 0 → (¬ (M 0 3) = 0 → Q a1 M) ∧ ((M 0 3) = 0 → Q (M 0 8) M)) ∧ ((M 0 3) = 0 → wp_Model_in ((M 0 8).toInt64) a1.toInt64 a2.toInt64 M (fun zr2 zm1 => (¬ zr2 = 0 → (¬ (zm1 0 3) = 0 → Q a1 zm1) ∧ ((zm1 0 3) = 0 → Q (zm1 0 8) zm1)) ∧ (zr2 = 0 → wp_Model_fails 3 zm1 (fun zm3 => (¬ (zm3 0 3) = 0 → Q a1 zm3) ∧ ((zm3 0 3) = 0 → Q (zm3 0 8) zm3)))))
def wp_Model_number (a1 : Int32) (a2 : Int32) (M : zMem) (Q : Int32 → zMem → Prop) : Prop :=
  (¬ (M 0 3) = 0 → wpJ_Model_number_20 a1 a2 Q M) ∧ ((M 0 3) = 0 → ((M 0 7) = 2 → wpJ_Model_number_20 a1 a2 Q M) ∧ (¬ (M 0 7) = 2 → wp_Model_fails 2 M (fun zm5 => wpJ_Model_number_20 a1 a2 Q zm5)))
set_option maxHeartbeats 4000000 in
set_option maxRecDepth 20000 in
theorem c_Model_number {l : Launch} {w : zWd} {a1 : Int32} {a2 : Int32} {M : zMem} {post : Int32 → zMem → Prop} (h0 : zI_Model w) (h : wp_Model_number a1 a2 M post) : zMi l ⟨"HandToHandModel", "number", "(II)I"⟩ prog_13_method_10_code 3 (Option.some .int) 1 25 w [.ref (zad w 0), .int a1, .int a2] M post := by
  refine zMet (by decide) (Nat.le_of_ble_eq_true rfl) ?_
  intro p e s m below meth c X hr hlk hml hW ls hl
  have hx := X.1
  have hb := X.2.1
  have hl : lv_has ls 3 [(0, .ref (zad w 0)), (1, .int a1), (2, .int a2)] := hl
  have zJ_20 : ∀ (M : zMem) (H : Heap) (locs : List Loc) (ls : Array Slot), zWo w s.heap M H locs → lv_has ls 3 [(0, .ref (zad w 0)), (1, .int a1), (2, .int a2)] → wpJ_Model_number_20 a1 a2 post M → W p l e (zRm 1 25) s m ([.ref (zad w 0), .int a1, .int a2] : List Value).toArray below meth c H locs 0 0 (MQ below (va_Qi post (zB w) (zA w)) ([.ref (zad w 0), .int a1, .int a2] : List Value).toArray s 0 0 (zA w)) (F0 m 20 ls []) := by
    intro  M H locs ls hW hl h
    unfold wpJ_Model_number_20 at h
    refine lv_aload_n hx hb dX11_number_20 rfl (lv_at hl 0 rfl) ?_
    refine zg_Model_wrong X hW h0 zu_1023 dX11_number_21 ?_
    refine lv_if_ne (tgt := 47) hx hb dX11_number_24 rfl (fun c => ?_) (fun c => ?_)
    · replace h := h.1 c
      refine lv_aload_n hx hb dX11_number_47 rfl (lv_at hl 0 rfl) ?_
      refine zg_Model_wrong X hW h0 zu_1023 dX11_number_48 ?_
      refine lv_if_ne (tgt := 61) hx hb dX11_number_51 rfl (fun c => ?_) (fun c => ?_)
      · replace h := h.1 c
        refine lv_iload_n hx hb dX11_number_61 rfl (lv_at hl 1 rfl) ?_
        exact zreti X hr hlk hW h dX11_number_62
      · replace h := h.2 c
        refine lv_aload_n hx hb dX11_number_54 rfl (lv_at hl 0 rfl) ?_
        refine zg_Model_value X hW h0 zu_1028 dX11_number_55 ?_
        refine lv_goto (tgt := 62) hx hb dX11_number_58 rfl ?_
        exact zreti X hr hlk hW h dX11_number_62
    · replace h := h.2 c
      refine lv_aload_n hx hb dX11_number_27 rfl (lv_at hl 0 rfl) ?_
      refine zg_Model_value X hW h0 zu_1028 dX11_number_28 ?_
      refine lv_i2l hx hb dX11_number_31 rfl ?_
      refine lv_iload_n hx hb dX11_number_32 rfl (lv_at hl 1 rfl) ?_
      refine lv_i2l hx hb dX11_number_33 rfl ?_
      refine lv_iload_n hx hb dX11_number_34 rfl (lv_at hl 2 rfl) ?_
      refine lv_i2l hx hb dX11_number_35 rfl ?_
      refine zcalli (zrunS (As := [.long ((M 0 8).toInt64), .long a1.toInt64, .long a2.toInt64]) (rest := []) X hml hl hW zk_Model_69 (c_Model_in  h) rfl ⟨Nat.le_of_ble_eq_true rfl, Nat.le_of_ble_eq_true rfl⟩ ⟨Nat.le_refl 0, Nat.le_refl 0⟩ rfl (Nat.le_of_ble_eq_true rfl) dX11_number_36) hW (fun zr2 zm1 H locs h hW => ?_)
      refine lv_if_ne (tgt := 47) hx hb dX11_number_39 rfl (fun c => ?_) (fun c => ?_)
      · replace h := h.1 c
        refine lv_aload_n hx hb dX11_number_47 rfl (lv_at hl 0 rfl) ?_
        refine zg_Model_wrong X hW h0 zu_1023 dX11_number_48 ?_
        refine lv_if_ne (tgt := 61) hx hb dX11_number_51 rfl (fun c => ?_) (fun c => ?_)
        · replace h := h.1 c
          refine lv_iload_n hx hb dX11_number_61 rfl (lv_at hl 1 rfl) ?_
          exact zreti X hr hlk hW h dX11_number_62
        · replace h := h.2 c
          refine lv_aload_n hx hb dX11_number_54 rfl (lv_at hl 0 rfl) ?_
          refine zg_Model_value X hW h0 zu_1028 dX11_number_55 ?_
          refine lv_goto (tgt := 62) hx hb dX11_number_58 rfl ?_
          exact zreti X hr hlk hW h dX11_number_62
      · replace h := h.2 c
        refine lv_aload_n hx hb dX11_number_42 rfl (lv_at hl 0 rfl) ?_
        refine lv_iconst hx hb dX11_number_43 zc_i3 ?_
        refine zcallv (zrunV (As := [.int 3]) (rest := []) X hml hl hW h0.1 rfl zk_Model_103 (c_Model_fails h0 h) rfl ⟨Nat.le_of_ble_eq_true rfl, Nat.le_of_ble_eq_true rfl⟩ ⟨Nat.le_refl 0, Nat.le_refl 0⟩ rfl (Nat.le_of_ble_eq_true rfl) dX11_number_44) hW (fun zm3 H locs h hW => ?_)
        refine lv_aload_n hx hb dX11_number_47 rfl (lv_at hl 0 rfl) ?_
        refine zg_Model_wrong X hW h0 zu_1023 dX11_number_48 ?_
        refine lv_if_ne (tgt := 61) hx hb dX11_number_51 rfl (fun c => ?_) (fun c => ?_)
        · replace h := h.1 c
          refine lv_iload_n hx hb dX11_number_61 rfl (lv_at hl 1 rfl) ?_
          exact zreti X hr hlk hW h dX11_number_62
        · replace h := h.2 c
          refine lv_aload_n hx hb dX11_number_54 rfl (lv_at hl 0 rfl) ?_
          refine zg_Model_value X hW h0 zu_1028 dX11_number_55 ?_
          refine lv_goto (tgt := 62) hx hb dX11_number_58 rfl ?_
          exact zreti X hr hlk hW h dX11_number_62
  unfold wp_Model_number at h
  have zMain : ∀ (H : Heap) (locs : List Loc) (ls : Array Slot), zWo w s.heap M H locs → lv_has ls 3 [(0, .ref (zad w 0)), (1, .int a1), (2, .int a2)] → W p l e (zRm 1 25) s m ([.ref (zad w 0), .int a1, .int a2] : List Value).toArray below meth c H locs 0 0 (MQ below (va_Qi post (zB w) (zA w)) ([.ref (zad w 0), .int a1, .int a2] : List Value).toArray s 0 0 (zA w)) (F0 m 0 ls []) := by
    intro H locs ls hW hl
    refine lv_aload_n hx hb dX11_number_0 rfl (lv_at hl 0 rfl) ?_
    refine zg_Model_wrong X hW h0 zu_1023 dX11_number_1 ?_
    refine lv_if_ne (tgt := 20) hx hb dX11_number_4 rfl (fun c => ?_) (fun c => ?_)
    · replace h := h.1 c
      exact zJ_20  M H locs ls hW (lv_sub hl [0, 1, 2] rfl) h
    · replace h := h.2 c
      refine lv_aload_n hx hb dX11_number_7 rfl (lv_at hl 0 rfl) ?_
      refine zg_Model_token X hW h0 zu_1027 dX11_number_8 ?_
      refine lv_iconst hx hb dX11_number_11 zc_i2 ?_
      refine lv_icmp_eq (tgt := 20) hx hb dX11_number_12 rfl (fun c => ?_) (fun c => ?_)
      · replace h := h.1 c
        exact zJ_20  M H locs ls hW (lv_sub hl [0, 1, 2] rfl) h
      · replace h := h.2 c
        refine lv_aload_n hx hb dX11_number_15 rfl (lv_at hl 0 rfl) ?_
        refine lv_iconst hx hb dX11_number_16 zc_i2 ?_
        refine zcallv (zrunV (As := [.int 2]) (rest := []) X hml hl hW h0.1 rfl zk_Model_103 (c_Model_fails h0 h) rfl ⟨Nat.le_of_ble_eq_true rfl, Nat.le_of_ble_eq_true rfl⟩ ⟨Nat.le_refl 0, Nat.le_refl 0⟩ rfl (Nat.le_of_ble_eq_true rfl) dX11_number_17) hW (fun zm5 H locs h hW => ?_)
        exact zJ_20  zm5 H locs ls hW (lv_sub hl [0, 1, 2] rfl) h
  exact zMain s.heap [] ls hW hl
def wpB_Model_numbers_3 (a1 : Int32) (a2 : Int32) (a3 : Int32) (a4 : Int32)   (Q : zMem → Prop) (J : Int32 → zMem → Prop) (x_5 : Int32) (M : zMem) : Prop :=
  (a2 ≤ x_5 → Q M) ∧ (¬ a2 ≤ x_5 → wp_Model_number a3 a4 M (fun zr2 zm1 => vp_in (a1 + x_5) 100 ∧ ∀ zm3 : zMem, zm3 = zup zm1 5 (ix (a1 + x_5)) zr2 → wp_Model_next zm3 (fun zm4 => ∀ zx6 : Int32, zx6 = x_5 + 1 → J zx6 zm4)))
def wp_Model_numbers (a1 : Int32) (a2 : Int32) (a3 : Int32) (a4 : Int32) (M : zMem) (Q : zMem → Prop) : Prop :=
  ∃ n : Nat, zlp1 (wpB_Model_numbers_3 a1 a2 a3 a4   Q) n 0 M
set_option maxHeartbeats 4000000 in
set_option maxRecDepth 20000 in
theorem c_Model_numbers {l : Launch} {w : zWd} {a1 : Int32} {a2 : Int32} {a3 : Int32} {a4 : Int32} {M : zMem} {post : zMem → Prop} (h0 : zI_Model w) (h : wp_Model_numbers a1 a2 a3 a4 M post) : zMv l ⟨"HandToHandModel", "numbers", "(IIII)V"⟩ prog_13_method_11_code 6 none 3 67 w [.ref (zad w 0), .int a1, .int a2, .int a3, .int a4] M post := by
  refine zMet (by decide) (Nat.le_of_ble_eq_true rfl) ?_
  intro p e s m below meth c X hr hlk hml hW ls hl
  have hx := X.1
  have hb := X.2.1
  have hl : lv_has ls 6 [(0, .ref (zad w 0)), (1, .int a1), (2, .int a2), (3, .int a3), (4, .int a4)] := hl
  have zL_3 :  ∀ (n : Nat) (x_5 : Int32) (M : zMem) (H : Heap) (locs : List Loc) (ls : Array Slot), zWo w s.heap M H locs → lv_has ls 6 [(0, .ref (zad w 0)), (1, .int a1), (2, .int a2), (3, .int a3), (4, .int a4), (5, .int x_5)] → zlp1 (wpB_Model_numbers_3 a1 a2 a3 a4   post) n x_5 M → W p l e (zRm 3 67) s m ([.ref (zad w 0), .int a1, .int a2, .int a3, .int a4] : List Value).toArray below meth c H locs 0 0 (MQ below (va_Qv post (zB w) (zA w)) ([.ref (zad w 0), .int a1, .int a2, .int a3, .int a4] : List Value).toArray s 0 0 (zA w)) (F0 m 3 ls []) := by
    intro n
    induction n with
    | zero => intro x_5 M H locs ls hW hl h; exact h.elim
    | succ n zJ =>
      intro x_5 M H locs ls hW hl h
      have h : wpB_Model_numbers_3 a1 a2 a3 a4   post (zlp1 (wpB_Model_numbers_3 a1 a2 a3 a4   post) n) x_5 M := h
      unfold wpB_Model_numbers_3 at h
      refine lv_iload hx hb dX11_numbers_3 (lv_at hl 5 rfl) ?_
      refine lv_iload_n hx hb dX11_numbers_5 rfl (lv_at hl 2 rfl) ?_
      refine lv_icmp_ge (tgt := 35) hx hb dX11_numbers_6 rfl (fun c => ?_) (fun c => ?_)
      · replace h := h.1 c
        exact zretv X hr hlk hW h dX11_numbers_35
      · replace h := h.2 c
        refine lv_aload_n hx hb dX11_numbers_9 rfl (lv_at hl 0 rfl) ?_
        refine zg_Model_reads X hW h0 zu_1032 dX11_numbers_10 ?_
        refine lv_iload_n hx hb dX11_numbers_13 rfl (lv_at hl 1 rfl) ?_
        refine lv_iload hx hb dX11_numbers_14 (lv_at hl 5 rfl) ?_
        refine lv_iadd hx hb dX11_numbers_16 ?_
        refine lv_aload_n hx hb dX11_numbers_17 rfl (lv_at hl 0 rfl) ?_
        refine lv_iload_n hx hb dX11_numbers_18 rfl (lv_at hl 3 rfl) ?_
        refine lv_iload hx hb dX11_numbers_19 (lv_at hl 4 rfl) ?_
        refine zcalli (zrunV (As := [.int a3, .int a4]) (rest := [.int (a1 + x_5), .ref (zad w 5)]) X hml hl hW h0.1 rfl zk_Model_111 (c_Model_number h0 h) rfl ⟨Nat.le_of_ble_eq_true rfl, Nat.le_of_ble_eq_true rfl⟩ ⟨Nat.le_refl 0, Nat.le_refl 0⟩ rfl (Nat.le_of_ble_eq_true rfl) dX11_numbers_21) hW (fun zr2 zm1 H locs h hW => ?_)
        obtain ⟨g, h⟩ := h
        refine ziast X hW h0.2.2.2.2.2.1 g dX11_numbers_24 (fun H locs zm3 ezm3 hW => ?_)
        replace h := h zm3 ezm3
        refine lv_aload_n hx hb dX11_numbers_25 rfl (lv_at hl 0 rfl) ?_
        refine zcallv (zrunV (As := []) (rest := []) X hml hl hW h0.1 rfl zk_Model_114 (c_Model_next h0 h) rfl ⟨Nat.le_of_ble_eq_true rfl, Nat.le_of_ble_eq_true rfl⟩ ⟨Nat.le_refl 0, Nat.le_refl 0⟩ rfl (Nat.le_of_ble_eq_true rfl) dX11_numbers_26) hW (fun zm4 H locs h hW => ?_)
        obtain ⟨zx6, ezx6⟩ : ∃ y : Int32, y = x_5 + 1 := ⟨_, rfl⟩
        replace h := h zx6 ezx6
        refine lv_iinc (v := zx6) (lv' := [(5, .int zx6), (0, .ref (zad w 0)), (1, .int a1), (2, .int a2), (3, .int a3), (4, .int a4)]) hx hb dX11_numbers_29 hl (k := 5) rfl (by rw [ezx6, zc_i1]) (Nat.le_of_ble_eq_true rfl) rfl (fun ls hl => ?_)
        refine lv_goto (tgt := 3) hx hb dX11_numbers_32 rfl ?_
        exact zJ zx6 zm4 H locs ls hW (lv_sub hl [1, 2, 3, 4, 5, 0] rfl) h
  unfold wp_Model_numbers at h
  have zMain : ∀ (H : Heap) (locs : List Loc) (ls : Array Slot), zWo w s.heap M H locs → lv_has ls 6 [(0, .ref (zad w 0)), (1, .int a1), (2, .int a2), (3, .int a3), (4, .int a4)] → W p l e (zRm 3 67) s m ([.ref (zad w 0), .int a1, .int a2, .int a3, .int a4] : List Value).toArray below meth c H locs 0 0 (MQ below (va_Qv post (zB w) (zA w)) ([.ref (zad w 0), .int a1, .int a2, .int a3, .int a4] : List Value).toArray s 0 0 (zA w)) (F0 m 0 ls []) := by
    intro H locs ls hW hl
    refine lv_iconst hx hb dX11_numbers_0 zc_i0 ?_
    refine lv_istore (lv' := [(5, .int 0), (0, .ref (zad w 0)), (1, .int a1), (2, .int a2), (3, .int a3), (4, .int a4)]) hx hb dX11_numbers_1 hl (Nat.le_of_ble_eq_true rfl) rfl (fun ls hl => ?_)
    obtain ⟨n, h⟩ := h
    refine zL_3   n 0 M H locs ls hW (lv_sub hl [1, 2, 3, 4, 5, 0] rfl) h
  exact zMain s.heap [] ls hW hl
def wpJ_Model_readPiece_39   (Q : zMem → Prop)   (M : zMem) : Prop :=
  wp_Model_next M (fun zm3 => wp_Model_number 0 6 zm3 (fun zr6 zm5 => (¬ (zm5 0 3) = 0 → wp_Model_next zm5 (fun zm7 => Q zm7)) ∧ ((zm5 0 3) = 0 → vp_in 0 100 ∧ vp_in (30 + (zm5 5 (ix 0))) 100 ∧ ∀ zm9 : zMem, zm9 = zup zm5 5 (ix (30 + (zm5 5 (ix 0)))) zr6 → vp_in 0 100 ∧ vp_in 0 100 ∧ ∀ zm10 : zMem, zm10 = zup zm9 5 (ix 0) ((zm9 5 (ix 0)) + 1) → wp_Model_next zm10 (fun zm11 => Q zm11))))
def wpJ_Model_readPiece_34   (Q : zMem → Prop)   (M : zMem) : Prop :=
  wp_Model_fails 5 M (fun zm1 => wpJ_Model_readPiece_39  Q zm1)
def wp_Model_readPiece  (M : zMem) (Q : zMem → Prop) : Prop :=
  vp_in 0 100 ∧ ((M 5 (ix 0)) = 8 → wpJ_Model_readPiece_34  Q M) ∧ (¬ (M 5 (ix 0)) = 8 → (¬ (M 0 14) = 0 → wpJ_Model_readPiece_34  Q M) ∧ ((M 0 14) = 0 → vp_in 1 100 ∧ (0 < (M 5 (ix 1)) → wpJ_Model_readPiece_34  Q M) ∧ (¬ 0 < (M 5 (ix 1)) → ((M 0 15) = 0 → wpJ_Model_readPiece_39  Q M) ∧ (¬ (M 0 15) = 0 → wpJ_Model_readPiece_34  Q M))))
set_option maxHeartbeats 4000000 in
set_option maxRecDepth 20000 in
theorem c_Model_readPiece {l : Launch} {w : zWd} {M : zMem} {post : zMem → Prop} (h0 : zI_Model w) (h : wp_Model_readPiece  M post) : zMv l ⟨"HandToHandModel", "readPiece", "()V"⟩ prog_13_method_12_code 2 none 3 67 w [.ref (zad w 0)] M post := by
  refine zMet (by decide) (Nat.le_of_ble_eq_true rfl) ?_
  intro p e s m below meth c X hr hlk hml hW ls hl
  have hx := X.1
  have hb := X.2.1
  have hl : lv_has ls 2 [(0, .ref (zad w 0))] := hl
  have zJ_39 : ∀ (M : zMem) (H : Heap) (locs : List Loc) (ls : Array Slot), zWo w s.heap M H locs → lv_has ls 2 [(0, .ref (zad w 0))] → wpJ_Model_readPiece_39  post M → W p l e (zRm 3 67) s m ([.ref (zad w 0)] : List Value).toArray below meth c H locs 0 0 (MQ below (va_Qv post (zB w) (zA w)) ([.ref (zad w 0)] : List Value).toArray s 0 0 (zA w)) (F0 m 39 ls []) := by
    intro  M H locs ls hW hl h
    unfold wpJ_Model_readPiece_39 at h
    refine lv_aload_n hx hb dX11_readPiece_39 rfl (lv_at hl 0 rfl) ?_
    refine zcallv (zrunV (As := []) (rest := []) X hml hl hW h0.1 rfl zk_Model_114 (c_Model_next h0 h) rfl ⟨Nat.le_of_ble_eq_true rfl, Nat.le_of_ble_eq_true rfl⟩ ⟨Nat.le_refl 0, Nat.le_refl 0⟩ rfl (Nat.le_of_ble_eq_true rfl) dX11_readPiece_40) hW (fun zm3 H locs h hW => ?_)
    refine lv_aload_n hx hb dX11_readPiece_43 rfl (lv_at hl 0 rfl) ?_
    refine lv_iconst hx hb dX11_readPiece_44 zc_i0 ?_
    refine lv_bipush hx hb dX11_readPiece_45 zc_b6 ?_
    refine zcalli (zrunV (As := [.int 0, .int 6]) (rest := []) X hml hl hW h0.1 rfl zk_Model_111 (c_Model_number h0 h) rfl ⟨Nat.le_of_ble_eq_true rfl, Nat.le_of_ble_eq_true rfl⟩ ⟨Nat.le_refl 0, Nat.le_refl 0⟩ rfl (Nat.le_of_ble_eq_true rfl) dX11_readPiece_47) hW (fun zr6 zm5 H locs h hW => ?_)
    refine lv_istore_n (lv' := [(1, .int zr6), (0, .ref (zad w 0))]) hx hb dX11_readPiece_50 rfl hl (Nat.le_of_ble_eq_true rfl) rfl (fun ls hl => ?_)
    refine lv_aload_n hx hb dX11_readPiece_51 rfl (lv_at hl 1 rfl) ?_
    refine zg_Model_wrong X hW h0 zu_1023 dX11_readPiece_52 ?_
    refine lv_if_ne (tgt := 83) hx hb dX11_readPiece_55 rfl (fun c => ?_) (fun c => ?_)
    · replace h := h.1 c
      refine lv_aload_n hx hb dX11_readPiece_83 rfl (lv_at hl 1 rfl) ?_
      refine zcallv (zrunV (As := []) (rest := []) X hml hl hW h0.1 rfl zk_Model_114 (c_Model_next h0 h) rfl ⟨Nat.le_of_ble_eq_true rfl, Nat.le_of_ble_eq_true rfl⟩ ⟨Nat.le_refl 0, Nat.le_refl 0⟩ rfl (Nat.le_of_ble_eq_true rfl) dX11_readPiece_84) hW (fun zm7 H locs h hW => ?_)
      exact zretv X hr hlk hW h dX11_readPiece_87
    · replace h := h.2 c
      refine lv_aload_n hx hb dX11_readPiece_58 rfl (lv_at hl 1 rfl) ?_
      refine zg_Model_reads X hW h0 zu_1032 dX11_readPiece_59 ?_
      refine lv_bipush hx hb dX11_readPiece_62 zc_b30 ?_
      refine lv_aload_n hx hb dX11_readPiece_64 rfl (lv_at hl 1 rfl) ?_
      refine zg_Model_reads X hW h0 zu_1032 dX11_readPiece_65 ?_
      refine lv_iconst hx hb dX11_readPiece_68 zc_i0 ?_
      obtain ⟨g, h⟩ := h
      refine ziald X hW h0.2.2.2.2.2.1 g dX11_readPiece_69 ?_
      refine lv_iadd hx hb dX11_readPiece_70 ?_
      refine lv_iload_n hx hb dX11_readPiece_71 rfl (lv_at hl 0 rfl) ?_
      obtain ⟨g, h⟩ := h
      refine ziast X hW h0.2.2.2.2.2.1 g dX11_readPiece_72 (fun H locs zm9 ezm9 hW => ?_)
      replace h := h zm9 ezm9
      refine lv_aload_n hx hb dX11_readPiece_73 rfl (lv_at hl 1 rfl) ?_
      refine zg_Model_reads X hW h0 zu_1032 dX11_readPiece_74 ?_
      refine lv_iconst hx hb dX11_readPiece_77 zc_i0 ?_
      refine lv_dup2_11 hx hb dX11_readPiece_78 rfl rfl ?_
      obtain ⟨g, h⟩ := h
      refine ziald X hW h0.2.2.2.2.2.1 g dX11_readPiece_79 ?_
      refine lv_iconst hx hb dX11_readPiece_80 zc_i1 ?_
      refine lv_iadd hx hb dX11_readPiece_81 ?_
      obtain ⟨g, h⟩ := h
      refine ziast X hW h0.2.2.2.2.2.1 g dX11_readPiece_82 (fun H locs zm10 ezm10 hW => ?_)
      replace h := h zm10 ezm10
      refine lv_aload_n hx hb dX11_readPiece_83 rfl (lv_at hl 1 rfl) ?_
      refine zcallv (zrunV (As := []) (rest := []) X hml hl hW h0.1 rfl zk_Model_114 (c_Model_next h0 h) rfl ⟨Nat.le_of_ble_eq_true rfl, Nat.le_of_ble_eq_true rfl⟩ ⟨Nat.le_refl 0, Nat.le_refl 0⟩ rfl (Nat.le_of_ble_eq_true rfl) dX11_readPiece_84) hW (fun zm11 H locs h hW => ?_)
      exact zretv X hr hlk hW h dX11_readPiece_87
  have zJ_34 : ∀ (M : zMem) (H : Heap) (locs : List Loc) (ls : Array Slot), zWo w s.heap M H locs → lv_has ls 2 [(0, .ref (zad w 0))] → wpJ_Model_readPiece_34  post M → W p l e (zRm 3 67) s m ([.ref (zad w 0)] : List Value).toArray below meth c H locs 0 0 (MQ below (va_Qv post (zB w) (zA w)) ([.ref (zad w 0)] : List Value).toArray s 0 0 (zA w)) (F0 m 34 ls []) := by
    intro  M H locs ls hW hl h
    unfold wpJ_Model_readPiece_34 at h
    refine lv_aload_n hx hb dX11_readPiece_34 rfl (lv_at hl 0 rfl) ?_
    refine lv_iconst hx hb dX11_readPiece_35 zc_i5 ?_
    refine zcallv (zrunV (As := [.int 5]) (rest := []) X hml hl hW h0.1 rfl zk_Model_103 (c_Model_fails h0 h) rfl ⟨Nat.le_of_ble_eq_true rfl, Nat.le_of_ble_eq_true rfl⟩ ⟨Nat.le_refl 0, Nat.le_refl 0⟩ rfl (Nat.le_of_ble_eq_true rfl) dX11_readPiece_36) hW (fun zm1 H locs h hW => ?_)
    exact zJ_39  zm1 H locs ls hW (lv_sub hl [0] rfl) h
  unfold wp_Model_readPiece at h
  have zMain : ∀ (H : Heap) (locs : List Loc) (ls : Array Slot), zWo w s.heap M H locs → lv_has ls 2 [(0, .ref (zad w 0))] → W p l e (zRm 3 67) s m ([.ref (zad w 0)] : List Value).toArray below meth c H locs 0 0 (MQ below (va_Qv post (zB w) (zA w)) ([.ref (zad w 0)] : List Value).toArray s 0 0 (zA w)) (F0 m 0 ls []) := by
    intro H locs ls hW hl
    refine lv_aload_n hx hb dX11_readPiece_0 rfl (lv_at hl 0 rfl) ?_
    refine zg_Model_reads X hW h0 zu_1032 dX11_readPiece_1 ?_
    refine lv_iconst hx hb dX11_readPiece_4 zc_i0 ?_
    obtain ⟨g, h⟩ := h
    refine ziald X hW h0.2.2.2.2.2.1 g dX11_readPiece_5 ?_
    refine lv_bipush hx hb dX11_readPiece_6 zc_b8 ?_
    refine lv_icmp_eq (tgt := 34) hx hb dX11_readPiece_8 rfl (fun c => ?_) (fun c => ?_)
    · replace h := h.1 c
      exact zJ_34  M H locs ls hW (lv_sub hl [0] rfl) h
    · replace h := h.2 c
      refine lv_aload_n hx hb dX11_readPiece_11 rfl (lv_at hl 0 rfl) ?_
      refine zg_Model_toldSorts X hW h0 zu_1034 dX11_readPiece_12 ?_
      refine lv_if_ne (tgt := 34) hx hb dX11_readPiece_15 rfl (fun c => ?_) (fun c => ?_)
      · replace h := h.1 c
        exact zJ_34  M H locs ls hW (lv_sub hl [0] rfl) h
      · replace h := h.2 c
        refine lv_aload_n hx hb dX11_readPiece_18 rfl (lv_at hl 0 rfl) ?_
        refine zg_Model_reads X hW h0 zu_1032 dX11_readPiece_19 ?_
        refine lv_iconst hx hb dX11_readPiece_22 zc_i1 ?_
        obtain ⟨g, h⟩ := h
        refine ziald X hW h0.2.2.2.2.2.1 g dX11_readPiece_23 ?_
        refine lv_if_gt (tgt := 34) hx hb dX11_readPiece_24 rfl (fun c => ?_) (fun c => ?_)
        · replace h := h.1 c
          exact zJ_34  M H locs ls hW (lv_sub hl [0] rfl) h
        · replace h := h.2 c
          refine lv_aload_n hx hb dX11_readPiece_27 rfl (lv_at hl 0 rfl) ?_
          refine zg_Model_hasEnds X hW h0 zu_1035 dX11_readPiece_28 ?_
          refine lv_if_eq (tgt := 39) hx hb dX11_readPiece_31 rfl (fun c => ?_) (fun c => ?_)
          · replace h := h.1 c
            exact zJ_39  M H locs ls hW (lv_sub hl [0] rfl) h
          · replace h := h.2 c
            exact zJ_34  M H locs ls hW (lv_sub hl [0] rfl) h
  exact zMain s.heap [] ls hW hl
