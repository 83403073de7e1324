def wp_Told_clear (k : Nat) (M : zMem) (Q : zMem → Prop) : Prop :=
  ∀ zm1 : zMem, zm1 = zup M k 0 0 → ∀ zm2 : zMem, zm2 = zup zm1 k 1 0 → ∀ zm3 : zMem, zm3 = zup zm2 k 2 0 → ∀ zm4 : zMem, zm4 = zup zm3 k 3 0 → ∀ zm5 : zMem, zm5 = zup zm4 k 4 0 → ∀ zm6 : zMem, zm6 = zup zm5 k 5 0 → ∀ zm7 : zMem, zm7 = zup zm6 k 6 1 → vp_in 0 6 ∧ ∀ zm8 : zMem, zm8 = zup zm7 (k + 1) (ix 0) 0 → Q zm8
set_option maxHeartbeats 4000000 in
set_option maxRecDepth 20000 in
theorem c_Told_clear {l : Launch} {w : zWd} {k : Nat} {M : zMem} {post : zMem → Prop} (h0 : zI_Told w k) (h : wp_Told_clear k M post) : zMv l ⟨"HandToHand$Told", "clear", "()V"⟩ prog_11_method_2_code 1 none 0 0 w [.ref (zad w k)] M post := by
  refine zMet (by decide) (Nat.le_of_ble_eq_true rfl) ?_
  intro p e s m below meth c X hr hlk hml hW ls hl
  have hx := X.1
  have hb := X.2.1
  have hl : lv_has ls 1 [(0, .ref (zad w k))] := hl
  unfold wp_Told_clear at h
  have zMain : ∀ (H : Heap) (locs : List Loc) (ls : Array Slot), zWo w s.heap M H locs → lv_has ls 1 [(0, .ref (zad w k))] → W p l e (zRm 0 0) s m ([.ref (zad w k)] : List Value).toArray below meth c H locs 0 0 (MQ below (va_Qv post (zB w) (zA w)) ([.ref (zad w k)] : List Value).toArray s 0 0 (zA w)) (F0 m 0 ls []) := by
    intro H locs ls hW hl
    refine lv_aload_n hx hb dX9_clear_0 rfl (lv_at hl 0 rfl) ?_
    refine lv_iconst hx hb dX9_clear_1 zc_i0 ?_
    refine zp_Told_pieces X hW h0 zu_32 dX9_clear_2 (fun H locs zm1 ezm1 hW => ?_)
    replace h := h zm1 ezm1
    refine lv_aload_n hx hb dX9_clear_5 rfl (lv_at hl 0 rfl) ?_
    refine lv_iconst hx hb dX9_clear_6 zc_i0 ?_
    refine zp_Told_hands X hW h0 zu_37 dX9_clear_7 (fun H locs zm2 ezm2 hW => ?_)
    replace h := h zm2 ezm2
    refine lv_aload_n hx hb dX9_clear_10 rfl (lv_at hl 0 rfl) ?_
    refine lv_iconst hx hb dX9_clear_11 zc_i0 ?_
    refine zp_Told_walk X hW h0 zu_42 dX9_clear_12 (fun H locs zm3 ezm3 hW => ?_)
    replace h := h zm3 ezm3
    refine lv_aload_n hx hb dX9_clear_15 rfl (lv_at hl 0 rfl) ?_
    refine lv_iconst hx hb dX9_clear_16 zc_i0 ?_
    refine zp_Told_learn X hW h0 zu_46 dX9_clear_17 (fun H locs zm4 ezm4 hW => ?_)
    replace h := h zm4 ezm4
    refine lv_aload_n hx hb dX9_clear_20 rfl (lv_at hl 0 rfl) ?_
    refine lv_iconst hx hb dX9_clear_21 zc_i0 ?_
    refine zp_Told_kind X hW h0 zu_49 dX9_clear_22 (fun H locs zm5 ezm5 hW => ?_)
    replace h := h zm5 ezm5
    refine lv_aload_n hx hb dX9_clear_25 rfl (lv_at hl 0 rfl) ?_
    refine lv_iconst hx hb dX9_clear_26 zc_i0 ?_
    refine zp_Told_whole X hW h0 zu_52 dX9_clear_27 (fun H locs zm6 ezm6 hW => ?_)
    replace h := h zm6 ezm6
    refine lv_aload_n hx hb dX9_clear_30 rfl (lv_at hl 0 rfl) ?_
    refine lv_iconst hx hb dX9_clear_31 zc_i1 ?_
    refine zp_Told_rowLength X hW h0 zu_55 dX9_clear_32 (fun H locs zm7 ezm7 hW => ?_)
    replace h := h zm7 ezm7
    refine lv_aload_n hx hb dX9_clear_35 rfl (lv_at hl 0 rfl) ?_
    refine zg_Told_row X hW h0 zu_59 dX9_clear_36 ?_
    refine lv_iconst hx hb dX9_clear_39 zc_i0 ?_
    refine lv_iconst hx hb dX9_clear_40 zc_i0 ?_
    obtain ⟨g, h⟩ := h
    refine ziast X hW h0.2.1 g dX9_clear_41 (fun H locs zm8 ezm8 hW => ?_)
    replace h := h zm8 ezm8
    exact zretv X hr hlk hW h dX9_clear_42
  exact zMain s.heap [] ls hW hl
def wpB_Told_fillEnds_2 (k : Nat)   (Q : zMem → Prop) (J : Int32 → zMem → Prop) (x_1 : Int32) (M : zMem) : Prop :=
  ((M k 1) ≤ x_1 → Q M) ∧ (¬ (M k 1) ≤ x_1 → ((M k 4) = 0 → vp_in x_1 5 ∧ ∀ zm1 : zMem, zm1 = zup M (k + 4) (ix x_1) (M k 0) → ∀ zx2 : Int32, zx2 = x_1 + 1 → J zx2 zm1) ∧ (¬ (M k 4) = 0 → (¬ x_1 = ((M k 1) - 1) → ∀ zx3 : Int32, zx3 = x_1 + 1 → J zx3 M) ∧ (x_1 = ((M k 1) - 1) → vp_in x_1 5 ∧ ∀ zm4 : zMem, zm4 = zup M (k + 4) (ix x_1) (M k 0) → ∀ zx5 : Int32, zx5 = x_1 + 1 → J zx5 zm4)))
def wp_Told_fillEnds (k : Nat) (M : zMem) (Q : zMem → Prop) : Prop :=
  ∃ n : Nat, zlp1 (wpB_Told_fillEnds_2 k   Q) n 0 M
set_option maxHeartbeats 4000000 in
set_option maxRecDepth 20000 in
theorem c_Told_fillEnds {l : Launch} {w : zWd} {k : Nat} {M : zMem} {post : zMem → Prop} (h0 : zI_Told w k) (h : wp_Told_fillEnds k M post) : zMv l ⟨"HandToHand$Told", "fillEnds", "()V"⟩ prog_11_method_6_code 2 none 0 0 w [.ref (zad w k)] M post := by
  refine zMet (by decide) (Nat.le_of_ble_eq_true rfl) ?_
  intro p e s m below meth c X hr hlk hml hW ls hl
  have hx := X.1
  have hb := X.2.1
  have hl : lv_has ls 2 [(0, .ref (zad w k))] := hl
  have zL_2 :  ∀ (n : Nat) (x_1 : Int32) (M : zMem) (H : Heap) (locs : List Loc) (ls : Array Slot), zWo w s.heap M H locs → lv_has ls 2 [(0, .ref (zad w k)), (1, .int x_1)] → zlp1 (wpB_Told_fillEnds_2 k   post) n x_1 M → W p l e (zRm 0 0) s m ([.ref (zad w k)] : List Value).toArray below meth c H locs 0 0 (MQ below (va_Qv post (zB w) (zA w)) ([.ref (zad w k)] : List Value).toArray s 0 0 (zA w)) (F0 m 2 ls []) := by
    intro n
    induction n with
    | zero => intro x_1 M H locs ls hW hl h; exact h.elim
    | succ n zJ =>
      intro x_1 M H locs ls hW hl h
      have h : wpB_Told_fillEnds_2 k   post (zlp1 (wpB_Told_fillEnds_2 k   post) n) x_1 M := h
      unfold wpB_Told_fillEnds_2 at h
      refine lv_iload_n hx hb dX9_fillEnds_2 rfl (lv_at hl 1 rfl) ?_
      refine lv_aload_n hx hb dX9_fillEnds_3 rfl (lv_at hl 0 rfl) ?_
      refine zg_Told_hands X hW h0 zu_37 dX9_fillEnds_4 ?_
      refine lv_icmp_ge (tgt := 43) hx hb dX9_fillEnds_7 rfl (fun c => ?_) (fun c => ?_)
      · replace h := h.1 c
        exact zretv X hr hlk hW h dX9_fillEnds_43
      · replace h := h.2 c
        refine lv_aload_n hx hb dX9_fillEnds_10 rfl (lv_at hl 0 rfl) ?_
        refine zg_Told_kind X hW h0 zu_49 dX9_fillEnds_11 ?_
        refine lv_if_eq (tgt := 27) hx hb dX9_fillEnds_14 rfl (fun c => ?_) (fun c => ?_)
        · replace h := h.1 c
          refine lv_aload_n hx hb dX9_fillEnds_27 rfl (lv_at hl 0 rfl) ?_
          refine zg_Told_ends X hW h0 zu_68 dX9_fillEnds_28 ?_
          refine lv_iload_n hx hb dX9_fillEnds_31 rfl (lv_at hl 1 rfl) ?_
          refine lv_aload_n hx hb dX9_fillEnds_32 rfl (lv_at hl 0 rfl) ?_
          refine zg_Told_pieces X hW h0 zu_32 dX9_fillEnds_33 ?_
          obtain ⟨g, h⟩ := h
          refine ziast X hW h0.2.2.2.2 g dX9_fillEnds_36 (fun H locs zm1 ezm1 hW => ?_)
          replace h := h zm1 ezm1
          obtain ⟨zx2, ezx2⟩ : ∃ y : Int32, y = x_1 + 1 := ⟨_, rfl⟩
          replace h := h zx2 ezx2
          refine lv_iinc (v := zx2) (lv' := [(1, .int zx2), (0, .ref (zad w k))]) hx hb dX9_fillEnds_37 hl (k := 1) rfl (by rw [ezx2, zc_i1]) (Nat.le_of_ble_eq_true rfl) rfl (fun ls hl => ?_)
          refine lv_goto (tgt := 2) hx hb dX9_fillEnds_40 rfl ?_
          exact zJ zx2 zm1 H locs ls hW (lv_sub hl [1, 0] rfl) h
        · replace h := h.2 c
          refine lv_iload_n hx hb dX9_fillEnds_17 rfl (lv_at hl 1 rfl) ?_
          refine lv_aload_n hx hb dX9_fillEnds_18 rfl (lv_at hl 0 rfl) ?_
          refine zg_Told_hands X hW h0 zu_37 dX9_fillEnds_19 ?_
          refine lv_iconst hx hb dX9_fillEnds_22 zc_i1 ?_
          refine lv_isub hx hb dX9_fillEnds_23 ?_
          refine lv_icmp_ne (tgt := 37) hx hb dX9_fillEnds_24 rfl (fun c => ?_) (fun c => ?_)
          · replace h := h.1 c
            obtain ⟨zx3, ezx3⟩ : ∃ y : Int32, y = x_1 + 1 := ⟨_, rfl⟩
            replace h := h zx3 ezx3
            refine lv_iinc (v := zx3) (lv' := [(1, .int zx3), (0, .ref (zad w k))]) hx hb dX9_fillEnds_37 hl (k := 1) rfl (by rw [ezx3, zc_i1]) (Nat.le_of_ble_eq_true rfl) rfl (fun ls hl => ?_)
            refine lv_goto (tgt := 2) hx hb dX9_fillEnds_40 rfl ?_
            exact zJ zx3 M H locs ls hW (lv_sub hl [1, 0] rfl) h
          · replace h := h.2 c
            refine lv_aload_n hx hb dX9_fillEnds_27 rfl (lv_at hl 0 rfl) ?_
            refine zg_Told_ends X hW h0 zu_68 dX9_fillEnds_28 ?_
            refine lv_iload_n hx hb dX9_fillEnds_31 rfl (lv_at hl 1 rfl) ?_
            refine lv_aload_n hx hb dX9_fillEnds_32 rfl (lv_at hl 0 rfl) ?_
            refine zg_Told_pieces X hW h0 zu_32 dX9_fillEnds_33 ?_
            obtain ⟨g, h⟩ := h
            refine ziast X hW h0.2.2.2.2 g dX9_fillEnds_36 (fun H locs zm4 ezm4 hW => ?_)
            replace h := h zm4 ezm4
            obtain ⟨zx5, ezx5⟩ : ∃ y : Int32, y = x_1 + 1 := ⟨_, rfl⟩
            replace h := h zx5 ezx5
            refine lv_iinc (v := zx5) (lv' := [(1, .int zx5), (0, .ref (zad w k))]) hx hb dX9_fillEnds_37 hl (k := 1) rfl (by rw [ezx5, zc_i1]) (Nat.le_of_ble_eq_true rfl) rfl (fun ls hl => ?_)
            refine lv_goto (tgt := 2) hx hb dX9_fillEnds_40 rfl ?_
            exact zJ zx5 zm4 H locs ls hW (lv_sub hl [1, 0] rfl) h
  unfold wp_Told_fillEnds at h
  have zMain : ∀ (H : Heap) (locs : List Loc) (ls : Array Slot), zWo w s.heap M H locs → lv_has ls 2 [(0, .ref (zad w k))] → W p l e (zRm 0 0) s m ([.ref (zad w k)] : List Value).toArray below meth c H locs 0 0 (MQ below (va_Qv post (zB w) (zA w)) ([.ref (zad w k)] : List Value).toArray s 0 0 (zA w)) (F0 m 0 ls []) := by
    intro H locs ls hW hl
    refine lv_iconst hx hb dX9_fillEnds_0 zc_i0 ?_
    refine lv_istore_n (lv' := [(1, .int 0), (0, .ref (zad w k))]) hx hb dX9_fillEnds_1 rfl hl (Nat.le_of_ble_eq_true rfl) rfl (fun ls hl => ?_)
    obtain ⟨n, h⟩ := h
    refine zL_2   n 0 M H locs ls hW (lv_sub hl [1, 0] rfl) h
  exact zMain s.heap [] ls hW hl
def wpB_Told_tellAsAtFirst_26 (k : Nat) (x_1 : Int32) (K49 : zMem → Prop) (Q : zMem → Prop) (J : Int32 → zMem → Prop) (x_2 : Int32) (M : zMem) : Prop :=
  (3 ≤ x_2 → K49 M) ∧ (¬ 3 ≤ x_2 → vp_in ((x_2 * 8) + x_1) 24 ∧ ∀ zm7 : zMem, zm7 = zup M (k + 2) (ix ((x_2 * 8) + x_1)) 2 → ∀ zx8 : Int32, zx8 = x_2 + 1 → J zx8 zm7)
def wpB_Told_tellAsAtFirst_51 (k : Nat) (x_1 : Int32) (K79 : zMem → Prop) (Q : zMem → Prop) (J : Int32 → zMem → Prop) (x_2 : Int32) (M : zMem) : Prop :=
  ((M k 1) ≤ x_2 → K79 M) ∧ (¬ (M k 1) ≤ x_2 → vp_in ((x_2 * 8) + x_1) 40 ∧ ∀ zm10 : zMem, zm10 = zup M (k + 3) (ix ((x_2 * 8) + x_1)) (3 - x_2) → ∀ zx11 : Int32, zx11 = x_2 + 1 → J zx11 zm10)
def wpB_Told_tellAsAtFirst_16 (k : Nat)   (Q : zMem → Prop) (J : Int32 → zMem → Prop) (x_1 : Int32) (M : zMem) : Prop :=
  ((M k 0) ≤ x_1 → wp_Told_fillEnds k M (fun zm5 => Q zm5)) ∧ (¬ (M k 0) ≤ x_1 → ∃ n : Nat, zlp1 (wpB_Told_tellAsAtFirst_26 k x_1 (fun (zm9 : zMem) => ∃ n : Nat, zlp1 (wpB_Told_tellAsAtFirst_51 k x_1 (fun (zm12 : zMem) => ∀ zx13 : Int32, zx13 = x_1 + 1 → J zx13 zm12) Q) n 0 zm9) Q) n 0 M)
def wp_Told_tellAsAtFirst (k : Nat) (M : zMem) (Q : zMem → Prop) : Prop :=
  wp_Told_clear k M (fun zm1 => ∀ zm3 : zMem, zm3 = zup zm1 k 0 3 → ∀ zm4 : zMem, zm4 = zup zm3 k 1 3 → ∃ n : Nat, zlp1 (wpB_Told_tellAsAtFirst_16 k   Q) n 0 zm4)
set_option maxHeartbeats 4000000 in
set_option maxRecDepth 20000 in
theorem c_Told_tellAsAtFirst {l : Launch} {w : zWd} {k : Nat} {M : zMem} {post : zMem → Prop} (h0 : zI_Told w k) (h : wp_Told_tellAsAtFirst k M post) : zMv l ⟨"HandToHand$Told", "tellAsAtFirst", "()V"⟩ prog_11_method_3_code 3 none 1 21 w [.ref (zad w k)] M post := by
  refine zMet (by decide) (Nat.le_of_ble_eq_true rfl) ?_
  intro p e s m below meth c X hr hlk hml hW ls hl
  have hx := X.1
  have hb := X.2.1
  have hl : lv_has ls 3 [(0, .ref (zad w k))] := hl
  have zL_26 : ∀ (x_1 : Int32) (K49 : zMem → Prop) (zK49 : ∀ (M : zMem) (H : Heap) (locs : List Loc) (ls : Array Slot), zWo w s.heap M H locs → lv_has ls 3 [(0, .ref (zad w k)), (1, .int x_1)] → K49 M → W p l e (zRm 1 21) s m ([.ref (zad w k)] : List Value).toArray below meth c H locs 0 0 (MQ below (va_Qv post (zB w) (zA w)) ([.ref (zad w k)] : List Value).toArray s 0 0 (zA w)) (F0 m 49 ls [])), ∀ (n : Nat) (x_2 : Int32) (M : zMem) (H : Heap) (locs : List Loc) (ls : Array Slot), zWo w s.heap M H locs → lv_has ls 3 [(0, .ref (zad w k)), (1, .int x_1), (2, .int x_2)] → zlp1 (wpB_Told_tellAsAtFirst_26 k x_1 K49 post) n x_2 M → W p l e (zRm 1 21) s m ([.ref (zad w k)] : List Value).toArray below meth c H locs 0 0 (MQ below (va_Qv post (zB w) (zA w)) ([.ref (zad w k)] : List Value).toArray s 0 0 (zA w)) (F0 m 26 ls []) := by
    intro x_1 K49 zK49 n
    induction n with
    | zero => intro x_2 M H locs ls hW hl h; exact h.elim
    | succ n zJ =>
      intro x_2 M H locs ls hW hl h
      have h : wpB_Told_tellAsAtFirst_26 k x_1 K49 post (zlp1 (wpB_Told_tellAsAtFirst_26 k x_1 K49 post) n) x_2 M := h
      unfold wpB_Told_tellAsAtFirst_26 at h
      refine lv_iload_n hx hb dX9_tellAsAtFirst_26 rfl (lv_at hl 2 rfl) ?_
      refine lv_iconst hx hb dX9_tellAsAtFirst_27 zc_i3 ?_
      refine lv_icmp_ge (tgt := 49) hx hb dX9_tellAsAtFirst_28 rfl (fun c => ?_) (fun c => ?_)
      · replace h := h.1 c
        exact zK49 M H locs ls hW (lv_sub hl [0, 1] rfl) h
      · replace h := h.2 c
        refine lv_aload_n hx hb dX9_tellAsAtFirst_31 rfl (lv_at hl 0 rfl) ?_
        refine zg_Told_units X hW h0 zu_63 dX9_tellAsAtFirst_32 ?_
        refine lv_iload_n hx hb dX9_tellAsAtFirst_35 rfl (lv_at hl 2 rfl) ?_
        refine lv_bipush hx hb dX9_tellAsAtFirst_36 zc_b8 ?_
        refine lv_imul hx hb dX9_tellAsAtFirst_38 ?_
        refine lv_iload_n hx hb dX9_tellAsAtFirst_39 rfl (lv_at hl 1 rfl) ?_
        refine lv_iadd hx hb dX9_tellAsAtFirst_40 ?_
        refine lv_iconst hx hb dX9_tellAsAtFirst_41 zc_i2 ?_
        obtain ⟨g, h⟩ := h
        refine ziast X hW h0.2.2.1 g dX9_tellAsAtFirst_42 (fun H locs zm7 ezm7 hW => ?_)
        replace h := h zm7 ezm7
        obtain ⟨zx8, ezx8⟩ : ∃ y : Int32, y = x_2 + 1 := ⟨_, rfl⟩
        replace h := h zx8 ezx8
        refine lv_iinc (v := zx8) (lv' := [(2, .int zx8), (0, .ref (zad w k)), (1, .int x_1)]) hx hb dX9_tellAsAtFirst_43 hl (k := 2) rfl (by rw [ezx8, zc_i1]) (Nat.le_of_ble_eq_true rfl) rfl (fun ls hl => ?_)
        refine lv_goto (tgt := 26) hx hb dX9_tellAsAtFirst_46 rfl ?_
        exact zJ zx8 zm7 H locs ls hW (lv_sub hl [1, 2, 0] rfl) h
  have zL_51 : ∀ (x_1 : Int32) (K79 : zMem → Prop) (zK79 : ∀ (M : zMem) (H : Heap) (locs : List Loc) (ls : Array Slot), zWo w s.heap M H locs → lv_has ls 3 [(0, .ref (zad w k)), (1, .int x_1)] → K79 M → W p l e (zRm 1 21) s m ([.ref (zad w k)] : List Value).toArray below meth c H locs 0 0 (MQ below (va_Qv post (zB w) (zA w)) ([.ref (zad w k)] : List Value).toArray s 0 0 (zA w)) (F0 m 79 ls [])), ∀ (n : Nat) (x_2 : Int32) (M : zMem) (H : Heap) (locs : List Loc) (ls : Array Slot), zWo w s.heap M H locs → lv_has ls 3 [(0, .ref (zad w k)), (1, .int x_1), (2, .int x_2)] → zlp1 (wpB_Told_tellAsAtFirst_51 k x_1 K79 post) n x_2 M → W p l e (zRm 1 21) s m ([.ref (zad w k)] : List Value).toArray below meth c H locs 0 0 (MQ below (va_Qv post (zB w) (zA w)) ([.ref (zad w k)] : List Value).toArray s 0 0 (zA w)) (F0 m 51 ls []) := by
    intro x_1 K79 zK79 n
    induction n with
    | zero => intro x_2 M H locs ls hW hl h; exact h.elim
    | succ n zJ =>
      intro x_2 M H locs ls hW hl h
      have h : wpB_Told_tellAsAtFirst_51 k x_1 K79 post (zlp1 (wpB_Told_tellAsAtFirst_51 k x_1 K79 post) n) x_2 M := h
      unfold wpB_Told_tellAsAtFirst_51 at h
      refine lv_iload_n hx hb dX9_tellAsAtFirst_51 rfl (lv_at hl 2 rfl) ?_
      refine lv_aload_n hx hb dX9_tellAsAtFirst_52 rfl (lv_at hl 0 rfl) ?_
      refine zg_Told_hands X hW h0 zu_37 dX9_tellAsAtFirst_53 ?_
      refine lv_icmp_ge (tgt := 79) hx hb dX9_tellAsAtFirst_56 rfl (fun c => ?_) (fun c => ?_)
      · replace h := h.1 c
        exact zK79 M H locs ls hW (lv_sub hl [0, 1] rfl) h
      · replace h := h.2 c
        refine lv_aload_n hx hb dX9_tellAsAtFirst_59 rfl (lv_at hl 0 rfl) ?_
        refine zg_Told_paces X hW h0 zu_65 dX9_tellAsAtFirst_60 ?_
        refine lv_iload_n hx hb dX9_tellAsAtFirst_63 rfl (lv_at hl 2 rfl) ?_
        refine lv_bipush hx hb dX9_tellAsAtFirst_64 zc_b8 ?_
        refine lv_imul hx hb dX9_tellAsAtFirst_66 ?_
        refine lv_iload_n hx hb dX9_tellAsAtFirst_67 rfl (lv_at hl 1 rfl) ?_
        refine lv_iadd hx hb dX9_tellAsAtFirst_68 ?_
        refine lv_iconst hx hb dX9_tellAsAtFirst_69 zc_i3 ?_
        refine lv_iload_n hx hb dX9_tellAsAtFirst_70 rfl (lv_at hl 2 rfl) ?_
        refine lv_isub hx hb dX9_tellAsAtFirst_71 ?_
        obtain ⟨g, h⟩ := h
        refine ziast X hW h0.2.2.2.1 g dX9_tellAsAtFirst_72 (fun H locs zm10 ezm10 hW => ?_)
        replace h := h zm10 ezm10
        obtain ⟨zx11, ezx11⟩ : ∃ y : Int32, y = x_2 + 1 := ⟨_, rfl⟩
        replace h := h zx11 ezx11
        refine lv_iinc (v := zx11) (lv' := [(2, .int zx11), (0, .ref (zad w k)), (1, .int x_1)]) hx hb dX9_tellAsAtFirst_73 hl (k := 2) rfl (by rw [ezx11, zc_i1]) (Nat.le_of_ble_eq_true rfl) rfl (fun ls hl => ?_)
        refine lv_goto (tgt := 51) hx hb dX9_tellAsAtFirst_76 rfl ?_
        exact zJ zx11 zm10 H locs ls hW (lv_sub hl [1, 2, 0] rfl) h
  have zL_16 :  ∀ (n : Nat) (x_1 : Int32) (M : zMem) (H : Heap) (locs : List Loc) (ls : Array Slot), zWo w s.heap M H locs → lv_has ls 3 [(0, .ref (zad w k)), (1, .int x_1)] → zlp1 (wpB_Told_tellAsAtFirst_16 k   post) n x_1 M → W p l e (zRm 1 21) s m ([.ref (zad w k)] : List Value).toArray below meth c H locs 0 0 (MQ below (va_Qv post (zB w) (zA w)) ([.ref (zad w k)] : List Value).toArray s 0 0 (zA w)) (F0 m 16 ls []) := by
    intro n
    induction n with
    | zero => intro x_1 M H locs ls hW hl h; exact h.elim
    | succ n zJ =>
      intro x_1 M H locs ls hW hl h
      have h : wpB_Told_tellAsAtFirst_16 k   post (zlp1 (wpB_Told_tellAsAtFirst_16 k   post) n) x_1 M := h
      unfold wpB_Told_tellAsAtFirst_16 at h
      refine lv_iload_n hx hb dX9_tellAsAtFirst_16 rfl (lv_at hl 1 rfl) ?_
      refine lv_aload_n hx hb dX9_tellAsAtFirst_17 rfl (lv_at hl 0 rfl) ?_
      refine zg_Told_pieces X hW h0 zu_32 dX9_tellAsAtFirst_18 ?_
      refine lv_icmp_ge (tgt := 85) hx hb dX9_tellAsAtFirst_21 rfl (fun c => ?_) (fun c => ?_)
      · replace h := h.1 c
        refine lv_aload_n hx hb dX9_tellAsAtFirst_85 rfl (lv_at hl 0 rfl) ?_
        refine zcallv (zrunV (As := []) (rest := []) X hml hl hW h0.1 rfl zk_Told_49 (c_Told_fillEnds h0 h) rfl ⟨Nat.le_of_ble_eq_true rfl, Nat.le_of_ble_eq_true rfl⟩ ⟨Nat.le_refl 0, Nat.le_refl 0⟩ rfl (Nat.le_of_ble_eq_true rfl) dX9_tellAsAtFirst_86) hW (fun zm5 H locs h hW => ?_)
        exact zretv X hr hlk hW h dX9_tellAsAtFirst_89
      · replace h := h.2 c
        refine lv_iconst hx hb dX9_tellAsAtFirst_24 zc_i0 ?_
        refine lv_istore_n (lv' := [(2, .int 0), (0, .ref (zad w k)), (1, .int x_1)]) hx hb dX9_tellAsAtFirst_25 rfl hl (Nat.le_of_ble_eq_true rfl) rfl (fun ls hl => ?_)
        obtain ⟨n, h⟩ := h
        refine zL_26 x_1 _ (fun  zm9 H locs ls hW hl h => ?_) n 0 M H locs ls hW (lv_sub hl [1, 2, 0] rfl) h
        · skip
          refine lv_iconst hx hb dX9_tellAsAtFirst_49 zc_i0 ?_
          refine lv_istore_n (lv' := [(2, .int 0), (0, .ref (zad w k)), (1, .int x_1)]) hx hb dX9_tellAsAtFirst_50 rfl hl (Nat.le_of_ble_eq_true rfl) rfl (fun ls hl => ?_)
          obtain ⟨n, h⟩ := h
          refine zL_51 x_1 _ (fun  zm12 H locs ls hW hl h => ?_) n 0 zm9 H locs ls hW (lv_sub hl [1, 2, 0] rfl) h
          · skip
            obtain ⟨zx13, ezx13⟩ : ∃ y : Int32, y = x_1 + 1 := ⟨_, rfl⟩
            replace h := h zx13 ezx13
            refine lv_iinc (v := zx13) (lv' := [(1, .int zx13), (0, .ref (zad w k))]) hx hb dX9_tellAsAtFirst_79 hl (k := 1) rfl (by rw [ezx13, zc_i1]) (Nat.le_of_ble_eq_true rfl) rfl (fun ls hl => ?_)
            refine lv_goto (tgt := 16) hx hb dX9_tellAsAtFirst_82 rfl ?_
            exact zJ zx13 zm12 H locs ls hW (lv_sub hl [1, 0] rfl) h
  unfold wp_Told_tellAsAtFirst at h
  have zMain : ∀ (H : Heap) (locs : List Loc) (ls : Array Slot), zWo w s.heap M H locs → lv_has ls 3 [(0, .ref (zad w k))] → W p l e (zRm 1 21) s m ([.ref (zad w k)] : List Value).toArray below meth c H locs 0 0 (MQ below (va_Qv post (zB w) (zA w)) ([.ref (zad w k)] : List Value).toArray s 0 0 (zA w)) (F0 m 0 ls []) := by
    intro H locs ls hW hl
    refine lv_aload_n hx hb dX9_tellAsAtFirst_0 rfl (lv_at hl 0 rfl) ?_
    refine zcallv (zrunV (As := []) (rest := []) X hml hl hW h0.1 rfl zk_Told_46 (c_Told_clear h0 h) rfl ⟨Nat.le_of_ble_eq_true rfl, Nat.le_of_ble_eq_true rfl⟩ ⟨Nat.le_refl 0, Nat.le_refl 0⟩ rfl (Nat.le_of_ble_eq_true rfl) dX9_tellAsAtFirst_1) hW (fun zm1 H locs h hW => ?_)
    refine lv_aload_n hx hb dX9_tellAsAtFirst_4 rfl (lv_at hl 0 rfl) ?_
    refine lv_iconst hx hb dX9_tellAsAtFirst_5 zc_i3 ?_
    refine zp_Told_pieces X hW h0 zu_32 dX9_tellAsAtFirst_6 (fun H locs zm3 ezm3 hW => ?_)
    replace h := h zm3 ezm3
    refine lv_aload_n hx hb dX9_tellAsAtFirst_9 rfl (lv_at hl 0 rfl) ?_
    refine lv_iconst hx hb dX9_tellAsAtFirst_10 zc_i3 ?_
    refine zp_Told_hands X hW h0 zu_37 dX9_tellAsAtFirst_11 (fun H locs zm4 ezm4 hW => ?_)
    replace h := h zm4 ezm4
    refine lv_iconst hx hb dX9_tellAsAtFirst_14 zc_i0 ?_
    refine lv_istore_n (lv' := [(1, .int 0), (0, .ref (zad w k))]) hx hb dX9_tellAsAtFirst_15 rfl hl (Nat.le_of_ble_eq_true rfl) rfl (fun ls hl => ?_)
    obtain ⟨n, h⟩ := h
    refine zL_16   n 0 zm4 H locs ls hW (lv_sub hl [1, 0] rfl) h
  exact zMain s.heap [] ls hW hl
def wp_Told_copyFrom (k : Nat) (t1 : Nat) (M : zMem) (Q : zMem → Prop) : Prop :=
  ∀ zm1 : zMem, zm1 = zup M k 0 (M t1 0) → ∀ zm2 : zMem, zm2 = zup zm1 k 1 (zm1 t1 1) → ∀ zm3 : zMem, zm3 = zup zm2 k 2 (zm2 t1 2) → ∀ zm4 : zMem, zm4 = zup zm3 k 3 (zm3 t1 3) → ∀ zm5 : zMem, zm5 = zup zm4 k 4 (zm4 t1 4) → ∀ zm6 : zMem, zm6 = zup zm5 k 5 (zm5 t1 5) → ∀ zm7 : zMem, zm7 = zup zm6 k 6 (zm6 t1 6) → zcpok 0 0 6 6 6 ∧ ∀ zm8 : zMem, zm8 = zcopyM zm7 (t1 + 1) (k + 1) 0 0 6 → zcpok 0 0 24 24 24 ∧ ∀ zm9 : zMem, zm9 = zcopyM zm8 (t1 + 2) (k + 2) 0 0 24 → zcpok 0 0 40 40 40 ∧ ∀ zm10 : zMem, zm10 = zcopyM zm9 (t1 + 3) (k + 3) 0 0 40 → zcpok 0 0 5 5 5 ∧ ∀ zm11 : zMem, zm11 = zcopyM zm10 (t1 + 4) (k + 4) 0 0 5 → Q zm11
set_option maxHeartbeats 4000000 in
set_option maxRecDepth 20000 in
theorem c_Told_copyFrom {l : Launch} {w : zWd} {k : Nat} {t1 : Nat} {M : zMem} {post : zMem → Prop} (h0 : zI_Told w k) (h1 : zI_Told w t1) (h : wp_Told_copyFrom k t1 M post) : zMv l ⟨"HandToHand$Told", "copyFrom", "(LHandToHand$Told;)V"⟩ prog_11_method_4_code 2 none 1 30 w [.ref (zad w k), .ref (zad w t1)] M post := by
  refine zMet (by decide) (Nat.le_of_ble_eq_true rfl) ?_
  intro p e s m below meth c X hr hlk hml hW ls hl
  have hx := X.1
  have hb := X.2.1
  have hl : lv_has ls 2 [(0, .ref (zad w k)), (1, .ref (zad w t1))] := hl
  unfold wp_Told_copyFrom at h
  have zMain : ∀ (H : Heap) (locs : List Loc) (ls : Array Slot), zWo w s.heap M H locs → lv_has ls 2 [(0, .ref (zad w k)), (1, .ref (zad w t1))] → W p l e (zRm 1 30) s m ([.ref (zad w k), .ref (zad w t1)] : List Value).toArray below meth c H locs 0 0 (MQ below (va_Qv post (zB w) (zA w)) ([.ref (zad w k), .ref (zad w t1)] : List Value).toArray s 0 0 (zA w)) (F0 m 0 ls []) := by
    intro H locs ls hW hl
    refine lv_aload_n hx hb dX9_copyFrom_0 rfl (lv_at hl 0 rfl) ?_
    refine lv_aload_n hx hb dX9_copyFrom_1 rfl (lv_at hl 1 rfl) ?_
    refine zg_Told_pieces X hW h1 zu_32 dX9_copyFrom_2 ?_
    refine zp_Told_pieces X hW h0 zu_32 dX9_copyFrom_5 (fun H locs zm1 ezm1 hW => ?_)
    replace h := h zm1 ezm1
    refine lv_aload_n hx hb dX9_copyFrom_8 rfl (lv_at hl 0 rfl) ?_
    refine lv_aload_n hx hb dX9_copyFrom_9 rfl (lv_at hl 1 rfl) ?_
    refine zg_Told_hands X hW h1 zu_37 dX9_copyFrom_10 ?_
    refine zp_Told_hands X hW h0 zu_37 dX9_copyFrom_13 (fun H locs zm2 ezm2 hW => ?_)
    replace h := h zm2 ezm2
    refine lv_aload_n hx hb dX9_copyFrom_16 rfl (lv_at hl 0 rfl) ?_
    refine lv_aload_n hx hb dX9_copyFrom_17 rfl (lv_at hl 1 rfl) ?_
    refine zg_Told_walk X hW h1 zu_42 dX9_copyFrom_18 ?_
    refine zp_Told_walk X hW h0 zu_42 dX9_copyFrom_21 (fun H locs zm3 ezm3 hW => ?_)
    replace h := h zm3 ezm3
    refine lv_aload_n hx hb dX9_copyFrom_24 rfl (lv_at hl 0 rfl) ?_
    refine lv_aload_n hx hb dX9_copyFrom_25 rfl (lv_at hl 1 rfl) ?_
    refine zg_Told_learn X hW h1 zu_46 dX9_copyFrom_26 ?_
    refine zp_Told_learn X hW h0 zu_46 dX9_copyFrom_29 (fun H locs zm4 ezm4 hW => ?_)
    replace h := h zm4 ezm4
    refine lv_aload_n hx hb dX9_copyFrom_32 rfl (lv_at hl 0 rfl) ?_
    refine lv_aload_n hx hb dX9_copyFrom_33 rfl (lv_at hl 1 rfl) ?_
    refine zg_Told_kind X hW h1 zu_49 dX9_copyFrom_34 ?_
    refine zp_Told_kind X hW h0 zu_49 dX9_copyFrom_37 (fun H locs zm5 ezm5 hW => ?_)
    replace h := h zm5 ezm5
    refine lv_aload_n hx hb dX9_copyFrom_40 rfl (lv_at hl 0 rfl) ?_
    refine lv_aload_n hx hb dX9_copyFrom_41 rfl (lv_at hl 1 rfl) ?_
    refine zg_Told_whole X hW h1 zu_52 dX9_copyFrom_42 ?_
    refine zp_Told_whole X hW h0 zu_52 dX9_copyFrom_45 (fun H locs zm6 ezm6 hW => ?_)
    replace h := h zm6 ezm6
    refine lv_aload_n hx hb dX9_copyFrom_48 rfl (lv_at hl 0 rfl) ?_
    refine lv_aload_n hx hb dX9_copyFrom_49 rfl (lv_at hl 1 rfl) ?_
    refine zg_Told_rowLength X hW h1 zu_55 dX9_copyFrom_50 ?_
    refine zp_Told_rowLength X hW h0 zu_55 dX9_copyFrom_53 (fun H locs zm7 ezm7 hW => ?_)
    replace h := h zm7 ezm7
    refine lv_aload_n hx hb dX9_copyFrom_56 rfl (lv_at hl 1 rfl) ?_
    refine zg_Told_row X hW h1 zu_59 dX9_copyFrom_57 ?_
    refine lv_iconst hx hb dX9_copyFrom_60 zc_i0 ?_
    refine lv_aload_n hx hb dX9_copyFrom_61 rfl (lv_at hl 0 rfl) ?_
    refine zg_Told_row X hW h0 zu_59 dX9_copyFrom_62 ?_
    refine lv_iconst hx hb dX9_copyFrom_65 zc_i0 ?_
    refine lv_bipush hx hb dX9_copyFrom_66 zc_b6 ?_
    obtain ⟨g, h⟩ := h
    refine zcopy X hml hl hW h1.2.1 h0.2.1 zu_682 g ⟨Nat.le_of_ble_eq_true rfl, Nat.le_of_ble_eq_true rfl⟩ dX9_copyFrom_68 (fun H locs zm8 ezm8 hW => ?_)
    replace h := h zm8 ezm8
    refine lv_aload_n hx hb dX9_copyFrom_71 rfl (lv_at hl 1 rfl) ?_
    refine zg_Told_units X hW h1 zu_63 dX9_copyFrom_72 ?_
    refine lv_iconst hx hb dX9_copyFrom_75 zc_i0 ?_
    refine lv_aload_n hx hb dX9_copyFrom_76 rfl (lv_at hl 0 rfl) ?_
    refine zg_Told_units X hW h0 zu_63 dX9_copyFrom_77 ?_
    refine lv_iconst hx hb dX9_copyFrom_80 zc_i0 ?_
    refine lv_bipush hx hb dX9_copyFrom_81 zc_b24 ?_
    obtain ⟨g, h⟩ := h
    refine zcopy X hml hl hW h1.2.2.1 h0.2.2.1 zu_682 g ⟨Nat.le_of_ble_eq_true rfl, Nat.le_of_ble_eq_true rfl⟩ dX9_copyFrom_83 (fun H locs zm9 ezm9 hW => ?_)
    replace h := h zm9 ezm9
    refine lv_aload_n hx hb dX9_copyFrom_86 rfl (lv_at hl 1 rfl) ?_
    refine zg_Told_paces X hW h1 zu_65 dX9_copyFrom_87 ?_
    refine lv_iconst hx hb dX9_copyFrom_90 zc_i0 ?_
    refine lv_aload_n hx hb dX9_copyFrom_91 rfl (lv_at hl 0 rfl) ?_
    refine zg_Told_paces X hW h0 zu_65 dX9_copyFrom_92 ?_
    refine lv_iconst hx hb dX9_copyFrom_95 zc_i0 ?_
    refine lv_bipush hx hb dX9_copyFrom_96 zc_b40 ?_
    obtain ⟨g, h⟩ := h
    refine zcopy X hml hl hW h1.2.2.2.1 h0.2.2.2.1 zu_682 g ⟨Nat.le_of_ble_eq_true rfl, Nat.le_of_ble_eq_true rfl⟩ dX9_copyFrom_98 (fun H locs zm10 ezm10 hW => ?_)
    replace h := h zm10 ezm10
    refine lv_aload_n hx hb dX9_copyFrom_101 rfl (lv_at hl 1 rfl) ?_
    refine zg_Told_ends X hW h1 zu_68 dX9_copyFrom_102 ?_
    refine lv_iconst hx hb dX9_copyFrom_105 zc_i0 ?_
    refine lv_aload_n hx hb dX9_copyFrom_106 rfl (lv_at hl 0 rfl) ?_
    refine zg_Told_ends X hW h0 zu_68 dX9_copyFrom_107 ?_
    refine lv_iconst hx hb dX9_copyFrom_110 zc_i0 ?_
    refine lv_iconst hx hb dX9_copyFrom_111 zc_i5 ?_
    obtain ⟨g, h⟩ := h
    refine zcopy X hml hl hW h1.2.2.2.2 h0.2.2.2.2 zu_682 g ⟨Nat.le_of_ble_eq_true rfl, Nat.le_of_ble_eq_true rfl⟩ dX9_copyFrom_112 (fun H locs zm11 ezm11 hW => ?_)
    replace h := h zm11 ezm11
    exact zretv X hr hlk hW h dX9_copyFrom_115
  exact zMain s.heap [] ls hW hl
def wp_Told_copyPacesOf (k : Nat) (t1 : Nat) (a2 : Int32) (a3 : Int32) (M : zMem) (Q : zMem → Prop) : Prop :=
  zcpok (a2 * 8) (a3 * 8) 8 40 40 ∧ ∀ zm1 : zMem, zm1 = zcopyM M (t1 + 3) (k + 3) (a2 * 8) (a3 * 8) 8 → Q zm1
set_option maxHeartbeats 4000000 in
set_option maxRecDepth 20000 in
theorem c_Told_copyPacesOf {l : Launch} {w : zWd} {k : Nat} {t1 : Nat} {a2 : Int32} {a3 : Int32} {M : zMem} {post : zMem → Prop} (h0 : zI_Told w k) (h1 : zI_Told w t1) (h : wp_Told_copyPacesOf k t1 a2 a3 M post) : zMv l ⟨"HandToHand$Told", "copyPacesOf", "(LHandToHand$Told;II)V"⟩ prog_11_method_5_code 4 none 1 30 w [.ref (zad w k), .ref (zad w t1), .int a2, .int a3] M post := by
  refine zMet (by decide) (Nat.le_of_ble_eq_true rfl) ?_
  intro p e s m below meth c X hr hlk hml hW ls hl
  have hx := X.1
  have hb := X.2.1
  have hl : lv_has ls 4 [(0, .ref (zad w k)), (1, .ref (zad w t1)), (2, .int a2), (3, .int a3)] := hl
  unfold wp_Told_copyPacesOf at h
  have zMain : ∀ (H : Heap) (locs : List Loc) (ls : Array Slot), zWo w s.heap M H locs → lv_has ls 4 [(0, .ref (zad w k)), (1, .ref (zad w t1)), (2, .int a2), (3, .int a3)] → W p l e (zRm 1 30) s m ([.ref (zad w k), .ref (zad w t1), .int a2, .int a3] : List Value).toArray below meth c H locs 0 0 (MQ below (va_Qv post (zB w) (zA w)) ([.ref (zad w k), .ref (zad w t1), .int a2, .int a3] : List Value).toArray s 0 0 (zA w)) (F0 m 0 ls []) := by
    intro H locs ls hW hl
    refine lv_aload_n hx hb dX9_copyPacesOf_0 rfl (lv_at hl 1 rfl) ?_
    refine zg_Told_paces X hW h1 zu_65 dX9_copyPacesOf_1 ?_
    refine lv_iload_n hx hb dX9_copyPacesOf_4 rfl (lv_at hl 2 rfl) ?_
    refine lv_bipush hx hb dX9_copyPacesOf_5 zc_b8 ?_
    refine lv_imul hx hb dX9_copyPacesOf_7 ?_
    refine lv_aload_n hx hb dX9_copyPacesOf_8 rfl (lv_at hl 0 rfl) ?_
    refine zg_Told_paces X hW h0 zu_65 dX9_copyPacesOf_9 ?_
    refine lv_iload_n hx hb dX9_copyPacesOf_12 rfl (lv_at hl 3 rfl) ?_
    refine lv_bipush hx hb dX9_copyPacesOf_13 zc_b8 ?_
    refine lv_imul hx hb dX9_copyPacesOf_15 ?_
    refine lv_bipush hx hb dX9_copyPacesOf_16 zc_b8 ?_
    obtain ⟨g, h⟩ := h
    refine zcopy X hml hl hW h1.2.2.2.1 h0.2.2.2.1 zu_682 g ⟨Nat.le_of_ble_eq_true rfl, Nat.le_of_ble_eq_true rfl⟩ dX9_copyPacesOf_18 (fun H locs zm1 ezm1 hW => ?_)
    replace h := h zm1 ezm1
    exact zretv X hr hlk hW h dX9_copyPacesOf_21
  exact zMain s.heap [] ls hW hl
def wpB_Told_dropHand_2 (k : Nat) (a1 : Int32)   (Q : zMem → Prop) (J : Int32 → zMem → Prop) (x_2 : Int32) (M : zMem) : Prop :=
  (((M k 1) - 1) ≤ x_2 → ∀ zm1 : zMem, zm1 = zup M k 1 ((M k 1) - 1) → wp_Told_fillEnds k zm1 (fun zm2 => Q zm2)) ∧ (¬ ((M k 1) - 1) ≤ x_2 → wp_Told_copyPacesOf k k (x_2 + 1) x_2 M (fun zm4 => vp_in (x_2 + 1) 5 ∧ vp_in x_2 5 ∧ ∀ zm6 : zMem, zm6 = zup zm4 (k + 4) (ix x_2) (zm4 (k + 4) (ix (x_2 + 1))) → ∀ zx7 : Int32, zx7 = x_2 + 1 → J zx7 zm6))
def wp_Told_dropHand (k : Nat) (a1 : Int32) (M : zMem) (Q : zMem → Prop) : Prop :=
  ∃ n : Nat, zlp1 (wpB_Told_dropHand_2 k a1   Q) n a1 M
set_option maxHeartbeats 4000000 in
set_option maxRecDepth 20000 in
theorem c_Told_dropHand {l : Launch} {w : zWd} {k : Nat} {a1 : Int32} {M : zMem} {post : zMem → Prop} (h0 : zI_Told w k) (h : wp_Told_dropHand k a1 M post) : zMv l ⟨"HandToHand$Told", "dropHand", "(I)V"⟩ prog_11_method_7_code 3 none 2 53 w [.ref (zad w k), .int a1] M post := by
  refine zMet (by decide) (Nat.le_of_ble_eq_true rfl) ?_
  intro p e s m below meth c X hr hlk hml hW ls hl
  have hx := X.1
  have hb := X.2.1
  have hl : lv_has ls 3 [(0, .ref (zad w k)), (1, .int a1)] := hl
  have zL_2 :  ∀ (n : Nat) (x_2 : Int32) (M : zMem) (H : Heap) (locs : List Loc) (ls : Array Slot), zWo w s.heap M H locs → lv_has ls 3 [(0, .ref (zad w k)), (2, .int x_2)] → zlp1 (wpB_Told_dropHand_2 k a1   post) n x_2 M → W p l e (zRm 2 53) s m ([.ref (zad w k), .int a1] : List Value).toArray below meth c H locs 0 0 (MQ below (va_Qv post (zB w) (zA w)) ([.ref (zad w k), .int a1] : List Value).toArray s 0 0 (zA w)) (F0 m 2 ls []) := by
    intro n
    induction n with
    | zero => intro x_2 M H locs ls hW hl h; exact h.elim
    | succ n zJ =>
      intro x_2 M H locs ls hW hl h
      have h : wpB_Told_dropHand_2 k a1   post (zlp1 (wpB_Told_dropHand_2 k a1   post) n) x_2 M := h
      unfold wpB_Told_dropHand_2 at h
      refine lv_iload_n hx hb dX9_dropHand_2 rfl (lv_at hl 1 rfl) ?_
      refine lv_aload_n hx hb dX9_dropHand_3 rfl (lv_at hl 0 rfl) ?_
      refine zg_Told_hands X hW h0 zu_37 dX9_dropHand_4 ?_
      refine lv_iconst hx hb dX9_dropHand_7 zc_i1 ?_
      refine lv_isub hx hb dX9_dropHand_8 ?_
      refine lv_icmp_ge (tgt := 41) hx hb dX9_dropHand_9 rfl (fun c => ?_) (fun c => ?_)
      · replace h := h.1 c
        refine lv_aload_n hx hb dX9_dropHand_41 rfl (lv_at hl 0 rfl) ?_
        refine lv_dup hx hb dX9_dropHand_42 rfl ?_
        refine zg_Told_hands X hW h0 zu_37 dX9_dropHand_43 ?_
        refine lv_iconst hx hb dX9_dropHand_46 zc_i1 ?_
        refine lv_isub hx hb dX9_dropHand_47 ?_
        refine zp_Told_hands X hW h0 zu_37 dX9_dropHand_48 (fun H locs zm1 ezm1 hW => ?_)
        replace h := h zm1 ezm1
        refine lv_aload_n hx hb dX9_dropHand_51 rfl (lv_at hl 0 rfl) ?_
        refine zcallv (zrunV (As := []) (rest := []) X hml hl hW h0.1 rfl zk_Told_49 (c_Told_fillEnds h0 h) rfl ⟨Nat.le_of_ble_eq_true rfl, Nat.le_of_ble_eq_true rfl⟩ ⟨Nat.le_refl 0, Nat.le_refl 0⟩ rfl (Nat.le_of_ble_eq_true rfl) dX9_dropHand_52) hW (fun zm2 H locs h hW => ?_)
        exact zretv X hr hlk hW h dX9_dropHand_55
      · replace h := h.2 c
        refine lv_aload_n hx hb dX9_dropHand_12 rfl (lv_at hl 0 rfl) ?_
        refine lv_aload_n hx hb dX9_dropHand_13 rfl (lv_at hl 0 rfl) ?_
        refine lv_iload_n hx hb dX9_dropHand_14 rfl (lv_at hl 1 rfl) ?_
        refine lv_iconst hx hb dX9_dropHand_15 zc_i1 ?_
        refine lv_iadd hx hb dX9_dropHand_16 ?_
        refine lv_iload_n hx hb dX9_dropHand_17 rfl (lv_at hl 1 rfl) ?_
        refine zcallv (zrunV (As := [.ref (zad w k), .int (x_2 + 1), .int x_2]) (rest := []) X hml hl hW h0.1 rfl zk_Told_58 (c_Told_copyPacesOf h0 h0 h) rfl ⟨Nat.le_of_ble_eq_true rfl, Nat.le_of_ble_eq_true rfl⟩ ⟨Nat.le_refl 0, Nat.le_refl 0⟩ rfl (Nat.le_of_ble_eq_true rfl) dX9_dropHand_18) hW (fun zm4 H locs h hW => ?_)
        refine lv_aload_n hx hb dX9_dropHand_21 rfl (lv_at hl 0 rfl) ?_
        refine zg_Told_ends X hW h0 zu_68 dX9_dropHand_22 ?_
        refine lv_iload_n hx hb dX9_dropHand_25 rfl (lv_at hl 1 rfl) ?_
        refine lv_aload_n hx hb dX9_dropHand_26 rfl (lv_at hl 0 rfl) ?_
        refine zg_Told_ends X hW h0 zu_68 dX9_dropHand_27 ?_
        refine lv_iload_n hx hb dX9_dropHand_30 rfl (lv_at hl 1 rfl) ?_
        refine lv_iconst hx hb dX9_dropHand_31 zc_i1 ?_
        refine lv_iadd hx hb dX9_dropHand_32 ?_
        obtain ⟨g, h⟩ := h
        refine ziald X hW h0.2.2.2.2 g dX9_dropHand_33 ?_
        obtain ⟨g, h⟩ := h
        refine ziast X hW h0.2.2.2.2 g dX9_dropHand_34 (fun H locs zm6 ezm6 hW => ?_)
        replace h := h zm6 ezm6
        obtain ⟨zx7, ezx7⟩ : ∃ y : Int32, y = x_2 + 1 := ⟨_, rfl⟩
        replace h := h zx7 ezx7
        refine lv_iinc (v := zx7) (lv' := [(2, .int zx7), (0, .ref (zad w k))]) hx hb dX9_dropHand_35 hl (k := 1) rfl (by rw [ezx7, zc_i1]) (Nat.le_of_ble_eq_true rfl) rfl (fun ls hl => ?_)
        refine lv_goto (tgt := 2) hx hb dX9_dropHand_38 rfl ?_
        exact zJ zx7 zm6 H locs ls hW (lv_sub hl [1, 0] rfl) h
  unfold wp_Told_dropHand at h
  have zMain : ∀ (H : Heap) (locs : List Loc) (ls : Array Slot), zWo w s.heap M H locs → lv_has ls 3 [(0, .ref (zad w k)), (1, .int a1)] → W p l e (zRm 2 53) s m ([.ref (zad w k), .int a1] : List Value).toArray below meth c H locs 0 0 (MQ below (va_Qv post (zB w) (zA w)) ([.ref (zad w k), .int a1] : List Value).toArray s 0 0 (zA w)) (F0 m 0 ls []) := by
    intro H locs ls hW hl
    refine lv_iload_n hx hb dX9_dropHand_0 rfl (lv_at hl 1 rfl) ?_
    refine lv_istore_n (lv' := [(2, .int a1), (0, .ref (zad w k)), (1, .int a1)]) hx hb dX9_dropHand_1 rfl hl (Nat.le_of_ble_eq_true rfl) rfl (fun ls hl => ?_)
    obtain ⟨n, h⟩ := h
    refine zL_2   n a1 M H locs ls hW (lv_sub hl [1, 0] rfl) h
  exact zMain s.heap [] ls hW hl
def wpB_Told_moveEnds_7 (k : Nat)  (K35 : Int32 → zMem → Prop) (Q : Int32 → zMem → Prop) (J : Int32 → zMem → Prop) (x_1 : Int32) (M : zMem) : Prop :=
  (x_1 < 0 → Q 0 M) ∧ (¬ x_1 < 0 → ∀ zx2 : Int32, zx2 = (M k 0) - (((M k 1) - 1) - x_1) → vp_in x_1 5 ∧ (zx2 ≤ (M (k + 4) (ix x_1)) → ∀ zx3 : Int32, zx3 = x_1 + (-1) → J zx3 M) ∧ (¬ zx2 ≤ (M (k + 4) (ix x_1)) → K35 x_1 M))
def wpB_Told_moveEnds_49 (k : Nat)   (Q : Int32 → zMem → Prop) (J : Int32 → zMem → Prop) (x_3 : Int32) (M : zMem) : Prop :=
  (((M k 1) - 1) ≤ x_3 → Q 1 M) ∧ (¬ ((M k 1) - 1) ≤ x_3 → vp_in (x_3 - 1) 5 ∧ vp_in x_3 5 ∧ ∀ zm8 : zMem, zm8 = zup M (k + 4) (ix x_3) ((M (k + 4) (ix (x_3 - 1))) + 1) → ∀ zx9 : Int32, zx9 = x_3 + 1 → J zx9 zm8)
def wp_Told_moveEnds (k : Nat) (M : zMem) (Q : Int32 → zMem → Prop) : Prop :=
  ∀ zx1 : Int32, zx1 = (M k 1) - 2 → ∃ n : Nat, zlp1 (wpB_Told_moveEnds_7 k  (fun (zx5 : Int32) (zm4 : zMem) => vp_in zx5 5 ∧ vp_in zx5 5 ∧ ∀ zm6 : zMem, zm6 = zup zm4 (k + 4) (ix zx5) ((zm4 (k + 4) (ix zx5)) + 1) → ∀ zx7 : Int32, zx7 = zx5 + 1 → ∃ n : Nat, zlp1 (wpB_Told_moveEnds_49 k   Q) n zx7 zm6) Q) n zx1 M
set_option maxHeartbeats 4000000 in
set_option maxRecDepth 20000 in
theorem c_Told_moveEnds {l : Launch} {w : zWd} {k : Nat} {M : zMem} {post : Int32 → zMem → Prop} (h0 : zI_Told w k) (h : wp_Told_moveEnds k M post) : zMi l ⟨"HandToHand$Told", "moveEnds", "()Z"⟩ prog_11_method_8_code 4 (Option.some .boolean) 0 0 w [.ref (zad w k)] M post := by
  refine zMet (by decide) (Nat.le_of_ble_eq_true rfl) ?_
  intro p e s m below meth c X hr hlk hml hW ls hl
  have hx := X.1
  have hb := X.2.1
  have hl : lv_has ls 4 [(0, .ref (zad w k))] := hl
  have zL_7 : ∀ (K35 : Int32 → zMem → Prop) (zK35 : ∀ (y_1 : Int32) (M : zMem) (H : Heap) (locs : List Loc) (ls : Array Slot), zWo w s.heap M H locs → lv_has ls 4 [(0, .ref (zad w k)), (1, .int y_1)] → K35 y_1 M → W p l e (zRm 0 0) s m ([.ref (zad w k)] : List Value).toArray below meth c H locs 0 0 (MQ below (va_Qi post (zB w) (zA w)) ([.ref (zad w k)] : List Value).toArray s 0 0 (zA w)) (F0 m 35 ls [])), ∀ (n : Nat) (x_1 : Int32) (M : zMem) (H : Heap) (locs : List Loc) (ls : Array Slot), zWo w s.heap M H locs → lv_has ls 4 [(0, .ref (zad w k)), (1, .int x_1)] → zlp1 (wpB_Told_moveEnds_7 k  K35 post) n x_1 M → W p l e (zRm 0 0) s m ([.ref (zad w k)] : List Value).toArray below meth c H locs 0 0 (MQ below (va_Qi post (zB w) (zA w)) ([.ref (zad w k)] : List Value).toArray s 0 0 (zA w)) (F0 m 7 ls []) := by
    intro K35 zK35 n
    induction n with
    | zero => intro x_1 M H locs ls hW hl h; exact h.elim
    | succ n zJ =>
      intro x_1 M H locs ls hW hl h
      have h : wpB_Told_moveEnds_7 k  K35 post (zlp1 (wpB_Told_moveEnds_7 k  K35 post) n) x_1 M := h
      unfold wpB_Told_moveEnds_7 at h
      refine lv_iload_n hx hb dX9_moveEnds_7 rfl (lv_at hl 1 rfl) ?_
      refine lv_if_lt (tgt := 89) hx hb dX9_moveEnds_8 rfl (fun c => ?_) (fun c => ?_)
      · replace h := h.1 c
        refine lv_iconst hx hb dX9_moveEnds_89 zc_i0 ?_
        exact zretz X hr hlk hW rfl h dX9_moveEnds_90
      · replace h := h.2 c
        refine lv_aload_n hx hb dX9_moveEnds_11 rfl (lv_at hl 0 rfl) ?_
        refine zg_Told_pieces X hW h0 zu_32 dX9_moveEnds_12 ?_
        refine lv_aload_n hx hb dX9_moveEnds_15 rfl (lv_at hl 0 rfl) ?_
        refine zg_Told_hands X hW h0 zu_37 dX9_moveEnds_16 ?_
        refine lv_iconst hx hb dX9_moveEnds_19 zc_i1 ?_
        refine lv_isub hx hb dX9_moveEnds_20 ?_
        refine lv_iload_n hx hb dX9_moveEnds_21 rfl (lv_at hl 1 rfl) ?_
        refine lv_isub hx hb dX9_moveEnds_22 ?_
        refine lv_isub hx hb dX9_moveEnds_23 ?_
        refine lv_topi (fun zx2 ezx2 => ?_)
        replace h := h zx2 ezx2
        refine lv_istore_n (lv' := [(2, .int zx2), (0, .ref (zad w k)), (1, .int x_1)]) hx hb dX9_moveEnds_24 rfl hl (Nat.le_of_ble_eq_true rfl) rfl (fun ls hl => ?_)
        refine lv_aload_n hx hb dX9_moveEnds_25 rfl (lv_at hl 1 rfl) ?_
        refine zg_Told_ends X hW h0 zu_68 dX9_moveEnds_26 ?_
        refine lv_iload_n hx hb dX9_moveEnds_29 rfl (lv_at hl 2 rfl) ?_
        obtain ⟨g, h⟩ := h
        refine ziald X hW h0.2.2.2.2 g dX9_moveEnds_30 ?_
        refine lv_iload_n hx hb dX9_moveEnds_31 rfl (lv_at hl 0 rfl) ?_
        refine lv_icmp_ge (tgt := 83) hx hb dX9_moveEnds_32 rfl (fun c => ?_) (fun c => ?_)
        · replace h := h.1 c
          obtain ⟨zx3, ezx3⟩ : ∃ y : Int32, y = x_1 + (-1) := ⟨_, rfl⟩
          replace h := h zx3 ezx3
          refine lv_iinc (v := zx3) (lv' := [(1, .int zx3), (2, .int zx2), (0, .ref (zad w k))]) hx hb dX9_moveEnds_83 hl (k := 2) rfl (by rw [ezx3, zc_im1]) (Nat.le_of_ble_eq_true rfl) rfl (fun ls hl => ?_)
          refine lv_goto (tgt := 7) hx hb dX9_moveEnds_86 rfl ?_
          exact zJ zx3 M H locs ls hW (lv_sub hl [2, 0] rfl) h
        · replace h := h.2 c
          exact zK35 x_1 M H locs ls hW (lv_sub hl [1, 2] rfl) h
  have zL_49 :  ∀ (n : Nat) (x_3 : Int32) (M : zMem) (H : Heap) (locs : List Loc) (ls : Array Slot), zWo w s.heap M H locs → lv_has ls 4 [(0, .ref (zad w k)), (3, .int x_3)] → zlp1 (wpB_Told_moveEnds_49 k   post) n x_3 M → W p l e (zRm 0 0) s m ([.ref (zad w k)] : List Value).toArray below meth c H locs 0 0 (MQ below (va_Qi post (zB w) (zA w)) ([.ref (zad w k)] : List Value).toArray s 0 0 (zA w)) (F0 m 49 ls []) := by
    intro n
    induction n with
    | zero => intro x_3 M H locs ls hW hl h; exact h.elim
    | succ n zJ =>
      intro x_3 M H locs ls hW hl h
      have h : wpB_Told_moveEnds_49 k   post (zlp1 (wpB_Told_moveEnds_49 k   post) n) x_3 M := h
      unfold wpB_Told_moveEnds_49 at h
      refine lv_iload_n hx hb dX9_moveEnds_49 rfl (lv_at hl 1 rfl) ?_
      refine lv_aload_n hx hb dX9_moveEnds_50 rfl (lv_at hl 0 rfl) ?_
      refine zg_Told_hands X hW h0 zu_37 dX9_moveEnds_51 ?_
      refine lv_iconst hx hb dX9_moveEnds_54 zc_i1 ?_
      refine lv_isub hx hb dX9_moveEnds_55 ?_
      refine lv_icmp_ge (tgt := 81) hx hb dX9_moveEnds_56 rfl (fun c => ?_) (fun c => ?_)
      · replace h := h.1 c
        refine lv_iconst hx hb dX9_moveEnds_81 zc_i1 ?_
        exact zretz X hr hlk hW rfl h dX9_moveEnds_82
      · replace h := h.2 c
        refine lv_aload_n hx hb dX9_moveEnds_59 rfl (lv_at hl 0 rfl) ?_
        refine zg_Told_ends X hW h0 zu_68 dX9_moveEnds_60 ?_
        refine lv_iload_n hx hb dX9_moveEnds_63 rfl (lv_at hl 1 rfl) ?_
        refine lv_aload_n hx hb dX9_moveEnds_64 rfl (lv_at hl 0 rfl) ?_
        refine zg_Told_ends X hW h0 zu_68 dX9_moveEnds_65 ?_
        refine lv_iload_n hx hb dX9_moveEnds_68 rfl (lv_at hl 1 rfl) ?_
        refine lv_iconst hx hb dX9_moveEnds_69 zc_i1 ?_
        refine lv_isub hx hb dX9_moveEnds_70 ?_
        obtain ⟨g, h⟩ := h
        refine ziald X hW h0.2.2.2.2 g dX9_moveEnds_71 ?_
        refine lv_iconst hx hb dX9_moveEnds_72 zc_i1 ?_
        refine lv_iadd hx hb dX9_moveEnds_73 ?_
        obtain ⟨g, h⟩ := h
        refine ziast X hW h0.2.2.2.2 g dX9_moveEnds_74 (fun H locs zm8 ezm8 hW => ?_)
        replace h := h zm8 ezm8
        obtain ⟨zx9, ezx9⟩ : ∃ y : Int32, y = x_3 + 1 := ⟨_, rfl⟩
        replace h := h zx9 ezx9
        refine lv_iinc (v := zx9) (lv' := [(3, .int zx9), (0, .ref (zad w k))]) hx hb dX9_moveEnds_75 hl (k := 1) rfl (by rw [ezx9, zc_i1]) (Nat.le_of_ble_eq_true rfl) rfl (fun ls hl => ?_)
        refine lv_goto (tgt := 49) hx hb dX9_moveEnds_78 rfl ?_
        exact zJ zx9 zm8 H locs ls hW (lv_sub hl [1, 0] rfl) h
  unfold wp_Told_moveEnds at h
  have zMain : ∀ (H : Heap) (locs : List Loc) (ls : Array Slot), zWo w s.heap M H locs → lv_has ls 4 [(0, .ref (zad w k))] → W p l e (zRm 0 0) s m ([.ref (zad w k)] : List Value).toArray below meth c H locs 0 0 (MQ below (va_Qi post (zB w) (zA w)) ([.ref (zad w k)] : List Value).toArray s 0 0 (zA w)) (F0 m 0 ls []) := by
    intro H locs ls hW hl
    refine lv_aload_n hx hb dX9_moveEnds_0 rfl (lv_at hl 0 rfl) ?_
    refine zg_Told_hands X hW h0 zu_37 dX9_moveEnds_1 ?_
    refine lv_iconst hx hb dX9_moveEnds_4 zc_i2 ?_
    refine lv_isub hx hb dX9_moveEnds_5 ?_
    refine lv_topi (fun zx1 ezx1 => ?_)
    replace h := h zx1 ezx1
    refine lv_istore_n (lv' := [(1, .int zx1), (0, .ref (zad w k))]) hx hb dX9_moveEnds_6 rfl hl (Nat.le_of_ble_eq_true rfl) rfl (fun ls hl => ?_)
    obtain ⟨n, h⟩ := h
    refine zL_7  _ (fun zx5 zm4 H locs ls hW hl h => ?_) n zx1 M H locs ls hW (lv_sub hl [1, 0] rfl) h
    · skip
      refine lv_aload_n hx hb dX9_moveEnds_35 rfl (lv_at hl 0 rfl) ?_
      refine zg_Told_ends X hW h0 zu_68 dX9_moveEnds_36 ?_
      refine lv_iload_n hx hb dX9_moveEnds_39 rfl (lv_at hl 1 rfl) ?_
      refine lv_dup2_11 hx hb dX9_moveEnds_40 rfl rfl ?_
      obtain ⟨g, h⟩ := h
      refine ziald X hW h0.2.2.2.2 g dX9_moveEnds_41 ?_
      refine lv_iconst hx hb dX9_moveEnds_42 zc_i1 ?_
      refine lv_iadd hx hb dX9_moveEnds_43 ?_
      obtain ⟨g, h⟩ := h
      refine ziast X hW h0.2.2.2.2 g dX9_moveEnds_44 (fun H locs zm6 ezm6 hW => ?_)
      replace h := h zm6 ezm6
      refine lv_iload_n hx hb dX9_moveEnds_45 rfl (lv_at hl 1 rfl) ?_
      refine lv_iconst hx hb dX9_moveEnds_46 zc_i1 ?_
      refine lv_iadd hx hb dX9_moveEnds_47 ?_
      refine lv_topi (fun zx7 ezx7 => ?_)
      replace h := h zx7 ezx7
      refine lv_istore_n (lv' := [(3, .int zx7), (0, .ref (zad w k)), (1, .int zx5)]) hx hb dX9_moveEnds_48 rfl hl (Nat.le_of_ble_eq_true rfl) rfl (fun ls hl => ?_)
      obtain ⟨n, h⟩ := h
      refine zL_49   n zx7 zm6 H locs ls hW (lv_sub hl [1, 0] rfl) h
  exact zMain s.heap [] ls hW hl
def wp_Told_unitsOf (k : Nat) (a1 : Int32) (a2 : Int32) (M : zMem) (Q : Int32 → zMem → Prop) : Prop :=
  vp_in ((a1 * 8) + a2) 24 ∧ Q (M (k + 2) (ix ((a1 * 8) + a2))) M
set_option maxHeartbeats 4000000 in
set_option maxRecDepth 20000 in
theorem c_Told_unitsOf {l : Launch} {w : zWd} {k : Nat} {a1 : Int32} {a2 : Int32} {M : zMem} {post : Int32 → zMem → Prop} (h0 : zI_Told w k) (h : wp_Told_unitsOf k a1 a2 M post) : zMi l ⟨"HandToHand$Told", "unitsOf", "(II)I"⟩ prog_11_method_9_code 3 (Option.some .int) 0 0 w [.ref (zad w k), .int a1, .int a2] M post := by
  refine zMet (by decide) (Nat.le_of_ble_eq_true rfl) ?_
  intro p e s m below meth c X hr hlk hml hW ls hl
  have hx := X.1
  have hb := X.2.1
  have hl : lv_has ls 3 [(0, .ref (zad w k)), (1, .int a1), (2, .int a2)] := hl
  unfold wp_Told_unitsOf at h
  have zMain : ∀ (H : Heap) (locs : List Loc) (ls : Array Slot), zWo w s.heap M H locs → lv_has ls 3 [(0, .ref (zad w k)), (1, .int a1), (2, .int a2)] → W p l e (zRm 0 0) s m ([.ref (zad w k), .int a1, .int a2] : List Value).toArray below meth c H locs 0 0 (MQ below (va_Qi post (zB w) (zA w)) ([.ref (zad w k), .int a1, .int a2] : List Value).toArray s 0 0 (zA w)) (F0 m 0 ls []) := by
    intro H locs ls hW hl
    refine lv_aload_n hx hb dX9_unitsOf_0 rfl (lv_at hl 0 rfl) ?_
    refine zg_Told_units X hW h0 zu_63 dX9_unitsOf_1 ?_
    refine lv_iload_n hx hb dX9_unitsOf_4 rfl (lv_at hl 1 rfl) ?_
    refine lv_bipush hx hb dX9_unitsOf_5 zc_b8 ?_
    refine lv_imul hx hb dX9_unitsOf_7 ?_
    refine lv_iload_n hx hb dX9_unitsOf_8 rfl (lv_at hl 2 rfl) ?_
    refine lv_iadd hx hb dX9_unitsOf_9 ?_
    obtain ⟨g, h⟩ := h
    refine ziald X hW h0.2.2.1 g dX9_unitsOf_10 ?_
    exact zreti X hr hlk hW h dX9_unitsOf_11
  exact zMain s.heap [] ls hW hl
def wp_Told_paceOf (k : Nat) (a1 : Int32) (a2 : Int32) (M : zMem) (Q : Int32 → zMem → Prop) : Prop :=
  vp_in ((a1 * 8) + a2) 40 ∧ Q (M (k + 3) (ix ((a1 * 8) + a2))) M
set_option maxHeartbeats 4000000 in
set_option maxRecDepth 20000 in
theorem c_Told_paceOf {l : Launch} {w : zWd} {k : Nat} {a1 : Int32} {a2 : Int32} {M : zMem} {post : Int32 → zMem → Prop} (h0 : zI_Told w k) (h : wp_Told_paceOf k a1 a2 M post) : zMi l ⟨"HandToHand$Told", "paceOf", "(II)I"⟩ prog_11_method_10_code 3 (Option.some .int) 0 0 w [.ref (zad w k), .int a1, .int a2] M post := by
  refine zMet (by decide) (Nat.le_of_ble_eq_true rfl) ?_
  intro p e s m below meth c X hr hlk hml hW ls hl
  have hx := X.1
  have hb := X.2.1
  have hl : lv_has ls 3 [(0, .ref (zad w k)), (1, .int a1), (2, .int a2)] := hl
  unfold wp_Told_paceOf at h
  have zMain : ∀ (H : Heap) (locs : List Loc) (ls : Array Slot), zWo w s.heap M H locs → lv_has ls 3 [(0, .ref (zad w k)), (1, .int a1), (2, .int a2)] → W p l e (zRm 0 0) s m ([.ref (zad w k), .int a1, .int a2] : List Value).toArray below meth c H locs 0 0 (MQ below (va_Qi post (zB w) (zA w)) ([.ref (zad w k), .int a1, .int a2] : List Value).toArray s 0 0 (zA w)) (F0 m 0 ls []) := by
    intro H locs ls hW hl
    refine lv_aload_n hx hb dX9_paceOf_0 rfl (lv_at hl 0 rfl) ?_
    refine zg_Told_paces X hW h0 zu_65 dX9_paceOf_1 ?_
    refine lv_iload_n hx hb dX9_paceOf_4 rfl (lv_at hl 1 rfl) ?_
    refine lv_bipush hx hb dX9_paceOf_5 zc_b8 ?_
    refine lv_imul hx hb dX9_paceOf_7 ?_
    refine lv_iload_n hx hb dX9_paceOf_8 rfl (lv_at hl 2 rfl) ?_
    refine lv_iadd hx hb dX9_paceOf_9 ?_
    obtain ⟨g, h⟩ := h
    refine ziald X hW h0.2.2.2.1 g dX9_paceOf_10 ?_
    exact zreti X hr hlk hW h dX9_paceOf_11
  exact zMain s.heap [] ls hW hl
def wpB_Told_pieceFrom_2 (k : Nat) (a1 : Int32) (a2 : Int32)   (Q : Int32 → zMem → Prop) (J : Int32 → zMem → Prop) (x_3 : Int32) (M : zMem) : Prop :=
  ((M k 0) ≤ x_3 → Q (M k 0) M) ∧ (¬ (M k 0) ≤ x_3 → vp_in ((a2 * 8) + x_3) 24 ∧ ((M (k + 2) (ix ((a2 * 8) + x_3))) ≤ 0 → ∀ zx1 : Int32, zx1 = x_3 + 1 → J zx1 M) ∧ (¬ (M (k + 2) (ix ((a2 * 8) + x_3))) ≤ 0 → Q x_3 M))
def wp_Told_pieceFrom (k : Nat) (a1 : Int32) (a2 : Int32) (M : zMem) (Q : Int32 → zMem → Prop) : Prop :=
  ∃ n : Nat, zlp1 (wpB_Told_pieceFrom_2 k a1 a2   Q) n a1 M
set_option maxHeartbeats 4000000 in
set_option maxRecDepth 20000 in
theorem c_Told_pieceFrom {l : Launch} {w : zWd} {k : Nat} {a1 : Int32} {a2 : Int32} {M : zMem} {post : Int32 → zMem → Prop} (h0 : zI_Told w k) (h : wp_Told_pieceFrom k a1 a2 M post) : zMi l ⟨"HandToHand$Told", "pieceFrom", "(II)I"⟩ prog_11_method_11_code 4 (Option.some .int) 0 0 w [.ref (zad w k), .int a1, .int a2] M post := by
  refine zMet (by decide) (Nat.le_of_ble_eq_true rfl) ?_
  intro p e s m below meth c X hr hlk hml hW ls hl
  have hx := X.1
  have hb := X.2.1
  have hl : lv_has ls 4 [(0, .ref (zad w k)), (1, .int a1), (2, .int a2)] := hl
  have zL_2 :  ∀ (n : Nat) (x_3 : Int32) (M : zMem) (H : Heap) (locs : List Loc) (ls : Array Slot), zWo w s.heap M H locs → lv_has ls 4 [(0, .ref (zad w k)), (2, .int a2), (3, .int x_3)] → zlp1 (wpB_Told_pieceFrom_2 k a1 a2   post) n x_3 M → W p l e (zRm 0 0) s m ([.ref (zad w k), .int a1, .int a2] : List Value).toArray below meth c H locs 0 0 (MQ below (va_Qi post (zB w) (zA w)) ([.ref (zad w k), .int a1, .int a2] : List Value).toArray s 0 0 (zA w)) (F0 m 2 ls []) := by
    intro n
    induction n with
    | zero => intro x_3 M H locs ls hW hl h; exact h.elim
    | succ n zJ =>
      intro x_3 M H locs ls hW hl h
      have h : wpB_Told_pieceFrom_2 k a1 a2   post (zlp1 (wpB_Told_pieceFrom_2 k a1 a2   post) n) x_3 M := h
      unfold wpB_Told_pieceFrom_2 at h
      refine lv_iload_n hx hb dX9_pieceFrom_2 rfl (lv_at hl 2 rfl) ?_
      refine lv_aload_n hx hb dX9_pieceFrom_3 rfl (lv_at hl 0 rfl) ?_
      refine zg_Told_pieces X hW h0 zu_32 dX9_pieceFrom_4 ?_
      refine lv_icmp_ge (tgt := 32) hx hb dX9_pieceFrom_7 rfl (fun c => ?_) (fun c => ?_)
      · replace h := h.1 c
        refine lv_aload_n hx hb dX9_pieceFrom_32 rfl (lv_at hl 0 rfl) ?_
        refine zg_Told_pieces X hW h0 zu_32 dX9_pieceFrom_33 ?_
        exact zreti X hr hlk hW h dX9_pieceFrom_36
      · replace h := h.2 c
        refine lv_aload_n hx hb dX9_pieceFrom_10 rfl (lv_at hl 0 rfl) ?_
        refine zg_Told_units X hW h0 zu_63 dX9_pieceFrom_11 ?_
        refine lv_iload_n hx hb dX9_pieceFrom_14 rfl (lv_at hl 1 rfl) ?_
        refine lv_bipush hx hb dX9_pieceFrom_15 zc_b8 ?_
        refine lv_imul hx hb dX9_pieceFrom_17 ?_
        refine lv_iload_n hx hb dX9_pieceFrom_18 rfl (lv_at hl 2 rfl) ?_
        refine lv_iadd hx hb dX9_pieceFrom_19 ?_
        obtain ⟨g, h⟩ := h
        refine ziald X hW h0.2.2.1 g dX9_pieceFrom_20 ?_
        refine lv_if_le (tgt := 26) hx hb dX9_pieceFrom_21 rfl (fun c => ?_) (fun c => ?_)
        · replace h := h.1 c
          obtain ⟨zx1, ezx1⟩ : ∃ y : Int32, y = x_3 + 1 := ⟨_, rfl⟩
          replace h := h zx1 ezx1
          refine lv_iinc (v := zx1) (lv' := [(3, .int zx1), (0, .ref (zad w k)), (2, .int a2)]) hx hb dX9_pieceFrom_26 hl (k := 2) rfl (by rw [ezx1, zc_i1]) (Nat.le_of_ble_eq_true rfl) rfl (fun ls hl => ?_)
          refine lv_goto (tgt := 2) hx hb dX9_pieceFrom_29 rfl ?_
          exact zJ zx1 M H locs ls hW (lv_sub hl [1, 2, 0] rfl) h
        · replace h := h.2 c
          refine lv_iload_n hx hb dX9_pieceFrom_24 rfl (lv_at hl 2 rfl) ?_
          exact zreti X hr hlk hW h dX9_pieceFrom_25
  unfold wp_Told_pieceFrom at h
  have zMain : ∀ (H : Heap) (locs : List Loc) (ls : Array Slot), zWo w s.heap M H locs → lv_has ls 4 [(0, .ref (zad w k)), (1, .int a1), (2, .int a2)] → W p l e (zRm 0 0) s m ([.ref (zad w k), .int a1, .int a2] : List Value).toArray below meth c H locs 0 0 (MQ below (va_Qi post (zB w) (zA w)) ([.ref (zad w k), .int a1, .int a2] : List Value).toArray s 0 0 (zA w)) (F0 m 0 ls []) := by
    intro H locs ls hW hl
    refine lv_iload_n hx hb dX9_pieceFrom_0 rfl (lv_at hl 1 rfl) ?_
    refine lv_istore_n (lv' := [(3, .int a1), (0, .ref (zad w k)), (1, .int a1), (2, .int a2)]) hx hb dX9_pieceFrom_1 rfl hl (Nat.le_of_ble_eq_true rfl) rfl (fun ls hl => ?_)
    obtain ⟨n, h⟩ := h
    refine zL_2   n a1 M H locs ls hW (lv_sub hl [1, 3, 0] rfl) h
  exact zMain s.heap [] ls hW hl
def wp_Told_mayBegin (k : Nat) (a1 : Int32) (a2 : Int32) (M : zMem) (Q : Int32 → zMem → Prop) : Prop :=
  vp_in a1 5 ∧ ((M (k + 4) (ix a1)) ≤ a2 → Q 0 M) ∧ (¬ (M (k + 4) (ix a1)) ≤ a2 → Q 1 M)
set_option maxHeartbeats 4000000 in
set_option maxRecDepth 20000 in
theorem c_Told_mayBegin {l : Launch} {w : zWd} {k : Nat} {a1 : Int32} {a2 : Int32} {M : zMem} {post : Int32 → zMem → Prop} (h0 : zI_Told w k) (h : wp_Told_mayBegin k a1 a2 M post) : zMi l ⟨"HandToHand$Told", "mayBegin", "(II)Z"⟩ prog_11_method_12_code 3 (Option.some .boolean) 0 0 w [.ref (zad w k), .int a1, .int a2] M post := by
  refine zMet (by decide) (Nat.le_of_ble_eq_true rfl) ?_
  intro p e s m below meth c X hr hlk hml hW ls hl
  have hx := X.1
  have hb := X.2.1
  have hl : lv_has ls 3 [(0, .ref (zad w k)), (1, .int a1), (2, .int a2)] := hl
  unfold wp_Told_mayBegin at h
  have zMain : ∀ (H : Heap) (locs : List Loc) (ls : Array Slot), zWo w s.heap M H locs → lv_has ls 3 [(0, .ref (zad w k)), (1, .int a1), (2, .int a2)] → W p l e (zRm 0 0) s m ([.ref (zad w k), .int a1, .int a2] : List Value).toArray below meth c H locs 0 0 (MQ below (va_Qi post (zB w) (zA w)) ([.ref (zad w k), .int a1, .int a2] : List Value).toArray s 0 0 (zA w)) (F0 m 0 ls []) := by
    intro H locs ls hW hl
    refine lv_iload_n hx hb dX9_mayBegin_0 rfl (lv_at hl 2 rfl) ?_
    refine lv_aload_n hx hb dX9_mayBegin_1 rfl (lv_at hl 0 rfl) ?_
    refine zg_Told_ends X hW h0 zu_68 dX9_mayBegin_2 ?_
    refine lv_iload_n hx hb dX9_mayBegin_5 rfl (lv_at hl 1 rfl) ?_
    obtain ⟨g, h⟩ := h
    refine ziald X hW h0.2.2.2.2 g dX9_mayBegin_6 ?_
    refine lv_icmp_ge (tgt := 14) hx hb dX9_mayBegin_7 rfl (fun c => ?_) (fun c => ?_)
    · replace h := h.1 c
      refine lv_iconst hx hb dX9_mayBegin_14 zc_i0 ?_
      exact zretz X hr hlk hW rfl h dX9_mayBegin_15
    · replace h := h.2 c
      refine lv_iconst hx hb dX9_mayBegin_10 zc_i1 ?_
      refine lv_goto (tgt := 15) hx hb dX9_mayBegin_11 rfl ?_
      exact zretz X hr hlk hW rfl h dX9_mayBegin_15
  exact zMain s.heap [] ls hW hl
def wpJ_Told_mayBeLeft_18 (k : Nat) (a1 : Int32) (a2 : Int32) (a3 : Int32)  (Q : Int32 → zMem → Prop)   (M : zMem) : Prop :=
  (¬ (M k 4) = 2 → Q 1 M) ∧ ((M k 4) = 2 → vp_in a1 5 ∧ (a2 < (M (k + 4) (ix a1)) → Q 0 M) ∧ (¬ a2 < (M (k + 4) (ix a1)) → Q 1 M))
def wp_Told_mayBeLeft (k : Nat) (a1 : Int32) (a2 : Int32) (a3 : Int32) (M : zMem) (Q : Int32 → zMem → Prop) : Prop :=
  (a3 ≤ 0 → wpJ_Told_mayBeLeft_18 k a1 a2 a3 Q M) ∧ (¬ a3 ≤ 0 → (¬ (((M k 5) >>> (a2 &&& 31)) &&& 1) = 1 → wpJ_Told_mayBeLeft_18 k a1 a2 a3 Q M) ∧ ((((M k 5) >>> (a2 &&& 31)) &&& 1) = 1 → Q 0 M))
set_option maxHeartbeats 4000000 in
set_option maxRecDepth 20000 in
theorem c_Told_mayBeLeft {l : Launch} {w : zWd} {k : Nat} {a1 : Int32} {a2 : Int32} {a3 : Int32} {M : zMem} {post : Int32 → zMem → Prop} (h0 : zI_Told w k) (h : wp_Told_mayBeLeft k a1 a2 a3 M post) : zMi l ⟨"HandToHand$Told", "mayBeLeft", "(III)Z"⟩ prog_11_method_13_code 4 (Option.some .boolean) 0 0 w [.ref (zad w k), .int a1, .int a2, .int a3] M post := by
  refine zMet (by decide) (Nat.le_of_ble_eq_true rfl) ?_
  intro p e s m below meth c X hr hlk hml hW ls hl
  have hx := X.1
  have hb := X.2.1
  have hl : lv_has ls 4 [(0, .ref (zad w k)), (1, .int a1), (2, .int a2), (3, .int a3)] := hl
  have zJ_18 : ∀ (M : zMem) (H : Heap) (locs : List Loc) (ls : Array Slot), zWo w s.heap M H locs → lv_has ls 4 [(0, .ref (zad w k)), (1, .int a1), (2, .int a2)] → wpJ_Told_mayBeLeft_18 k a1 a2 a3 post M → W p l e (zRm 0 0) s m ([.ref (zad w k), .int a1, .int a2, .int a3] : List Value).toArray below meth c H locs 0 0 (MQ below (va_Qi post (zB w) (zA w)) ([.ref (zad w k), .int a1, .int a2, .int a3] : List Value).toArray s 0 0 (zA w)) (F0 m 18 ls []) := by
    intro  M H locs ls hW hl h
    unfold wpJ_Told_mayBeLeft_18 at h
    refine lv_aload_n hx hb dX9_mayBeLeft_18 rfl (lv_at hl 0 rfl) ?_
    refine zg_Told_kind X hW h0 zu_49 dX9_mayBeLeft_19 ?_
    refine lv_iconst hx hb dX9_mayBeLeft_22 zc_i2 ?_
    refine lv_icmp_ne (tgt := 36) hx hb dX9_mayBeLeft_23 rfl (fun c => ?_) (fun c => ?_)
    · replace h := h.1 c
      refine lv_iconst hx hb dX9_mayBeLeft_36 zc_i1 ?_
      refine lv_goto (tgt := 41) hx hb dX9_mayBeLeft_37 rfl ?_
      exact zretz X hr hlk hW rfl h dX9_mayBeLeft_41
    · replace h := h.2 c
      refine lv_iload_n hx hb dX9_mayBeLeft_26 rfl (lv_at hl 2 rfl) ?_
      refine lv_aload_n hx hb dX9_mayBeLeft_27 rfl (lv_at hl 0 rfl) ?_
      refine zg_Told_ends X hW h0 zu_68 dX9_mayBeLeft_28 ?_
      refine lv_iload_n hx hb dX9_mayBeLeft_31 rfl (lv_at hl 1 rfl) ?_
      obtain ⟨g, h⟩ := h
      refine ziald X hW h0.2.2.2.2 g dX9_mayBeLeft_32 ?_
      refine lv_icmp_lt (tgt := 40) hx hb dX9_mayBeLeft_33 rfl (fun c => ?_) (fun c => ?_)
      · replace h := h.1 c
        refine lv_iconst hx hb dX9_mayBeLeft_40 zc_i0 ?_
        exact zretz X hr hlk hW rfl h dX9_mayBeLeft_41
      · replace h := h.2 c
        refine lv_iconst hx hb dX9_mayBeLeft_36 zc_i1 ?_
        refine lv_goto (tgt := 41) hx hb dX9_mayBeLeft_37 rfl ?_
        exact zretz X hr hlk hW rfl h dX9_mayBeLeft_41
  unfold wp_Told_mayBeLeft at h
  have zMain : ∀ (H : Heap) (locs : List Loc) (ls : Array Slot), zWo w s.heap M H locs → lv_has ls 4 [(0, .ref (zad w k)), (1, .int a1), (2, .int a2), (3, .int a3)] → W p l e (zRm 0 0) s m ([.ref (zad w k), .int a1, .int a2, .int a3] : List Value).toArray below meth c H locs 0 0 (MQ below (va_Qi post (zB w) (zA w)) ([.ref (zad w k), .int a1, .int a2, .int a3] : List Value).toArray s 0 0 (zA w)) (F0 m 0 ls []) := by
    intro H locs ls hW hl
    refine lv_iload_n hx hb dX9_mayBeLeft_0 rfl (lv_at hl 3 rfl) ?_
    refine lv_if_le (tgt := 18) hx hb dX9_mayBeLeft_1 rfl (fun c => ?_) (fun c => ?_)
    · replace h := h.1 c
      exact zJ_18  M H locs ls hW (lv_sub hl [0, 1, 2] rfl) h
    · replace h := h.2 c
      refine lv_aload_n hx hb dX9_mayBeLeft_4 rfl (lv_at hl 0 rfl) ?_
      refine zg_Told_whole X hW h0 zu_52 dX9_mayBeLeft_5 ?_
      refine lv_iload_n hx hb dX9_mayBeLeft_8 rfl (lv_at hl 2 rfl) ?_
      refine lv_ishr hx hb dX9_mayBeLeft_9 ?_
      refine lv_iconst hx hb dX9_mayBeLeft_10 zc_i1 ?_
      refine lv_iand hx hb dX9_mayBeLeft_11 ?_
      refine lv_iconst hx hb dX9_mayBeLeft_12 zc_i1 ?_
      refine lv_icmp_ne (tgt := 18) hx hb dX9_mayBeLeft_13 rfl (fun c => ?_) (fun c => ?_)
      · replace h := h.1 c
        exact zJ_18  M H locs ls hW (lv_sub hl [0, 1, 2] rfl) h
      · replace h := h.2 c
        refine lv_iconst hx hb dX9_mayBeLeft_16 zc_i0 ?_
        exact zretz X hr hlk hW rfl h dX9_mayBeLeft_17
  exact zMain s.heap [] ls hW hl
def wp_Told_ticksOf (k : Nat) (a1 : Int32) (a2 : Int32) (a3 : Int32) (M : zMem) (Q : Int32 → zMem → Prop) : Prop :=
  vp_in ((a1 * 8) + a2) 40 ∧ ∀ zx1 : Int32, zx1 = M (k + 3) (ix ((a1 * 8) + a2)) → ((M k 3) ≤ 0 → (1 ≤ zx1 → Q zx1 M) ∧ (¬ 1 ≤ zx1 → Q 1 M)) ∧ (¬ (M k 3) ≤ 0 → (¬ (M k 3) = 0) ∧ ∀ zx2 : Int32, zx2 = zx1 - (a3 / (M k 3)) → (1 ≤ zx2 → Q zx2 M) ∧ (¬ 1 ≤ zx2 → Q 1 M))
set_option maxHeartbeats 4000000 in
set_option maxRecDepth 20000 in
theorem c_Told_ticksOf {l : Launch} {w : zWd} {k : Nat} {a1 : Int32} {a2 : Int32} {a3 : Int32} {M : zMem} {post : Int32 → zMem → Prop} (h0 : zI_Told w k) (h : wp_Told_ticksOf k a1 a2 a3 M post) : zMi l ⟨"HandToHand$Told", "ticksOf", "(III)I"⟩ prog_11_method_14_code 5 (Option.some .int) 0 0 w [.ref (zad w k), .int a1, .int a2, .int a3] M post := by
  refine zMet (by decide) (Nat.le_of_ble_eq_true rfl) ?_
  intro p e s m below meth c X hr hlk hml hW ls hl
  have hx := X.1
  have hb := X.2.1
  have hl : lv_has ls 5 [(0, .ref (zad w k)), (1, .int a1), (2, .int a2), (3, .int a3)] := hl
  unfold wp_Told_ticksOf at h
  have zMain : ∀ (H : Heap) (locs : List Loc) (ls : Array Slot), zWo w s.heap M H locs → lv_has ls 5 [(0, .ref (zad w k)), (1, .int a1), (2, .int a2), (3, .int a3)] → W p l e (zRm 0 0) s m ([.ref (zad w k), .int a1, .int a2, .int a3] : List Value).toArray below meth c H locs 0 0 (MQ below (va_Qi post (zB w) (zA w)) ([.ref (zad w k), .int a1, .int a2, .int a3] : List Value).toArray s 0 0 (zA w)) (F0 m 0 ls []) := by
    intro H locs ls hW hl
    refine lv_aload_n hx hb dX9_ticksOf_0 rfl (lv_at hl 0 rfl) ?_
    refine zg_Told_paces X hW h0 zu_65 dX9_ticksOf_1 ?_
    refine lv_iload_n hx hb dX9_ticksOf_4 rfl (lv_at hl 1 rfl) ?_
    refine lv_bipush hx hb dX9_ticksOf_5 zc_b8 ?_
    refine lv_imul hx hb dX9_ticksOf_7 ?_
    refine lv_iload_n hx hb dX9_ticksOf_8 rfl (lv_at hl 2 rfl) ?_
    refine lv_iadd hx hb dX9_ticksOf_9 ?_
    obtain ⟨g, h⟩ := h
    refine ziald X hW h0.2.2.2.1 g dX9_ticksOf_10 ?_
    refine lv_topi (fun zx1 ezx1 => ?_)
    replace h := h zx1 ezx1
    refine lv_istore (lv' := [(4, .int zx1), (0, .ref (zad w k)), (1, .int a1), (2, .int a2), (3, .int a3)]) hx hb dX9_ticksOf_11 hl (Nat.le_of_ble_eq_true rfl) rfl (fun ls hl => ?_)
    refine lv_aload_n hx hb dX9_ticksOf_13 rfl (lv_at hl 1 rfl) ?_
    refine zg_Told_learn X hW h0 zu_46 dX9_ticksOf_14 ?_
    refine lv_if_le (tgt := 31) hx hb dX9_ticksOf_17 rfl (fun c => ?_) (fun c => ?_)
    · replace h := h.1 c
      refine lv_iload hx hb dX9_ticksOf_31 (lv_at hl 0 rfl) ?_
      refine lv_iconst hx hb dX9_ticksOf_33 zc_i1 ?_
      refine lv_icmp_ge (tgt := 41) hx hb dX9_ticksOf_34 rfl (fun c => ?_) (fun c => ?_)
      · replace h := h.1 c
        refine lv_iload hx hb dX9_ticksOf_41 (lv_at hl 0 rfl) ?_
        exact zreti X hr hlk hW h dX9_ticksOf_43
      · replace h := h.2 c
        refine lv_iconst hx hb dX9_ticksOf_37 zc_i1 ?_
        refine lv_goto (tgt := 43) hx hb dX9_ticksOf_38 rfl ?_
        exact zreti X hr hlk hW h dX9_ticksOf_43
    · replace h := h.2 c
      refine lv_iload hx hb dX9_ticksOf_20 (lv_at hl 0 rfl) ?_
      refine lv_iload_n hx hb dX9_ticksOf_22 rfl (lv_at hl 4 rfl) ?_
      refine lv_aload_n hx hb dX9_ticksOf_23 rfl (lv_at hl 1 rfl) ?_
      refine zg_Told_learn X hW h0 zu_46 dX9_ticksOf_24 ?_
      obtain ⟨g, h⟩ := h
      refine lv_idiv hx hb dX9_ticksOf_27 g ?_
      refine lv_isub hx hb dX9_ticksOf_28 ?_
      refine lv_topi (fun zx2 ezx2 => ?_)
      replace h := h zx2 ezx2
      refine lv_istore (lv' := [(4, .int zx2), (0, .ref (zad w k)), (1, .int a1), (2, .int a2), (3, .int a3)]) hx hb dX9_ticksOf_29 hl (Nat.le_of_ble_eq_true rfl) rfl (fun ls hl => ?_)
      refine lv_iload hx hb dX9_ticksOf_31 (lv_at hl 0 rfl) ?_
      refine lv_iconst hx hb dX9_ticksOf_33 zc_i1 ?_
      refine lv_icmp_ge (tgt := 41) hx hb dX9_ticksOf_34 rfl (fun c => ?_) (fun c => ?_)
      · replace h := h.1 c
        refine lv_iload hx hb dX9_ticksOf_41 (lv_at hl 0 rfl) ?_
        exact zreti X hr hlk hW h dX9_ticksOf_43
      · replace h := h.2 c
        refine lv_iconst hx hb dX9_ticksOf_37 zc_i1 ?_
        refine lv_goto (tgt := 43) hx hb dX9_ticksOf_38 rfl ?_
        exact zreti X hr hlk hW h dX9_ticksOf_43
  exact zMain s.heap [] ls hW hl
def wp_Told_learnedThatCounts (k : Nat) (a1 : Int32) (a2 : Int32) (a3 : Int32) (M : zMem) (Q : Int32 → zMem → Prop) : Prop :=
  wp_Told_paceOf k a1 a2 M (fun zr2 zm1 => ∀ zx3 : Int32, zx3 = (M k 3) * (zr2 - 1) → (zx3 ≤ a3 → Q zx3 zm1) ∧ (¬ zx3 ≤ a3 → Q a3 zm1))
set_option maxHeartbeats 4000000 in
set_option maxRecDepth 20000 in
theorem c_Told_learnedThatCounts {l : Launch} {w : zWd} {k : Nat} {a1 : Int32} {a2 : Int32} {a3 : Int32} {M : zMem} {post : Int32 → zMem → Prop} (h0 : zI_Told w k) (h : wp_Told_learnedThatCounts k a1 a2 a3 M post) : zMi l ⟨"HandToHand$Told", "learnedThatCounts", "(III)I"⟩ prog_11_method_15_code 5 (Option.some .int) 1 22 w [.ref (zad w k), .int a1, .int a2, .int a3] M post := by
  refine zMet (by decide) (Nat.le_of_ble_eq_true rfl) ?_
  intro p e s m below meth c X hr hlk hml hW ls hl
  have hx := X.1
  have hb := X.2.1
  have hl : lv_has ls 5 [(0, .ref (zad w k)), (1, .int a1), (2, .int a2), (3, .int a3)] := hl
  unfold wp_Told_learnedThatCounts at h
  have zMain : ∀ (H : Heap) (locs : List Loc) (ls : Array Slot), zWo w s.heap M H locs → lv_has ls 5 [(0, .ref (zad w k)), (1, .int a1), (2, .int a2), (3, .int a3)] → W p l e (zRm 1 22) s m ([.ref (zad w k), .int a1, .int a2, .int a3] : List Value).toArray below meth c H locs 0 0 (MQ below (va_Qi post (zB w) (zA w)) ([.ref (zad w k), .int a1, .int a2, .int a3] : List Value).toArray s 0 0 (zA w)) (F0 m 0 ls []) := by
    intro H locs ls hW hl
    refine lv_aload_n hx hb dX9_learnedThatCounts_0 rfl (lv_at hl 0 rfl) ?_
    refine zg_Told_learn X hW h0 zu_46 dX9_learnedThatCounts_1 ?_
    refine lv_aload_n hx hb dX9_learnedThatCounts_4 rfl (lv_at hl 0 rfl) ?_
    refine lv_iload_n hx hb dX9_learnedThatCounts_5 rfl (lv_at hl 1 rfl) ?_
    refine lv_iload_n hx hb dX9_learnedThatCounts_6 rfl (lv_at hl 2 rfl) ?_
    refine zcalli (zrunV (As := [.int a1, .int a2]) (rest := [.int (M k 3)]) X hml hl hW h0.1 rfl zk_Told_62 (c_Told_paceOf h0 h) rfl ⟨Nat.le_of_ble_eq_true rfl, Nat.le_of_ble_eq_true rfl⟩ ⟨Nat.le_refl 0, Nat.le_refl 0⟩ rfl (Nat.le_of_ble_eq_true rfl) dX9_learnedThatCounts_7) hW (fun zr2 zm1 H locs h hW => ?_)
    refine lv_iconst hx hb dX9_learnedThatCounts_10 zc_i1 ?_
    refine lv_isub hx hb dX9_learnedThatCounts_11 ?_
    refine lv_imul hx hb dX9_learnedThatCounts_12 ?_
    refine lv_topi (fun zx3 ezx3 => ?_)
    replace h := h zx3 ezx3
    refine lv_istore (lv' := [(4, .int zx3), (0, .ref (zad w k)), (1, .int a1), (2, .int a2), (3, .int a3)]) hx hb dX9_learnedThatCounts_13 hl (Nat.le_of_ble_eq_true rfl) rfl (fun ls hl => ?_)
    refine lv_iload_n hx hb dX9_learnedThatCounts_15 rfl (lv_at hl 4 rfl) ?_
    refine lv_iload hx hb dX9_learnedThatCounts_16 (lv_at hl 0 rfl) ?_
    refine lv_icmp_ge (tgt := 25) hx hb dX9_learnedThatCounts_18 rfl (fun c => ?_) (fun c => ?_)
    · replace h := h.1 c
      refine lv_iload hx hb dX9_learnedThatCounts_25 (lv_at hl 0 rfl) ?_
      exact zreti X hr hlk hW h dX9_learnedThatCounts_27
    · replace h := h.2 c
      refine lv_iload_n hx hb dX9_learnedThatCounts_21 rfl (lv_at hl 4 rfl) ?_
      refine lv_goto (tgt := 27) hx hb dX9_learnedThatCounts_22 rfl ?_
      exact zreti X hr hlk hW h dX9_learnedThatCounts_27
  exact zMain s.heap [] ls hW hl
def wpB_Told_ticksAlone_17 (k : Nat) (a1 : Int32) (x_4 : Int32) (K57 : Int64 → zMem → Prop) (Q : Int64 → zMem → Prop) (J : Int64 → Int32 → zMem → Prop) (x_2 : Int64) (x_5 : Int32) (M : zMem) : Prop :=
  ((M k 0) ≤ x_5 → K57 x_2 M) ∧ (¬ (M k 0) ≤ x_5 → vp_in x_4 6 ∧ wp_Told_unitsOf k (M (k + 1) (ix x_4)) x_5 M (fun zr2 zm1 => wp_Told_paceOf k a1 x_5 zm1 (fun zr4 zm3 => ∀ zx5 : Int64, zx5 = x_2 + ((zr2 * zr4).toInt64) → ∀ zx6 : Int32, zx6 = x_5 + 1 → J zx5 zx6 zm3)))
def wpB_Told_ticksAlone_5 (k : Nat) (a1 : Int32)   (Q : Int64 → zMem → Prop) (J : Int64 → Int32 → zMem → Prop) (x_2 : Int64) (x_4 : Int32) (M : zMem) : Prop :=
  ((M k 6) ≤ x_4 → Q x_2 M) ∧ (¬ (M k 6) ≤ x_4 → ∃ n : Nat, zlp2 (wpB_Told_ticksAlone_17 k a1 x_4 (fun (zx8 : Int64) (zm7 : zMem) => ∀ zx9 : Int32, zx9 = x_4 + 1 → J zx8 zx9 zm7) Q) n x_2 0 M)
def wp_Told_ticksAlone (k : Nat) (a1 : Int32) (M : zMem) (Q : Int64 → zMem → Prop) : Prop :=
  ∃ n : Nat, zlp2 (wpB_Told_ticksAlone_5 k a1   Q) n 0 0 M
set_option maxHeartbeats 4000000 in
set_option maxRecDepth 20000 in
theorem c_Told_ticksAlone {l : Launch} {w : zWd} {k : Nat} {a1 : Int32} {M : zMem} {post : Int64 → zMem → Prop} (h0 : zI_Told w k) (h : wp_Told_ticksAlone k a1 M post) : zMl l ⟨"HandToHand$Told", "ticksAlone", "(I)J"⟩ prog_11_method_16_code 6 (Option.some .long) 1 22 w [.ref (zad w k), .int a1] M post := by
  refine zMet (by decide) (Nat.le_of_ble_eq_true rfl) ?_
  intro p e s m below meth c X hr hlk hml hW ls hl
  have hx := X.1
  have hb := X.2.1
  have hl : lv_has ls 6 [(0, .ref (zad w k)), (1, .int a1)] := hl
  have zL_17 : ∀ (x_4 : Int32) (K57 : Int64 → zMem → Prop) (zK57 : ∀ (y_2 : Int64) (M : zMem) (H : Heap) (locs : List Loc) (ls : Array Slot), zWo w s.heap M H locs → lv_has ls 6 [(0, .ref (zad w k)), (1, .int a1), (2, .long y_2), (4, .int x_4)] → K57 y_2 M → W p l e (zRm 1 22) s m ([.ref (zad w k), .int a1] : List Value).toArray below meth c H locs 0 0 (MQ below (va_Ql post (zB w) (zA w)) ([.ref (zad w k), .int a1] : List Value).toArray s 0 0 (zA w)) (F0 m 57 ls [])), ∀ (n : Nat) (x_2 : Int64) (x_5 : Int32) (M : zMem) (H : Heap) (locs : List Loc) (ls : Array Slot), zWo w s.heap M H locs → lv_has ls 6 [(0, .ref (zad w k)), (1, .int a1), (2, .long x_2), (4, .int x_4), (5, .int x_5)] → zlp2 (wpB_Told_ticksAlone_17 k a1 x_4 K57 post) n x_2 x_5 M → W p l e (zRm 1 22) s m ([.ref (zad w k), .int a1] : List Value).toArray below meth c H locs 0 0 (MQ below (va_Ql post (zB w) (zA w)) ([.ref (zad w k), .int a1] : List Value).toArray s 0 0 (zA w)) (F0 m 17 ls []) := by
    intro x_4 K57 zK57 n
    induction n with
    | zero => intro x_2 x_5 M H locs ls hW hl h; exact h.elim
    | succ n zJ =>
      intro x_2 x_5 M H locs ls hW hl h
      have h : wpB_Told_ticksAlone_17 k a1 x_4 K57 post (zlp2 (wpB_Told_ticksAlone_17 k a1 x_4 K57 post) n) x_2 x_5 M := h
      unfold wpB_Told_ticksAlone_17 at h
      refine lv_iload hx hb dX9_ticksAlone_17 (lv_at hl 4 rfl) ?_
      refine lv_aload_n hx hb dX9_ticksAlone_19 rfl (lv_at hl 0 rfl) ?_
      refine zg_Told_pieces X hW h0 zu_32 dX9_ticksAlone_20 ?_
      refine lv_icmp_ge (tgt := 57) hx hb dX9_ticksAlone_23 rfl (fun c => ?_) (fun c => ?_)
      · replace h := h.1 c
        exact zK57 x_2 M H locs ls hW (lv_sub hl [0, 1, 2, 3] rfl) h
      · replace h := h.2 c
        refine lv_lload_n hx hb dX9_ticksAlone_26 rfl (lv_at hl 2 rfl) ?_
        refine lv_aload_n hx hb dX9_ticksAlone_27 rfl (lv_at hl 0 rfl) ?_
        refine lv_aload_n hx hb dX9_ticksAlone_28 rfl (lv_at hl 0 rfl) ?_
        refine zg_Told_row X hW h0 zu_59 dX9_ticksAlone_29 ?_
        refine lv_iload hx hb dX9_ticksAlone_32 (lv_at hl 3 rfl) ?_
        obtain ⟨g, h⟩ := h
        refine ziald X hW h0.2.1 g dX9_ticksAlone_34 ?_
        refine lv_iload hx hb dX9_ticksAlone_35 (lv_at hl 4 rfl) ?_
        refine zcalli (zrunV (As := [.int (M (k + 1) (ix x_4)), .int x_5]) (rest := [.long x_2]) X hml hl hW h0.1 rfl zk_Told_66 (c_Told_unitsOf h0 h) rfl ⟨Nat.le_of_ble_eq_true rfl, Nat.le_of_ble_eq_true rfl⟩ ⟨Nat.le_refl 0, Nat.le_refl 0⟩ rfl (Nat.le_of_ble_eq_true rfl) dX9_ticksAlone_37) hW (fun zr2 zm1 H locs h hW => ?_)
        refine lv_aload_n hx hb dX9_ticksAlone_40 rfl (lv_at hl 0 rfl) ?_
        refine lv_iload_n hx hb dX9_ticksAlone_41 rfl (lv_at hl 1 rfl) ?_
        refine lv_iload hx hb dX9_ticksAlone_42 (lv_at hl 4 rfl) ?_
        refine zcalli (zrunV (As := [.int a1, .int x_5]) (rest := [.int zr2, .long x_2]) X hml hl hW h0.1 rfl zk_Told_62 (c_Told_paceOf h0 h) rfl ⟨Nat.le_of_ble_eq_true rfl, Nat.le_of_ble_eq_true rfl⟩ ⟨Nat.le_refl 0, Nat.le_refl 0⟩ rfl (Nat.le_of_ble_eq_true rfl) dX9_ticksAlone_44) hW (fun zr4 zm3 H locs h hW => ?_)
        refine lv_imul hx hb dX9_ticksAlone_47 ?_
        refine lv_i2l hx hb dX9_ticksAlone_48 rfl ?_
        refine lv_ladd hx hb dX9_ticksAlone_49 ?_
        refine lv_topl (fun zx5 ezx5 => ?_)
        replace h := h zx5 ezx5
        refine lv_lstore_n (lv' := [(2, .long zx5), (0, .ref (zad w k)), (1, .int a1), (4, .int x_4), (5, .int x_5)]) hx hb dX9_ticksAlone_50 rfl hl (Nat.le_of_ble_eq_true rfl) rfl (fun ls hl => ?_)
        obtain ⟨zx6, ezx6⟩ : ∃ y : Int32, y = x_5 + 1 := ⟨_, rfl⟩
        replace h := h zx6 ezx6
        refine lv_iinc (v := zx6) (lv' := [(5, .int zx6), (2, .long zx5), (0, .ref (zad w k)), (1, .int a1), (4, .int x_4)]) hx hb dX9_ticksAlone_51 hl (k := 4) rfl (by rw [ezx6, zc_i1]) (Nat.le_of_ble_eq_true rfl) rfl (fun ls hl => ?_)
        refine lv_goto (tgt := 17) hx hb dX9_ticksAlone_54 rfl ?_
        exact zJ zx5 zx6 zm3 H locs ls hW (lv_sub hl [2, 3, 1, 4, 0] rfl) h
  have zL_5 :  ∀ (n : Nat) (x_2 : Int64) (x_4 : Int32) (M : zMem) (H : Heap) (locs : List Loc) (ls : Array Slot), zWo w s.heap M H locs → lv_has ls 6 [(0, .ref (zad w k)), (1, .int a1), (2, .long x_2), (4, .int x_4)] → zlp2 (wpB_Told_ticksAlone_5 k a1   post) n x_2 x_4 M → W p l e (zRm 1 22) s m ([.ref (zad w k), .int a1] : List Value).toArray below meth c H locs 0 0 (MQ below (va_Ql post (zB w) (zA w)) ([.ref (zad w k), .int a1] : List Value).toArray s 0 0 (zA w)) (F0 m 5 ls []) := by
    intro n
    induction n with
    | zero => intro x_2 x_4 M H locs ls hW hl h; exact h.elim
    | succ n zJ =>
      intro x_2 x_4 M H locs ls hW hl h
      have h : wpB_Told_ticksAlone_5 k a1   post (zlp2 (wpB_Told_ticksAlone_5 k a1   post) n) x_2 x_4 M := h
      unfold wpB_Told_ticksAlone_5 at h
      refine lv_iload hx hb dX9_ticksAlone_5 (lv_at hl 3 rfl) ?_
      refine lv_aload_n hx hb dX9_ticksAlone_7 rfl (lv_at hl 0 rfl) ?_
      refine zg_Told_rowLength X hW h0 zu_55 dX9_ticksAlone_8 ?_
      refine lv_icmp_ge (tgt := 63) hx hb dX9_ticksAlone_11 rfl (fun c => ?_) (fun c => ?_)
      · replace h := h.1 c
        refine lv_lload_n hx hb dX9_ticksAlone_63 rfl (lv_at hl 2 rfl) ?_
        exact zretl X hr hlk hW h dX9_ticksAlone_64
      · replace h := h.2 c
        refine lv_iconst hx hb dX9_ticksAlone_14 zc_i0 ?_
        refine lv_istore (lv' := [(5, .int 0), (0, .ref (zad w k)), (1, .int a1), (2, .long x_2), (4, .int x_4)]) hx hb dX9_ticksAlone_15 hl (Nat.le_of_ble_eq_true rfl) rfl (fun ls hl => ?_)
        obtain ⟨n, h⟩ := h
        refine zL_17 x_4 _ (fun zx8 zm7 H locs ls hW hl h => ?_) n x_2 0 M H locs ls hW (lv_sub hl [1, 2, 3, 4, 0] rfl) h
        · skip
          obtain ⟨zx9, ezx9⟩ : ∃ y : Int32, y = x_4 + 1 := ⟨_, rfl⟩
          replace h := h zx9 ezx9
          refine lv_iinc (v := zx9) (lv' := [(4, .int zx9), (0, .ref (zad w k)), (1, .int a1), (2, .long zx8)]) hx hb dX9_ticksAlone_57 hl (k := 3) rfl (by rw [ezx9, zc_i1]) (Nat.le_of_ble_eq_true rfl) rfl (fun ls hl => ?_)
          refine lv_goto (tgt := 5) hx hb dX9_ticksAlone_60 rfl ?_
          exact zJ zx8 zx9 zm7 H locs ls hW (lv_sub hl [1, 2, 3, 0] rfl) h
  unfold wp_Told_ticksAlone at h
  have zMain : ∀ (H : Heap) (locs : List Loc) (ls : Array Slot), zWo w s.heap M H locs → lv_has ls 6 [(0, .ref (zad w k)), (1, .int a1)] → W p l e (zRm 1 22) s m ([.ref (zad w k), .int a1] : List Value).toArray below meth c H locs 0 0 (MQ below (va_Ql post (zB w) (zA w)) ([.ref (zad w k), .int a1] : List Value).toArray s 0 0 (zA w)) (F0 m 0 ls []) := by
    intro H locs ls hW hl
    refine lv_lconst hx hb dX9_ticksAlone_0 zc_l0 ?_
    refine lv_lstore_n (lv' := [(2, .long 0), (0, .ref (zad w k)), (1, .int a1)]) hx hb dX9_ticksAlone_1 rfl hl (Nat.le_of_ble_eq_true rfl) rfl (fun ls hl => ?_)
    refine lv_iconst hx hb dX9_ticksAlone_2 zc_i0 ?_
    refine lv_istore (lv' := [(4, .int 0), (2, .long 0), (0, .ref (zad w k)), (1, .int a1)]) hx hb dX9_ticksAlone_3 hl (Nat.le_of_ble_eq_true rfl) rfl (fun ls hl => ?_)
    obtain ⟨n, h⟩ := h
    refine zL_5   n 0 0 M H locs ls hW (lv_sub hl [2, 3, 1, 0] rfl) h
  exact zMain s.heap [] ls hW hl
def wp_Handings_note (k : Nat) (a1 : Int32) (a2 : Int32) (a3 : Int32) (a4 : Int32) (a5 : Int32) (M : zMem) (Q : zMem → Prop) : Prop :=
  ((M k 0) < 600 → ∀ zx1 : Int32, zx1 = (M k 0) * 5 → vp_in (zx1 + 0) 3000 ∧ ∀ zm2 : zMem, zm2 = zup M (k + 1) (ix (zx1 + 0)) a1 → vp_in (zx1 + 1) 3000 ∧ ∀ zm3 : zMem, zm3 = zup zm2 (k + 1) (ix (zx1 + 1)) a2 → vp_in (zx1 + 2) 3000 ∧ ∀ zm4 : zMem, zm4 = zup zm3 (k + 1) (ix (zx1 + 2)) a3 → vp_in (zx1 + 3) 3000 ∧ ∀ zm5 : zMem, zm5 = zup zm4 (k + 1) (ix (zx1 + 3)) a4 → vp_in (zx1 + 4) 3000 ∧ ∀ zm6 : zMem, zm6 = zup zm5 (k + 1) (ix (zx1 + 4)) a5 → ∀ zm7 : zMem, zm7 = zup zm6 k 0 ((zm6 k 0) + 1) → Q zm7) ∧ (¬ (M k 0) < 600 → Q M)
set_option maxHeartbeats 4000000 in
set_option maxRecDepth 20000 in
theorem c_Handings_note {l : Launch} {w : zWd} {k : Nat} {a1 : Int32} {a2 : Int32} {a3 : Int32} {a4 : Int32} {a5 : Int32} {M : zMem} {post : zMem → Prop} (h0 : zI_Handings w k) (h : wp_Handings_note k a1 a2 a3 a4 a5 M post) : zMv l ⟨"HandToHand$Handings", "note", "(IIIII)V"⟩ prog_4_method_2_code 7 none 0 0 w [.ref (zad w k), .int a1, .int a2, .int a3, .int a4, .int a5] M post := by
  refine zMet (by decide) (Nat.le_of_ble_eq_true rfl) ?_
  intro p e s m below meth c X hr hlk hml hW ls hl
  have hx := X.1
  have hb := X.2.1
  have hl : lv_has ls 7 [(0, .ref (zad w k)), (1, .int a1), (2, .int a2), (3, .int a3), (4, .int a4), (5, .int a5)] := hl
  unfold wp_Handings_note at h
  have zMain : ∀ (H : Heap) (locs : List Loc) (ls : Array Slot), zWo w s.heap M H locs → lv_has ls 7 [(0, .ref (zad w k)), (1, .int a1), (2, .int a2), (3, .int a3), (4, .int a4), (5, .int a5)] → W p l e (zRm 0 0) s m ([.ref (zad w k), .int a1, .int a2, .int a3, .int a4, .int a5] : List Value).toArray below meth c H locs 0 0 (MQ below (va_Qv post (zB w) (zA w)) ([.ref (zad w k), .int a1, .int a2, .int a3, .int a4, .int a5] : List Value).toArray s 0 0 (zA w)) (F0 m 0 ls []) := by
    intro H locs ls hW hl
    refine lv_aload_n hx hb dX2_note_0 rfl (lv_at hl 0 rfl) ?_
    refine zg_Handings_size X hW h0 zu_233 dX2_note_1 ?_
    refine lv_sipush hx hb dX2_note_4 zc_s600 ?_
    refine lv_icmp_lt (tgt := 11) hx hb dX2_note_7 rfl (fun c => ?_) (fun c => ?_)
    · replace h := h.1 c
      refine lv_aload_n hx hb dX2_note_11 rfl (lv_at hl 0 rfl) ?_
      refine zg_Handings_size X hW h0 zu_233 dX2_note_12 ?_
      refine lv_iconst hx hb dX2_note_15 zc_i5 ?_
      refine lv_imul hx hb dX2_note_16 ?_
      refine lv_topi (fun zx1 ezx1 => ?_)
      replace h := h zx1 ezx1
      refine lv_istore (lv' := [(6, .int zx1), (0, .ref (zad w k)), (1, .int a1), (2, .int a2), (3, .int a3), (4, .int a4), (5, .int a5)]) hx hb dX2_note_17 hl (Nat.le_of_ble_eq_true rfl) rfl (fun ls hl => ?_)
      refine lv_aload_n hx hb dX2_note_19 rfl (lv_at hl 1 rfl) ?_
      refine zg_Handings_values X hW h0 zu_236 dX2_note_20 ?_
      refine lv_iload hx hb dX2_note_23 (lv_at hl 0 rfl) ?_
      refine lv_iconst hx hb dX2_note_25 zc_i0 ?_
      refine lv_iadd hx hb dX2_note_26 ?_
      refine lv_iload_n hx hb dX2_note_27 rfl (lv_at hl 2 rfl) ?_
      obtain ⟨g, h⟩ := h
      refine ziast X hW h0.2 g dX2_note_28 (fun H locs zm2 ezm2 hW => ?_)
      replace h := h zm2 ezm2
      refine lv_aload_n hx hb dX2_note_29 rfl (lv_at hl 1 rfl) ?_
      refine zg_Handings_values X hW h0 zu_236 dX2_note_30 ?_
      refine lv_iload hx hb dX2_note_33 (lv_at hl 0 rfl) ?_
      refine lv_iconst hx hb dX2_note_35 zc_i1 ?_
      refine lv_iadd hx hb dX2_note_36 ?_
      refine lv_iload_n hx hb dX2_note_37 rfl (lv_at hl 3 rfl) ?_
      obtain ⟨g, h⟩ := h
      refine ziast X hW h0.2 g dX2_note_38 (fun H locs zm3 ezm3 hW => ?_)
      replace h := h zm3 ezm3
      refine lv_aload_n hx hb dX2_note_39 rfl (lv_at hl 1 rfl) ?_
      refine zg_Handings_values X hW h0 zu_236 dX2_note_40 ?_
      refine lv_iload hx hb dX2_note_43 (lv_at hl 0 rfl) ?_
      refine lv_iconst hx hb dX2_note_45 zc_i2 ?_
      refine lv_iadd hx hb dX2_note_46 ?_
      refine lv_iload_n hx hb dX2_note_47 rfl (lv_at hl 4 rfl) ?_
      obtain ⟨g, h⟩ := h
      refine ziast X hW h0.2 g dX2_note_48 (fun H locs zm4 ezm4 hW => ?_)
      replace h := h zm4 ezm4
      refine lv_aload_n hx hb dX2_note_49 rfl (lv_at hl 1 rfl) ?_
      refine zg_Handings_values X hW h0 zu_236 dX2_note_50 ?_
      refine lv_iload hx hb dX2_note_53 (lv_at hl 0 rfl) ?_
      refine lv_iconst hx hb dX2_note_55 zc_i3 ?_
      refine lv_iadd hx hb dX2_note_56 ?_
      refine lv_iload hx hb dX2_note_57 (lv_at hl 5 rfl) ?_
      obtain ⟨g, h⟩ := h
      refine ziast X hW h0.2 g dX2_note_59 (fun H locs zm5 ezm5 hW => ?_)
      replace h := h zm5 ezm5
      refine lv_aload_n hx hb dX2_note_60 rfl (lv_at hl 1 rfl) ?_
      refine zg_Handings_values X hW h0 zu_236 dX2_note_61 ?_
      refine lv_iload hx hb dX2_note_64 (lv_at hl 0 rfl) ?_
      refine lv_iconst hx hb dX2_note_66 zc_i4 ?_
      refine lv_iadd hx hb dX2_note_67 ?_
      refine lv_iload hx hb dX2_note_68 (lv_at hl 6 rfl) ?_
      obtain ⟨g, h⟩ := h
      refine ziast X hW h0.2 g dX2_note_70 (fun H locs zm6 ezm6 hW => ?_)
      replace h := h zm6 ezm6
      refine lv_aload_n hx hb dX2_note_71 rfl (lv_at hl 1 rfl) ?_
      refine lv_dup hx hb dX2_note_72 rfl ?_
      refine zg_Handings_size X hW h0 zu_233 dX2_note_73 ?_
      refine lv_iconst hx hb dX2_note_76 zc_i1 ?_
      refine lv_iadd hx hb dX2_note_77 ?_
      refine zp_Handings_size X hW h0 zu_233 dX2_note_78 (fun H locs zm7 ezm7 hW => ?_)
      replace h := h zm7 ezm7
      exact zretv X hr hlk hW h dX2_note_81
    · replace h := h.2 c
      exact zretv X hr hlk hW h dX2_note_10
  exact zMain s.heap [] ls hW hl
def wp_Handings_valueOf (k : Nat) (a1 : Int32) (a2 : Int32) (M : zMem) (Q : Int32 → zMem → Prop) : Prop :=
  vp_in ((a1 * 5) + a2) 3000 ∧ Q (M (k + 1) (ix ((a1 * 5) + a2))) M
set_option maxHeartbeats 4000000 in
set_option maxRecDepth 20000 in
theorem c_Handings_valueOf {l : Launch} {w : zWd} {k : Nat} {a1 : Int32} {a2 : Int32} {M : zMem} {post : Int32 → zMem → Prop} (h0 : zI_Handings w k) (h : wp_Handings_valueOf k a1 a2 M post) : zMi l ⟨"HandToHand$Handings", "valueOf", "(II)I"⟩ prog_4_method_3_code 3 (Option.some .int) 0 0 w [.ref (zad w k), .int a1, .int a2] M post := by
  refine zMet (by decide) (Nat.le_of_ble_eq_true rfl) ?_
  intro p e s m below meth c X hr hlk hml hW ls hl
  have hx := X.1
  have hb := X.2.1
  have hl : lv_has ls 3 [(0, .ref (zad w k)), (1, .int a1), (2, .int a2)] := hl
  unfold wp_Handings_valueOf at h
  have zMain : ∀ (H : Heap) (locs : List Loc) (ls : Array Slot), zWo w s.heap M H locs → lv_has ls 3 [(0, .ref (zad w k)), (1, .int a1), (2, .int a2)] → W p l e (zRm 0 0) s m ([.ref (zad w k), .int a1, .int a2] : List Value).toArray below meth c H locs 0 0 (MQ below (va_Qi post (zB w) (zA w)) ([.ref (zad w k), .int a1, .int a2] : List Value).toArray s 0 0 (zA w)) (F0 m 0 ls []) := by
    intro H locs ls hW hl
    refine lv_aload_n hx hb dX2_valueOf_0 rfl (lv_at hl 0 rfl) ?_
    refine zg_Handings_values X hW h0 zu_236 dX2_valueOf_1 ?_
    refine lv_iload_n hx hb dX2_valueOf_4 rfl (lv_at hl 1 rfl) ?_
    refine lv_iconst hx hb dX2_valueOf_5 zc_i5 ?_
    refine lv_imul hx hb dX2_valueOf_6 ?_
    refine lv_iload_n hx hb dX2_valueOf_7 rfl (lv_at hl 2 rfl) ?_
    refine lv_iadd hx hb dX2_valueOf_8 ?_
    obtain ⟨g, h⟩ := h
    refine ziald X hW h0.2 g dX2_valueOf_9 ?_
    exact zreti X hr hlk hW h dX2_valueOf_10
  exact zMain s.heap [] ls hW hl
def wpJ_Handings_placesOf_92 (k : Nat) (a1 : Int32) (t2 : Nat) (a3 : Int32) (K137 : Int32 → Int32 → Int32 → Int32 → zMem → Prop) (J : Int32 → Int32 → Int32 → Int32 → Int32 → zMem → Prop) (Q : Int32 → zMem → Prop) (x_4 : Int32) (x_5 : Int32) (x_6 : Int32) (x_7 : Int32) (x_8 : Int32)  (M : zMem) : Prop :=
  (x_7 = 0 → ∀ zx8 : Int32, zx8 = x_4 + 1 → ∀ zx9 : Int32, zx9 = x_8 + 1 → J zx8 x_5 x_6 0 zx9 M) ∧ (¬ x_7 = 0 → wp_Handings_valueOf k x_8 2 M (fun zr11 zm10 => (¬ zr11 = x_5 → ∀ zx12 : Int32, zx12 = x_4 + 1 → ∀ zx13 : Int32, zx13 = x_8 + 1 → J zx12 x_5 x_6 0 zx13 zm10) ∧ (zr11 = x_5 → wp_Handings_valueOf k x_8 3 zm10 (fun zr15 zm14 => (¬ zr15 = x_6 → ∀ zx16 : Int32, zx16 = x_4 + 1 → ∀ zx17 : Int32, zx17 = x_8 + 1 → J zx16 x_5 x_6 0 zx17 zm14) ∧ (zr15 = x_6 → ∀ zx18 : Int32, zx18 = x_4 + 1 → ∀ zx19 : Int32, zx19 = x_8 + 1 → J zx18 x_5 x_6 1 zx19 zm14)))))
def wpB_Handings_placesOf_17 (k : Nat) (a1 : Int32) (t2 : Nat) (a3 : Int32)  (K137 : Int32 → Int32 → Int32 → Int32 → zMem → Prop) (Q : Int32 → zMem → Prop) (J : Int32 → Int32 → Int32 → Int32 → Int32 → zMem → Prop) (x_4 : Int32) (x_5 : Int32) (x_6 : Int32) (x_7 : Int32) (x_8 : Int32) (M : zMem) : Prop :=
  ((M k 0) ≤ x_8 → K137 x_4 x_5 x_6 x_7 M) ∧ (¬ (M k 0) ≤ x_8 → wp_Handings_valueOf k x_8 0 M (fun zr2 zm1 => wp_Handings_valueOf k x_8 1 zm1 (fun zr4 zm3 => (¬ zr4 = a1 → ∀ zx5 : Int32, zx5 = x_8 + 1 → J x_4 x_5 x_6 x_7 zx5 zm3) ∧ (zr4 = a1 → (zr2 ≤ (zm3 t2 5) → ∀ zx6 : Int32, zx6 = x_8 + 1 → J x_4 x_5 x_6 x_7 zx6 zm3) ∧ (¬ zr2 ≤ (zm3 t2 5) → (((zm3 t2 5) + (zm3 t2 4)) < zr2 → ∀ zx7 : Int32, zx7 = x_8 + 1 → J x_4 x_5 x_6 x_7 zx7 zm3) ∧ (¬ ((zm3 t2 5) + (zm3 t2 4)) < zr2 → (¬ x_4 = 0 → wpJ_Handings_placesOf_92 k a1 t2 a3 K137 J Q x_4 x_5 x_6 x_7 x_8 zm3) ∧ (x_4 = 0 → wp_Handings_valueOf k x_8 2 zm3 (fun zr21 zm20 => wp_Handings_valueOf k x_8 3 zm20 (fun zr23 zm22 => wpJ_Handings_placesOf_92 k a1 t2 a3 K137 J Q x_4 zr21 zr23 x_7 x_8 zm22)))))))))
def wp_Handings_placesOf (k : Nat) (a1 : Int32) (t2 : Nat) (a3 : Int32) (M : zMem) (Q : Int32 → zMem → Prop) : Prop :=
  ∃ n : Nat, zlp5 (wpB_Handings_placesOf_17 k a1 t2 a3  (fun (zx25 : Int32) (zx26 : Int32) (zx27 : Int32) (zx28 : Int32) (zm24 : zMem) => ∀ zx29 : Int32, zx29 = a3 → (zx29 = 0 → Q zx25 zm24) ∧ (zx29 = 1 → (zx28 = 0 → Q 0 zm24) ∧ (¬ zx28 = 0 → (zx25 ≤ 0 → Q 0 zm24) ∧ (¬ zx25 ≤ 0 → Q 1 zm24))) ∧ (zx29 = 2 → Q zx26 zm24) ∧ (¬ zx29 = 0 → ¬ zx29 = 1 → ¬ zx29 = 2 → Q zx27 zm24)) Q) n 0 ((-4)) ((-4)) 1 0 M
set_option maxHeartbeats 4000000 in
set_option maxRecDepth 20000 in
theorem c_Handings_placesOf {l : Launch} {w : zWd} {k : Nat} {a1 : Int32} {t2 : Nat} {a3 : Int32} {M : zMem} {post : Int32 → zMem → Prop} (h0 : zI_Handings w k) (h2 : zI_Ring w t2) (h : wp_Handings_placesOf k a1 t2 a3 M post) : zMi l ⟨"HandToHand$Handings", "placesOf", "(ILHandToHand$Ring;I)I"⟩ prog_4_method_4_code 10 (Option.some .int) 1 22 w [.ref (zad w k), .int a1, .ref (zad w t2), .int a3] M post := by
  refine zMet (by decide) (Nat.le_of_ble_eq_true rfl) ?_
  intro p e s m below meth c X hr hlk hml hW ls hl
  have hx := X.1
  have hb := X.2.1
  have hl : lv_has ls 10 [(0, .ref (zad w k)), (1, .int a1), (2, .ref (zad w t2)), (3, .int a3)] := hl
  have zJ_92 : ∀ (x_4 : Int32) (x_5 : Int32) (x_6 : Int32) (x_7 : Int32) (x_8 : Int32) (K137 : Int32 → Int32 → Int32 → Int32 → zMem → Prop) (zK137 : ∀ (y_4 : Int32) (y_5 : Int32) (y_6 : Int32) (y_7 : Int32) (M : zMem) (H : Heap) (locs : List Loc) (ls : Array Slot), zWo w s.heap M H locs → lv_has ls 10 [(3, .int a3), (4, .int y_4), (5, .int y_5), (6, .int y_6), (7, .int y_7)] → K137 y_4 y_5 y_6 y_7 M → W p l e (zRm 1 22) s m ([.ref (zad w k), .int a1, .ref (zad w t2), .int a3] : List Value).toArray below meth c H locs 0 0 (MQ below (va_Qi post (zB w) (zA w)) ([.ref (zad w k), .int a1, .ref (zad w t2), .int a3] : List Value).toArray s 0 0 (zA w)) (F0 m 137 ls [])) (J : Int32 → Int32 → Int32 → Int32 → Int32 → zMem → Prop) (zJ : ∀ (y_4 : Int32) (y_5 : Int32) (y_6 : Int32) (y_7 : Int32) (y_8 : Int32) (M : zMem) (H : Heap) (locs : List Loc) (ls : Array Slot), zWo w s.heap M H locs → lv_has ls 10 [(0, .ref (zad w k)), (1, .int a1), (2, .ref (zad w t2)), (3, .int a3), (4, .int y_4), (5, .int y_5), (6, .int y_6), (7, .int y_7), (8, .int y_8)] → J y_4 y_5 y_6 y_7 y_8 M → W p l e (zRm 1 22) s m ([.ref (zad w k), .int a1, .ref (zad w t2), .int a3] : List Value).toArray below meth c H locs 0 0 (MQ below (va_Qi post (zB w) (zA w)) ([.ref (zad w k), .int a1, .ref (zad w t2), .int a3] : List Value).toArray s 0 0 (zA w)) (F0 m 17 ls [])) (M : zMem) (H : Heap) (locs : List Loc) (ls : Array Slot), zWo w s.heap M H locs → lv_has ls 10 [(0, .ref (zad w k)), (1, .int a1), (2, .ref (zad w t2)), (3, .int a3), (4, .int x_4), (5, .int x_5), (6, .int x_6), (7, .int x_7), (8, .int x_8)] → wpJ_Handings_placesOf_92 k a1 t2 a3 K137 J post x_4 x_5 x_6 x_7 x_8 M → W p l e (zRm 1 22) s m ([.ref (zad w k), .int a1, .ref (zad w t2), .int a3] : List Value).toArray below meth c H locs 0 0 (MQ below (va_Qi post (zB w) (zA w)) ([.ref (zad w k), .int a1, .ref (zad w t2), .int a3] : List Value).toArray s 0 0 (zA w)) (F0 m 92 ls []) := by
    intro x_4 x_5 x_6 x_7 x_8 K137 zK137 J zJ M H locs ls hW hl h
    unfold wpJ_Handings_placesOf_92 at h
    refine lv_iload hx hb dX2_placesOf_92 (lv_at hl 7 rfl) ?_
    refine lv_if_eq (tgt := 125) hx hb dX2_placesOf_94 rfl (fun c => ?_) (fun c => ?_)
    · replace h := h.1 c
      refine lv_iconst hx hb dX2_placesOf_125 zc_i0 ?_
      refine lv_istore (lv' := [(7, .int 0), (0, .ref (zad w k)), (1, .int a1), (2, .ref (zad w t2)), (3, .int a3), (4, .int x_4), (5, .int x_5), (6, .int x_6), (8, .int x_8)]) hx hb dX2_placesOf_126 hl (Nat.le_of_ble_eq_true rfl) rfl (fun ls hl => ?_)
      obtain ⟨zx8, ezx8⟩ : ∃ y : Int32, y = x_4 + 1 := ⟨_, rfl⟩
      replace h := h zx8 ezx8
      refine lv_iinc (v := zx8) (lv' := [(4, .int zx8), (7, .int 0), (0, .ref (zad w k)), (1, .int a1), (2, .ref (zad w t2)), (3, .int a3), (5, .int x_5), (6, .int x_6), (8, .int x_8)]) hx hb dX2_placesOf_128 hl (k := 5) rfl (by rw [ezx8, zc_i1]) (Nat.le_of_ble_eq_true rfl) rfl (fun ls hl => ?_)
      obtain ⟨zx9, ezx9⟩ : ∃ y : Int32, y = x_8 + 1 := ⟨_, rfl⟩
      replace h := h zx9 ezx9
      refine lv_iinc (v := zx9) (lv' := [(8, .int zx9), (4, .int zx8), (7, .int 0), (0, .ref (zad w k)), (1, .int a1), (2, .ref (zad w t2)), (3, .int a3), (5, .int x_5), (6, .int x_6)]) hx hb dX2_placesOf_131 hl (k := 8) rfl (by rw [ezx9, zc_i1]) (Nat.le_of_ble_eq_true rfl) rfl (fun ls hl => ?_)
      refine lv_goto (tgt := 17) hx hb dX2_placesOf_134 rfl ?_
      exact zJ zx8 x_5 x_6 0 zx9 M H locs ls hW (lv_sub hl [3, 4, 5, 6, 1, 7, 8, 2, 0] rfl) h
    · replace h := h.2 c
      refine lv_aload_n hx hb dX2_placesOf_97 rfl (lv_at hl 0 rfl) ?_
      refine lv_iload hx hb dX2_placesOf_98 (lv_at hl 8 rfl) ?_
      refine lv_iconst hx hb dX2_placesOf_100 zc_i2 ?_
      refine zcalli (zrunV (As := [.int x_8, .int 2]) (rest := []) X hml hl hW h0.1 rfl zk_Handings_19 (c_Handings_valueOf h0 h) rfl ⟨Nat.le_of_ble_eq_true rfl, Nat.le_of_ble_eq_true rfl⟩ ⟨Nat.le_refl 0, Nat.le_refl 0⟩ rfl (Nat.le_of_ble_eq_true rfl) dX2_placesOf_101) hW (fun zr11 zm10 H locs h hW => ?_)
      refine lv_iload hx hb dX2_placesOf_104 (lv_at hl 5 rfl) ?_
      refine lv_icmp_ne (tgt := 125) hx hb dX2_placesOf_106 rfl (fun c => ?_) (fun c => ?_)
      · replace h := h.1 c
        refine lv_iconst hx hb dX2_placesOf_125 zc_i0 ?_
        refine lv_istore (lv' := [(7, .int 0), (0, .ref (zad w k)), (1, .int a1), (2, .ref (zad w t2)), (3, .int a3), (4, .int x_4), (5, .int x_5), (6, .int x_6), (8, .int x_8)]) hx hb dX2_placesOf_126 hl (Nat.le_of_ble_eq_true rfl) rfl (fun ls hl => ?_)
        obtain ⟨zx12, ezx12⟩ : ∃ y : Int32, y = x_4 + 1 := ⟨_, rfl⟩
        replace h := h zx12 ezx12
        refine lv_iinc (v := zx12) (lv' := [(4, .int zx12), (7, .int 0), (0, .ref (zad w k)), (1, .int a1), (2, .ref (zad w t2)), (3, .int a3), (5, .int x_5), (6, .int x_6), (8, .int x_8)]) hx hb dX2_placesOf_128 hl (k := 5) rfl (by rw [ezx12, zc_i1]) (Nat.le_of_ble_eq_true rfl) rfl (fun ls hl => ?_)
        obtain ⟨zx13, ezx13⟩ : ∃ y : Int32, y = x_8 + 1 := ⟨_, rfl⟩
        replace h := h zx13 ezx13
        refine lv_iinc (v := zx13) (lv' := [(8, .int zx13), (4, .int zx12), (7, .int 0), (0, .ref (zad w k)), (1, .int a1), (2, .ref (zad w t2)), (3, .int a3), (5, .int x_5), (6, .int x_6)]) hx hb dX2_placesOf_131 hl (k := 8) rfl (by rw [ezx13, zc_i1]) (Nat.le_of_ble_eq_true rfl) rfl (fun ls hl => ?_)
        refine lv_goto (tgt := 17) hx hb dX2_placesOf_134 rfl ?_
        exact zJ zx12 x_5 x_6 0 zx13 zm10 H locs ls hW (lv_sub hl [3, 4, 5, 6, 1, 7, 8, 2, 0] rfl) h
      · replace h := h.2 c
        refine lv_aload_n hx hb dX2_placesOf_109 rfl (lv_at hl 0 rfl) ?_
        refine lv_iload hx hb dX2_placesOf_110 (lv_at hl 8 rfl) ?_
        refine lv_iconst hx hb dX2_placesOf_112 zc_i3 ?_
        refine zcalli (zrunV (As := [.int x_8, .int 3]) (rest := []) X hml hl hW h0.1 rfl zk_Handings_19 (c_Handings_valueOf h0 h) rfl ⟨Nat.le_of_ble_eq_true rfl, Nat.le_of_ble_eq_true rfl⟩ ⟨Nat.le_refl 0, Nat.le_refl 0⟩ rfl (Nat.le_of_ble_eq_true rfl) dX2_placesOf_113) hW (fun zr15 zm14 H locs h hW => ?_)
        refine lv_iload hx hb dX2_placesOf_116 (lv_at hl 6 rfl) ?_
        refine lv_icmp_ne (tgt := 125) hx hb dX2_placesOf_118 rfl (fun c => ?_) (fun c => ?_)
        · replace h := h.1 c
          refine lv_iconst hx hb dX2_placesOf_125 zc_i0 ?_
          refine lv_istore (lv' := [(7, .int 0), (0, .ref (zad w k)), (1, .int a1), (2, .ref (zad w t2)), (3, .int a3), (4, .int x_4), (5, .int x_5), (6, .int x_6), (8, .int x_8)]) hx hb dX2_placesOf_126 hl (Nat.le_of_ble_eq_true rfl) rfl (fun ls hl => ?_)
          obtain ⟨zx16, ezx16⟩ : ∃ y : Int32, y = x_4 + 1 := ⟨_, rfl⟩
          replace h := h zx16 ezx16
          refine lv_iinc (v := zx16) (lv' := [(4, .int zx16), (7, .int 0), (0, .ref (zad w k)), (1, .int a1), (2, .ref (zad w t2)), (3, .int a3), (5, .int x_5), (6, .int x_6), (8, .int x_8)]) hx hb dX2_placesOf_128 hl (k := 5) rfl (by rw [ezx16, zc_i1]) (Nat.le_of_ble_eq_true rfl) rfl (fun ls hl => ?_)
          obtain ⟨zx17, ezx17⟩ : ∃ y : Int32, y = x_8 + 1 := ⟨_, rfl⟩
          replace h := h zx17 ezx17
          refine lv_iinc (v := zx17) (lv' := [(8, .int zx17), (4, .int zx16), (7, .int 0), (0, .ref (zad w k)), (1, .int a1), (2, .ref (zad w t2)), (3, .int a3), (5, .int x_5), (6, .int x_6)]) hx hb dX2_placesOf_131 hl (k := 8) rfl (by rw [ezx17, zc_i1]) (Nat.le_of_ble_eq_true rfl) rfl (fun ls hl => ?_)
          refine lv_goto (tgt := 17) hx hb dX2_placesOf_134 rfl ?_
          exact zJ zx16 x_5 x_6 0 zx17 zm14 H locs ls hW (lv_sub hl [3, 4, 5, 6, 1, 7, 8, 2, 0] rfl) h
        · replace h := h.2 c
          refine lv_iconst hx hb dX2_placesOf_121 zc_i1 ?_
          refine lv_goto (tgt := 126) hx hb dX2_placesOf_122 rfl ?_
          refine lv_istore (lv' := [(7, .int 1), (0, .ref (zad w k)), (1, .int a1), (2, .ref (zad w t2)), (3, .int a3), (4, .int x_4), (5, .int x_5), (6, .int x_6), (8, .int x_8)]) hx hb dX2_placesOf_126 hl (Nat.le_of_ble_eq_true rfl) rfl (fun ls hl => ?_)
          obtain ⟨zx18, ezx18⟩ : ∃ y : Int32, y = x_4 + 1 := ⟨_, rfl⟩
          replace h := h zx18 ezx18
          refine lv_iinc (v := zx18) (lv' := [(4, .int zx18), (7, .int 1), (0, .ref (zad w k)), (1, .int a1), (2, .ref (zad w t2)), (3, .int a3), (5, .int x_5), (6, .int x_6), (8, .int x_8)]) hx hb dX2_placesOf_128 hl (k := 5) rfl (by rw [ezx18, zc_i1]) (Nat.le_of_ble_eq_true rfl) rfl (fun ls hl => ?_)
          obtain ⟨zx19, ezx19⟩ : ∃ y : Int32, y = x_8 + 1 := ⟨_, rfl⟩
          replace h := h zx19 ezx19
          refine lv_iinc (v := zx19) (lv' := [(8, .int zx19), (4, .int zx18), (7, .int 1), (0, .ref (zad w k)), (1, .int a1), (2, .ref (zad w t2)), (3, .int a3), (5, .int x_5), (6, .int x_6)]) hx hb dX2_placesOf_131 hl (k := 8) rfl (by rw [ezx19, zc_i1]) (Nat.le_of_ble_eq_true rfl) rfl (fun ls hl => ?_)
          refine lv_goto (tgt := 17) hx hb dX2_placesOf_134 rfl ?_
          exact zJ zx18 x_5 x_6 1 zx19 zm14 H locs ls hW (lv_sub hl [3, 4, 5, 6, 1, 7, 8, 2, 0] rfl) h
  have zL_17 : ∀ (K137 : Int32 → Int32 → Int32 → Int32 → zMem → Prop) (zK137 : ∀ (y_4 : Int32) (y_5 : Int32) (y_6 : Int32) (y_7 : Int32) (M : zMem) (H : Heap) (locs : List Loc) (ls : Array Slot), zWo w s.heap M H locs → lv_has ls 10 [(3, .int a3), (4, .int y_4), (5, .int y_5), (6, .int y_6), (7, .int y_7)] → K137 y_4 y_5 y_6 y_7 M → W p l e (zRm 1 22) s m ([.ref (zad w k), .int a1, .ref (zad w t2), .int a3] : List Value).toArray below meth c H locs 0 0 (MQ below (va_Qi post (zB w) (zA w)) ([.ref (zad w k), .int a1, .ref (zad w t2), .int a3] : List Value).toArray s 0 0 (zA w)) (F0 m 137 ls [])), ∀ (n : Nat) (x_4 : Int32) (x_5 : Int32) (x_6 : Int32) (x_7 : Int32) (x_8 : Int32) (M : zMem) (H : Heap) (locs : List Loc) (ls : Array Slot), zWo w s.heap M H locs → lv_has ls 10 [(0, .ref (zad w k)), (1, .int a1), (2, .ref (zad w t2)), (3, .int a3), (4, .int x_4), (5, .int x_5), (6, .int x_6), (7, .int x_7), (8, .int x_8)] → zlp5 (wpB_Handings_placesOf_17 k a1 t2 a3  K137 post) n x_4 x_5 x_6 x_7 x_8 M → W p l e (zRm 1 22) s m ([.ref (zad w k), .int a1, .ref (zad w t2), .int a3] : List Value).toArray below meth c H locs 0 0 (MQ below (va_Qi post (zB w) (zA w)) ([.ref (zad w k), .int a1, .ref (zad w t2), .int a3] : List Value).toArray s 0 0 (zA w)) (F0 m 17 ls []) := by
    intro K137 zK137 n
    induction n with
    | zero => intro x_4 x_5 x_6 x_7 x_8 M H locs ls hW hl h; exact h.elim
    | succ n zJ =>
      intro x_4 x_5 x_6 x_7 x_8 M H locs ls hW hl h
      have h : wpB_Handings_placesOf_17 k a1 t2 a3  K137 post (zlp5 (wpB_Handings_placesOf_17 k a1 t2 a3  K137 post) n) x_4 x_5 x_6 x_7 x_8 M := h
      unfold wpB_Handings_placesOf_17 at h
      refine lv_iload hx hb dX2_placesOf_17 (lv_at hl 8 rfl) ?_
      refine lv_aload_n hx hb dX2_placesOf_19 rfl (lv_at hl 0 rfl) ?_
      refine zg_Handings_size X hW h0 zu_233 dX2_placesOf_20 ?_
      refine lv_icmp_ge (tgt := 137) hx hb dX2_placesOf_23 rfl (fun c => ?_) (fun c => ?_)
      · replace h := h.1 c
        exact zK137 x_4 x_5 x_6 x_7 M H locs ls hW (lv_sub hl [3, 4, 5, 6, 7] rfl) h
      · replace h := h.2 c
        refine lv_aload_n hx hb dX2_placesOf_26 rfl (lv_at hl 0 rfl) ?_
        refine lv_iload hx hb dX2_placesOf_27 (lv_at hl 8 rfl) ?_
        refine lv_iconst hx hb dX2_placesOf_29 zc_i0 ?_
        refine zcalli (zrunV (As := [.int x_8, .int 0]) (rest := []) X hml hl hW h0.1 rfl zk_Handings_19 (c_Handings_valueOf h0 h) rfl ⟨Nat.le_of_ble_eq_true rfl, Nat.le_of_ble_eq_true rfl⟩ ⟨Nat.le_refl 0, Nat.le_refl 0⟩ rfl (Nat.le_of_ble_eq_true rfl) dX2_placesOf_30) hW (fun zr2 zm1 H locs h hW => ?_)
        refine lv_istore (lv' := [(9, .int zr2), (0, .ref (zad w k)), (1, .int a1), (2, .ref (zad w t2)), (3, .int a3), (4, .int x_4), (5, .int x_5), (6, .int x_6), (7, .int x_7), (8, .int x_8)]) hx hb dX2_placesOf_33 hl (Nat.le_of_ble_eq_true rfl) rfl (fun ls hl => ?_)
        refine lv_aload_n hx hb dX2_placesOf_35 rfl (lv_at hl 1 rfl) ?_
        refine lv_iload hx hb dX2_placesOf_36 (lv_at hl 9 rfl) ?_
        refine lv_iconst hx hb dX2_placesOf_38 zc_i1 ?_
        refine zcalli (zrunV (As := [.int x_8, .int 1]) (rest := []) X hml hl hW h0.1 rfl zk_Handings_19 (c_Handings_valueOf h0 h) rfl ⟨Nat.le_of_ble_eq_true rfl, Nat.le_of_ble_eq_true rfl⟩ ⟨Nat.le_refl 0, Nat.le_refl 0⟩ rfl (Nat.le_of_ble_eq_true rfl) dX2_placesOf_39) hW (fun zr4 zm3 H locs h hW => ?_)
        refine lv_iload_n hx hb dX2_placesOf_42 rfl (lv_at hl 2 rfl) ?_
        refine lv_icmp_ne (tgt := 131) hx hb dX2_placesOf_43 rfl (fun c => ?_) (fun c => ?_)
        · replace h := h.1 c
          obtain ⟨zx5, ezx5⟩ : ∃ y : Int32, y = x_8 + 1 := ⟨_, rfl⟩
          replace h := h zx5 ezx5
          refine lv_iinc (v := zx5) (lv' := [(8, .int zx5), (9, .int zr2), (0, .ref (zad w k)), (1, .int a1), (2, .ref (zad w t2)), (3, .int a3), (4, .int x_4), (5, .int x_5), (6, .int x_6), (7, .int x_7)]) hx hb dX2_placesOf_131 hl (k := 9) rfl (by rw [ezx5, zc_i1]) (Nat.le_of_ble_eq_true rfl) rfl (fun ls hl => ?_)
          refine lv_goto (tgt := 17) hx hb dX2_placesOf_134 rfl ?_
          exact zJ x_4 x_5 x_6 x_7 zx5 zm3 H locs ls hW (lv_sub hl [2, 3, 4, 5, 6, 7, 8, 9, 0] rfl) h
        · replace h := h.2 c
          refine lv_iload hx hb dX2_placesOf_46 (lv_at hl 0 rfl) ?_
          refine lv_aload_n hx hb dX2_placesOf_48 rfl (lv_at hl 3 rfl) ?_
          refine zg_Ring_from X hW h2 zu_305 dX2_placesOf_49 ?_
          refine lv_icmp_le (tgt := 131) hx hb dX2_placesOf_52 rfl (fun c => ?_) (fun c => ?_)
          · replace h := h.1 c
            obtain ⟨zx6, ezx6⟩ : ∃ y : Int32, y = x_8 + 1 := ⟨_, rfl⟩
            replace h := h zx6 ezx6
            refine lv_iinc (v := zx6) (lv' := [(8, .int zx6), (9, .int zr2), (0, .ref (zad w k)), (1, .int a1), (2, .ref (zad w t2)), (3, .int a3), (4, .int x_4), (5, .int x_5), (6, .int x_6), (7, .int x_7)]) hx hb dX2_placesOf_131 hl (k := 9) rfl (by rw [ezx6, zc_i1]) (Nat.le_of_ble_eq_true rfl) rfl (fun ls hl => ?_)
            refine lv_goto (tgt := 17) hx hb dX2_placesOf_134 rfl ?_
            exact zJ x_4 x_5 x_6 x_7 zx6 zm3 H locs ls hW (lv_sub hl [2, 3, 4, 5, 6, 7, 8, 9, 0] rfl) h
          · replace h := h.2 c
            refine lv_iload hx hb dX2_placesOf_55 (lv_at hl 0 rfl) ?_
            refine lv_aload_n hx hb dX2_placesOf_57 rfl (lv_at hl 3 rfl) ?_
            refine zg_Ring_from X hW h2 zu_305 dX2_placesOf_58 ?_
            refine lv_aload_n hx hb dX2_placesOf_61 rfl (lv_at hl 3 rfl) ?_
            refine zg_Ring_ticks X hW h2 zu_302 dX2_placesOf_62 ?_
            refine lv_iadd hx hb dX2_placesOf_65 ?_
            refine lv_icmp_gt (tgt := 131) hx hb dX2_placesOf_66 rfl (fun c => ?_) (fun c => ?_)
            · replace h := h.1 c
              obtain ⟨zx7, ezx7⟩ : ∃ y : Int32, y = x_8 + 1 := ⟨_, rfl⟩
              replace h := h zx7 ezx7
              refine lv_iinc (v := zx7) (lv' := [(8, .int zx7), (9, .int zr2), (0, .ref (zad w k)), (1, .int a1), (2, .ref (zad w t2)), (3, .int a3), (4, .int x_4), (5, .int x_5), (6, .int x_6), (7, .int x_7)]) hx hb dX2_placesOf_131 hl (k := 9) rfl (by rw [ezx7, zc_i1]) (Nat.le_of_ble_eq_true rfl) rfl (fun ls hl => ?_)
              refine lv_goto (tgt := 17) hx hb dX2_placesOf_134 rfl ?_
              exact zJ x_4 x_5 x_6 x_7 zx7 zm3 H locs ls hW (lv_sub hl [2, 3, 4, 5, 6, 7, 8, 9, 0] rfl) h
            · replace h := h.2 c
              refine lv_iload hx hb dX2_placesOf_69 (lv_at hl 5 rfl) ?_
              refine lv_if_ne (tgt := 92) hx hb dX2_placesOf_71 rfl (fun c => ?_) (fun c => ?_)
              · replace h := h.1 c
                exact zJ_92 x_4 x_5 x_6 x_7 x_8 _ zK137 _ zJ zm3 H locs ls hW (lv_sub hl [1, 2, 3, 4, 5, 6, 7, 8, 9] rfl) h
              · replace h := h.2 c
                refine lv_aload_n hx hb dX2_placesOf_74 rfl (lv_at hl 1 rfl) ?_
                refine lv_iload hx hb dX2_placesOf_75 (lv_at hl 9 rfl) ?_
                refine lv_iconst hx hb dX2_placesOf_77 zc_i2 ?_
                refine zcalli (zrunV (As := [.int x_8, .int 2]) (rest := []) X hml hl hW h0.1 rfl zk_Handings_19 (c_Handings_valueOf h0 h) rfl ⟨Nat.le_of_ble_eq_true rfl, Nat.le_of_ble_eq_true rfl⟩ ⟨Nat.le_refl 0, Nat.le_refl 0⟩ rfl (Nat.le_of_ble_eq_true rfl) dX2_placesOf_78) hW (fun zr21 zm20 H locs h hW => ?_)
                refine lv_istore (lv' := [(5, .int zr21), (9, .int zr2), (0, .ref (zad w k)), (1, .int a1), (2, .ref (zad w t2)), (3, .int a3), (4, .int x_4), (6, .int x_6), (7, .int x_7), (8, .int x_8)]) hx hb dX2_placesOf_81 hl (Nat.le_of_ble_eq_true rfl) rfl (fun ls hl => ?_)
                refine lv_aload_n hx hb dX2_placesOf_83 rfl (lv_at hl 2 rfl) ?_
                refine lv_iload hx hb dX2_placesOf_84 (lv_at hl 9 rfl) ?_
                refine lv_iconst hx hb dX2_placesOf_86 zc_i3 ?_
                refine zcalli (zrunV (As := [.int x_8, .int 3]) (rest := []) X hml hl hW h0.1 rfl zk_Handings_19 (c_Handings_valueOf h0 h) rfl ⟨Nat.le_of_ble_eq_true rfl, Nat.le_of_ble_eq_true rfl⟩ ⟨Nat.le_refl 0, Nat.le_refl 0⟩ rfl (Nat.le_of_ble_eq_true rfl) dX2_placesOf_87) hW (fun zr23 zm22 H locs h hW => ?_)
                refine lv_istore (lv' := [(6, .int zr23), (5, .int zr21), (9, .int zr2), (0, .ref (zad w k)), (1, .int a1), (2, .ref (zad w t2)), (3, .int a3), (4, .int x_4), (7, .int x_7), (8, .int x_8)]) hx hb dX2_placesOf_90 hl (Nat.le_of_ble_eq_true rfl) rfl (fun ls hl => ?_)
                exact zJ_92 x_4 zr21 zr23 x_7 x_8 _ zK137 _ zJ zm22 H locs ls hW (lv_sub hl [3, 4, 5, 6, 7, 1, 0, 8, 9] rfl) h
  unfold wp_Handings_placesOf at h
  have zMain : ∀ (H : Heap) (locs : List Loc) (ls : Array Slot), zWo w s.heap M H locs → lv_has ls 10 [(0, .ref (zad w k)), (1, .int a1), (2, .ref (zad w t2)), (3, .int a3)] → W p l e (zRm 1 22) s m ([.ref (zad w k), .int a1, .ref (zad w t2), .int a3] : List Value).toArray below meth c H locs 0 0 (MQ below (va_Qi post (zB w) (zA w)) ([.ref (zad w k), .int a1, .ref (zad w t2), .int a3] : List Value).toArray s 0 0 (zA w)) (F0 m 0 ls []) := by
    intro H locs ls hW hl
    refine lv_iconst hx hb dX2_placesOf_0 zc_i0 ?_
    refine lv_istore (lv' := [(4, .int 0), (0, .ref (zad w k)), (1, .int a1), (2, .ref (zad w t2)), (3, .int a3)]) hx hb dX2_placesOf_1 hl (Nat.le_of_ble_eq_true rfl) rfl (fun ls hl => ?_)
    refine lv_bipush hx hb dX2_placesOf_3 zc_bm4 ?_
    refine lv_istore (lv' := [(5, .int ((-4))), (4, .int 0), (0, .ref (zad w k)), (1, .int a1), (2, .ref (zad w t2)), (3, .int a3)]) hx hb dX2_placesOf_5 hl (Nat.le_of_ble_eq_true rfl) rfl (fun ls hl => ?_)
    refine lv_bipush hx hb dX2_placesOf_7 zc_bm4 ?_
    refine lv_istore (lv' := [(6, .int ((-4))), (5, .int ((-4))), (4, .int 0), (0, .ref (zad w k)), (1, .int a1), (2, .ref (zad w t2)), (3, .int a3)]) hx hb dX2_placesOf_9 hl (Nat.le_of_ble_eq_true rfl) rfl (fun ls hl => ?_)
    refine lv_iconst hx hb dX2_placesOf_11 zc_i1 ?_
    refine lv_istore (lv' := [(7, .int 1), (6, .int ((-4))), (5, .int ((-4))), (4, .int 0), (0, .ref (zad w k)), (1, .int a1), (2, .ref (zad w t2)), (3, .int a3)]) hx hb dX2_placesOf_12 hl (Nat.le_of_ble_eq_true rfl) rfl (fun ls hl => ?_)
    refine lv_iconst hx hb dX2_placesOf_14 zc_i0 ?_
    refine lv_istore (lv' := [(8, .int 0), (7, .int 1), (6, .int ((-4))), (5, .int ((-4))), (4, .int 0), (0, .ref (zad w k)), (1, .int a1), (2, .ref (zad w t2)), (3, .int a3)]) hx hb dX2_placesOf_15 hl (Nat.le_of_ble_eq_true rfl) rfl (fun ls hl => ?_)
    obtain ⟨n, h⟩ := h
    refine zL_17  _ (fun zx25 zx26 zx27 zx28 zm24 H locs ls hW hl h => ?_) n 0 ((-4)) ((-4)) 1 0 M H locs ls hW (lv_sub hl [5, 6, 7, 8, 4, 3, 2, 1, 0] rfl) h
    · skip
      refine lv_iload_n hx hb dX2_placesOf_137 rfl (lv_at hl 0 rfl) ?_
      refine lv_topi (fun zx29 ezx29 => ?_)
      replace h := h zx29 ezx29
      by_cases c0 : zx29 = 0
      · replace h := h.1 c0
        refine lv_tableIn (off := 26) (tgt := 164) hx hb dX2_placesOf_138 (by rw [c0]; decide) (by rw [c0]; decide) (by rw [c0]; rfl) rfl ?_
        refine lv_iload hx hb dX2_placesOf_164 (lv_at hl 1 rfl) ?_
        exact zreti X hr hlk hW h dX2_placesOf_166
      replace h := h.2
      by_cases c1 : zx29 = 1
      · replace h := h.1 c1
        refine lv_tableIn (off := 29) (tgt := 167) hx hb dX2_placesOf_138 (by rw [c1]; decide) (by rw [c1]; decide) (by rw [c1]; rfl) rfl ?_
        refine lv_iload hx hb dX2_placesOf_167 (lv_at hl 4 rfl) ?_
        refine lv_if_eq (tgt := 181) hx hb dX2_placesOf_169 rfl (fun c => ?_) (fun c => ?_)
        · replace h := h.1 c
          refine lv_iconst hx hb dX2_placesOf_181 zc_i0 ?_
          exact zreti X hr hlk hW h dX2_placesOf_182
        · replace h := h.2 c
          refine lv_iload hx hb dX2_placesOf_172 (lv_at hl 1 rfl) ?_
          refine lv_if_le (tgt := 181) hx hb dX2_placesOf_174 rfl (fun c => ?_) (fun c => ?_)
          · replace h := h.1 c
            refine lv_iconst hx hb dX2_placesOf_181 zc_i0 ?_
            exact zreti X hr hlk hW h dX2_placesOf_182
          · replace h := h.2 c
            refine lv_iconst hx hb dX2_placesOf_177 zc_i1 ?_
            refine lv_goto (tgt := 182) hx hb dX2_placesOf_178 rfl ?_
            exact zreti X hr hlk hW h dX2_placesOf_182
      replace h := h.2
      by_cases c2 : zx29 = 2
      · replace h := h.1 c2
        refine lv_tableIn (off := 45) (tgt := 183) hx hb dX2_placesOf_138 (by rw [c2]; decide) (by rw [c2]; decide) (by rw [c2]; rfl) rfl ?_
        refine lv_iload hx hb dX2_placesOf_183 (lv_at hl 2 rfl) ?_
        exact zreti X hr hlk hW h dX2_placesOf_185
      replace h := h.2
      replace h := h c0 c1 c2
      refine lv_tableOut (tgt := 186) hx hb dX2_placesOf_138 (zsw 2 (Nat.le_of_ble_eq_true rfl) (fun j hj => ?_)) rfl ?_
      · rcases (show j = 0 ∨ j = 1 ∨ j = 2 by omega) with rfl | rfl | rfl
        · exact c0
        · exact c1
        · exact c2
      refine lv_iload hx hb dX2_placesOf_186 (lv_at hl 3 rfl) ?_
      exact zreti X hr hlk hW h dX2_placesOf_188
  exact zMain s.heap [] ls hW hl
def wpB_Bench_makeReady_7 (k : Nat)   (Q : zMem → Prop) (J : Int32 → zMem → Prop) (x_1 : Int32) (M : zMem) : Prop :=
  (5 ≤ x_1 → Q M) ∧ (¬ 5 ≤ x_1 → vp_in x_1 5 ∧ ∀ zm2 : zMem, zm2 = zup M (k + 1) (ix x_1) 0 → vp_in x_1 5 ∧ ∀ zm3 : zMem, zm3 = zup zm2 (k + 2) (ix x_1) 0 → vp_in x_1 5 ∧ ∀ zm4 : zMem, zm4 = zup zm3 (k + 3) (ix x_1) ((-1)) → ∀ zx5 : Int32, zx5 = x_1 + 1 → J zx5 zm4)
def wp_Bench_makeReady (k : Nat) (M : zMem) (Q : zMem → Prop) : Prop :=
  ∀ zm1 : zMem, zm1 = zup M k 5 0 → ∃ n : Nat, zlp1 (wpB_Bench_makeReady_7 k   Q) n 0 zm1
set_option maxHeartbeats 4000000 in
set_option maxRecDepth 20000 in
theorem c_Bench_makeReady {l : Launch} {w : zWd} {k : Nat} {M : zMem} {post : zMem → Prop} (h0 : zI_Bench w k) (h : wp_Bench_makeReady k M post) : zMv l ⟨"HandToHand$Bench", "makeReady", "()V"⟩ prog_2_method_3_code 2 none 0 0 w [.ref (zad w k)] M post := by
  refine zMet (by decide) (Nat.le_of_ble_eq_true rfl) ?_
  intro p e s m below meth c X hr hlk hml hW ls hl
  have hx := X.1
  have hb := X.2.1
  have hl : lv_has ls 2 [(0, .ref (zad w k))] := hl
  have zL_7 :  ∀ (n : Nat) (x_1 : Int32) (M : zMem) (H : Heap) (locs : List Loc) (ls : Array Slot), zWo w s.heap M H locs → lv_has ls 2 [(0, .ref (zad w k)), (1, .int x_1)] → zlp1 (wpB_Bench_makeReady_7 k   post) n x_1 M → W p l e (zRm 0 0) s m ([.ref (zad w k)] : List Value).toArray below meth c H locs 0 0 (MQ below (va_Qv post (zB w) (zA w)) ([.ref (zad w k)] : List Value).toArray s 0 0 (zA w)) (F0 m 7 ls []) := by
    intro n
    induction n with
    | zero => intro x_1 M H locs ls hW hl h; exact h.elim
    | succ n zJ =>
      intro x_1 M H locs ls hW hl h
      have h : wpB_Bench_makeReady_7 k   post (zlp1 (wpB_Bench_makeReady_7 k   post) n) x_1 M := h
      unfold wpB_Bench_makeReady_7 at h
      refine lv_iload_n hx hb dX0_makeReady_7 rfl (lv_at hl 1 rfl) ?_
      refine lv_iconst hx hb dX0_makeReady_8 zc_i5 ?_
      refine lv_icmp_ge (tgt := 39) hx hb dX0_makeReady_9 rfl (fun c => ?_) (fun c => ?_)
      · replace h := h.1 c
        exact zretv X hr hlk hW h dX0_makeReady_39
      · replace h := h.2 c
        refine lv_aload_n hx hb dX0_makeReady_12 rfl (lv_at hl 0 rfl) ?_
        refine zg_Bench_doing X hW h0 zu_175 dX0_makeReady_13 ?_
        refine lv_iload_n hx hb dX0_makeReady_16 rfl (lv_at hl 1 rfl) ?_
        refine lv_iconst hx hb dX0_makeReady_17 zc_i0 ?_
        obtain ⟨g, h⟩ := h
        refine ziast X hW h0.2.1 g dX0_makeReady_18 (fun H locs zm2 ezm2 hW => ?_)
        replace h := h zm2 ezm2
        refine lv_aload_n hx hb dX0_makeReady_19 rfl (lv_at hl 0 rfl) ?_
        refine zg_Bench_left X hW h0 zu_177 dX0_makeReady_20 ?_
        refine lv_iload_n hx hb dX0_makeReady_23 rfl (lv_at hl 1 rfl) ?_
        refine lv_iconst hx hb dX0_makeReady_24 zc_i0 ?_
        obtain ⟨g, h⟩ := h
        refine ziast X hW h0.2.2.1 g dX0_makeReady_25 (fun H locs zm3 ezm3 hW => ?_)
        replace h := h zm3 ezm3
        refine lv_aload_n hx hb dX0_makeReady_26 rfl (lv_at hl 0 rfl) ?_
        refine zg_Bench_piece X hW h0 zu_179 dX0_makeReady_27 ?_
        refine lv_iload_n hx hb dX0_makeReady_30 rfl (lv_at hl 1 rfl) ?_
        refine lv_iconst hx hb dX0_makeReady_31 zc_im1 ?_
        obtain ⟨g, h⟩ := h
        refine ziast X hW h0.2.2.2.1 g dX0_makeReady_32 (fun H locs zm4 ezm4 hW => ?_)
        replace h := h zm4 ezm4
        obtain ⟨zx5, ezx5⟩ : ∃ y : Int32, y = x_1 + 1 := ⟨_, rfl⟩
        replace h := h zx5 ezx5
        refine lv_iinc (v := zx5) (lv' := [(1, .int zx5), (0, .ref (zad w k))]) hx hb dX0_makeReady_33 hl (k := 1) rfl (by rw [ezx5, zc_i1]) (Nat.le_of_ble_eq_true rfl) rfl (fun ls hl => ?_)
        refine lv_goto (tgt := 7) hx hb dX0_makeReady_36 rfl ?_
        exact zJ zx5 zm4 H locs ls hW (lv_sub hl [1, 0] rfl) h
  unfold wp_Bench_makeReady at h
  have zMain : ∀ (H : Heap) (locs : List Loc) (ls : Array Slot), zWo w s.heap M H locs → lv_has ls 2 [(0, .ref (zad w k))] → W p l e (zRm 0 0) s m ([.ref (zad w k)] : List Value).toArray below meth c H locs 0 0 (MQ below (va_Qv post (zB w) (zA w)) ([.ref (zad w k)] : List Value).toArray s 0 0 (zA w)) (F0 m 0 ls []) := by
    intro H locs ls hW hl
    refine lv_aload_n hx hb dX0_makeReady_0 rfl (lv_at hl 0 rfl) ?_
    refine lv_iconst hx hb dX0_makeReady_1 zc_i0 ?_
    refine zp_Bench_place X hW h0 zu_172 dX0_makeReady_2 (fun H locs zm1 ezm1 hW => ?_)
    replace h := h zm1 ezm1
    refine lv_iconst hx hb dX0_makeReady_5 zc_i0 ?_
    refine lv_istore_n (lv' := [(1, .int 0), (0, .ref (zad w k))]) hx hb dX0_makeReady_6 rfl hl (Nat.le_of_ble_eq_true rfl) rfl (fun ls hl => ?_)
    obtain ⟨n, h⟩ := h
    refine zL_7   n 0 zm1 H locs ls hW (lv_sub hl [1, 0] rfl) h
  exact zMain s.heap [] ls hW hl
def wpB_Bench_clear_17 (k : Nat)  (K35 : zMem → Prop) (Q : zMem → Prop) (J : Int32 → zMem → Prop) (x_1 : Int32) (M : zMem) : Prop :=
  (5 ≤ x_1 → K35 M) ∧ (¬ 5 ≤ x_1 → vp_in x_1 5 ∧ ∀ zm4 : zMem, zm4 = zup M (k + 6) (ix x_1) 0 → ∀ zx5 : Int32, zx5 = x_1 + 1 → J zx5 zm4)
def wpB_Bench_clear_37 (k : Nat)  (K56 : zMem → Prop) (Q : zMem → Prop) (J : Int32 → zMem → Prop) (x_1 : Int32) (M : zMem) : Prop :=
  (40 ≤ x_1 → K56 M) ∧ (¬ 40 ≤ x_1 → vp_in x_1 40 ∧ ∀ zm7 : zMem, zm7 = zup M (k + 7) (ix x_1) 0 → ∀ zx8 : Int32, zx8 = x_1 + 1 → J zx8 zm7)
def wpB_Bench_clear_58 (k : Nat)   (Q : zMem → Prop) (J : Int32 → zMem → Prop) (x_1 : Int32) (M : zMem) : Prop :=
  (8 ≤ x_1 → wp_Bench_makeReady k M (fun zm10 => Q zm10)) ∧ (¬ 8 ≤ x_1 → vp_in x_1 8 ∧ ∀ zm12 : zMem, zm12 = zup M (k + 8) (ix x_1) 0 → ∀ zx13 : Int32, zx13 = x_1 + 1 → J zx13 zm12)
def wp_Bench_clear (k : Nat) (M : zMem) (Q : zMem → Prop) : Prop :=
  ∀ zm1 : zMem, zm1 = zup M k 2 0 → ∀ zm2 : zMem, zm2 = zup zm1 k 3 0 → ∀ zm3 : zMem, zm3 = zup zm2 k 4 0 → ∃ n : Nat, zlp1 (wpB_Bench_clear_17 k  (fun (zm6 : zMem) => ∃ n : Nat, zlp1 (wpB_Bench_clear_37 k  (fun (zm9 : zMem) => ∃ n : Nat, zlp1 (wpB_Bench_clear_58 k   Q) n 0 zm9) Q) n 0 zm6) Q) n 0 zm3
set_option maxHeartbeats 4000000 in
set_option maxRecDepth 20000 in
theorem c_Bench_clear {l : Launch} {w : zWd} {k : Nat} {M : zMem} {post : zMem → Prop} (h0 : zI_Bench w k) (h : wp_Bench_clear k M post) : zMv l ⟨"HandToHand$Bench", "clear", "()V"⟩ prog_2_method_2_code 2 none 1 21 w [.ref (zad w k)] M post := by
  refine zMet (by decide) (Nat.le_of_ble_eq_true rfl) ?_
  intro p e s m below meth c X hr hlk hml hW ls hl
  have hx := X.1
  have hb := X.2.1
  have hl : lv_has ls 2 [(0, .ref (zad w k))] := hl
  have zL_17 : ∀ (K35 : zMem → Prop) (zK35 : ∀ (M : zMem) (H : Heap) (locs : List Loc) (ls : Array Slot), zWo w s.heap M H locs → lv_has ls 2 [(0, .ref (zad w k))] → K35 M → W p l e (zRm 1 21) s m ([.ref (zad w k)] : List Value).toArray below meth c H locs 0 0 (MQ below (va_Qv post (zB w) (zA w)) ([.ref (zad w k)] : List Value).toArray s 0 0 (zA w)) (F0 m 35 ls [])), ∀ (n : Nat) (x_1 : Int32) (M : zMem) (H : Heap) (locs : List Loc) (ls : Array Slot), zWo w s.heap M H locs → lv_has ls 2 [(0, .ref (zad w k)), (1, .int x_1)] → zlp1 (wpB_Bench_clear_17 k  K35 post) n x_1 M → W p l e (zRm 1 21) s m ([.ref (zad w k)] : List Value).toArray below meth c H locs 0 0 (MQ below (va_Qv post (zB w) (zA w)) ([.ref (zad w k)] : List Value).toArray s 0 0 (zA w)) (F0 m 17 ls []) := by
    intro K35 zK35 n
    induction n with
    | zero => intro x_1 M H locs ls hW hl h; exact h.elim
    | succ n zJ =>
      intro x_1 M H locs ls hW hl h
      have h : wpB_Bench_clear_17 k  K35 post (zlp1 (wpB_Bench_clear_17 k  K35 post) n) x_1 M := h
      unfold wpB_Bench_clear_17 at h
      refine lv_iload_n hx hb dX0_clear_17 rfl (lv_at hl 1 rfl) ?_
      refine lv_iconst hx hb dX0_clear_18 zc_i5 ?_
      refine lv_icmp_ge (tgt := 35) hx hb dX0_clear_19 rfl (fun c => ?_) (fun c => ?_)
      · replace h := h.1 c
        exact zK35 M H locs ls hW (lv_sub hl [0] rfl) h
      · replace h := h.2 c
        refine lv_aload_n hx hb dX0_clear_22 rfl (lv_at hl 0 rfl) ?_
        refine zg_Bench_waited X hW h0 zu_185 dX0_clear_23 ?_
        refine lv_iload_n hx hb dX0_clear_26 rfl (lv_at hl 1 rfl) ?_
        refine lv_iconst hx hb dX0_clear_27 zc_i0 ?_
        obtain ⟨g, h⟩ := h
        refine ziast X hW h0.2.2.2.2.2.2.1 g dX0_clear_28 (fun H locs zm4 ezm4 hW => ?_)
        replace h := h zm4 ezm4
        obtain ⟨zx5, ezx5⟩ : ∃ y : Int32, y = x_1 + 1 := ⟨_, rfl⟩
        replace h := h zx5 ezx5
        refine lv_iinc (v := zx5) (lv' := [(1, .int zx5), (0, .ref (zad w k))]) hx hb dX0_clear_29 hl (k := 1) rfl (by rw [ezx5, zc_i1]) (Nat.le_of_ble_eq_true rfl) rfl (fun ls hl => ?_)
        refine lv_goto (tgt := 17) hx hb dX0_clear_32 rfl ?_
        exact zJ zx5 zm4 H locs ls hW (lv_sub hl [1, 0] rfl) h
  have zL_37 : ∀ (K56 : zMem → Prop) (zK56 : ∀ (M : zMem) (H : Heap) (locs : List Loc) (ls : Array Slot), zWo w s.heap M H locs → lv_has ls 2 [(0, .ref (zad w k))] → K56 M → W p l e (zRm 1 21) s m ([.ref (zad w k)] : List Value).toArray below meth c H locs 0 0 (MQ below (va_Qv post (zB w) (zA w)) ([.ref (zad w k)] : List Value).toArray s 0 0 (zA w)) (F0 m 56 ls [])), ∀ (n : Nat) (x_1 : Int32) (M : zMem) (H : Heap) (locs : List Loc) (ls : Array Slot), zWo w s.heap M H locs → lv_has ls 2 [(0, .ref (zad w k)), (1, .int x_1)] → zlp1 (wpB_Bench_clear_37 k  K56 post) n x_1 M → W p l e (zRm 1 21) s m ([.ref (zad w k)] : List Value).toArray below meth c H locs 0 0 (MQ below (va_Qv post (zB w) (zA w)) ([.ref (zad w k)] : List Value).toArray s 0 0 (zA w)) (F0 m 37 ls []) := by
    intro K56 zK56 n
    induction n with
    | zero => intro x_1 M H locs ls hW hl h; exact h.elim
    | succ n zJ =>
      intro x_1 M H locs ls hW hl h
      have h : wpB_Bench_clear_37 k  K56 post (zlp1 (wpB_Bench_clear_37 k  K56 post) n) x_1 M := h
      unfold wpB_Bench_clear_37 at h
      refine lv_iload_n hx hb dX0_clear_37 rfl (lv_at hl 1 rfl) ?_
      refine lv_bipush hx hb dX0_clear_38 zc_b40 ?_
      refine lv_icmp_ge (tgt := 56) hx hb dX0_clear_40 rfl (fun c => ?_) (fun c => ?_)
      · replace h := h.1 c
        exact zK56 M H locs ls hW (lv_sub hl [0] rfl) h
      · replace h := h.2 c
        refine lv_aload_n hx hb dX0_clear_43 rfl (lv_at hl 0 rfl) ?_
        refine zg_Bench_learned X hW h0 zu_187 dX0_clear_44 ?_
        refine lv_iload_n hx hb dX0_clear_47 rfl (lv_at hl 1 rfl) ?_
        refine lv_iconst hx hb dX0_clear_48 zc_i0 ?_
        obtain ⟨g, h⟩ := h
        refine ziast X hW h0.2.2.2.2.2.2.2.1 g dX0_clear_49 (fun H locs zm7 ezm7 hW => ?_)
        replace h := h zm7 ezm7
        obtain ⟨zx8, ezx8⟩ : ∃ y : Int32, y = x_1 + 1 := ⟨_, rfl⟩
        replace h := h zx8 ezx8
        refine lv_iinc (v := zx8) (lv' := [(1, .int zx8), (0, .ref (zad w k))]) hx hb dX0_clear_50 hl (k := 1) rfl (by rw [ezx8, zc_i1]) (Nat.le_of_ble_eq_true rfl) rfl (fun ls hl => ?_)
        refine lv_goto (tgt := 37) hx hb dX0_clear_53 rfl ?_
        exact zJ zx8 zm7 H locs ls hW (lv_sub hl [1, 0] rfl) h
  have zL_58 :  ∀ (n : Nat) (x_1 : Int32) (M : zMem) (H : Heap) (locs : List Loc) (ls : Array Slot), zWo w s.heap M H locs → lv_has ls 2 [(0, .ref (zad w k)), (1, .int x_1)] → zlp1 (wpB_Bench_clear_58 k   post) n x_1 M → W p l e (zRm 1 21) s m ([.ref (zad w k)] : List Value).toArray below meth c H locs 0 0 (MQ below (va_Qv post (zB w) (zA w)) ([.ref (zad w k)] : List Value).toArray s 0 0 (zA w)) (F0 m 58 ls []) := by
    intro n
    induction n with
    | zero => intro x_1 M H locs ls hW hl h; exact h.elim
    | succ n zJ =>
      intro x_1 M H locs ls hW hl h
      have h : wpB_Bench_clear_58 k   post (zlp1 (wpB_Bench_clear_58 k   post) n) x_1 M := h
      unfold wpB_Bench_clear_58 at h
      refine lv_iload_n hx hb dX0_clear_58 rfl (lv_at hl 1 rfl) ?_
      refine lv_bipush hx hb dX0_clear_59 zc_b8 ?_
      refine lv_icmp_ge (tgt := 77) hx hb dX0_clear_61 rfl (fun c => ?_) (fun c => ?_)
      · replace h := h.1 c
        refine lv_aload_n hx hb dX0_clear_77 rfl (lv_at hl 0 rfl) ?_
        refine zcallv (zrunV (As := []) (rest := []) X hml hl hW h0.1 rfl zk_Bench_54 (c_Bench_makeReady h0 h) rfl ⟨Nat.le_of_ble_eq_true rfl, Nat.le_of_ble_eq_true rfl⟩ ⟨Nat.le_refl 0, Nat.le_refl 0⟩ rfl (Nat.le_of_ble_eq_true rfl) dX0_clear_78) hW (fun zm10 H locs h hW => ?_)
        exact zretv X hr hlk hW h dX0_clear_81
      · replace h := h.2 c
        refine lv_aload_n hx hb dX0_clear_64 rfl (lv_at hl 0 rfl) ?_
        refine zg_Bench_stood X hW h0 zu_190 dX0_clear_65 ?_
        refine lv_iload_n hx hb dX0_clear_68 rfl (lv_at hl 1 rfl) ?_
        refine lv_iconst hx hb dX0_clear_69 zc_i0 ?_
        obtain ⟨g, h⟩ := h
        refine ziast X hW h0.2.2.2.2.2.2.2.2.1 g dX0_clear_70 (fun H locs zm12 ezm12 hW => ?_)
        replace h := h zm12 ezm12
        obtain ⟨zx13, ezx13⟩ : ∃ y : Int32, y = x_1 + 1 := ⟨_, rfl⟩
        replace h := h zx13 ezx13
        refine lv_iinc (v := zx13) (lv' := [(1, .int zx13), (0, .ref (zad w k))]) hx hb dX0_clear_71 hl (k := 1) rfl (by rw [ezx13, zc_i1]) (Nat.le_of_ble_eq_true rfl) rfl (fun ls hl => ?_)
        refine lv_goto (tgt := 58) hx hb dX0_clear_74 rfl ?_
        exact zJ zx13 zm12 H locs ls hW (lv_sub hl [1, 0] rfl) h
  unfold wp_Bench_clear at h
  have zMain : ∀ (H : Heap) (locs : List Loc) (ls : Array Slot), zWo w s.heap M H locs → lv_has ls 2 [(0, .ref (zad w k))] → W p l e (zRm 1 21) s m ([.ref (zad w k)] : List Value).toArray below meth c H locs 0 0 (MQ below (va_Qv post (zB w) (zA w)) ([.ref (zad w k)] : List Value).toArray s 0 0 (zA w)) (F0 m 0 ls []) := by
    intro H locs ls hW hl
    refine lv_aload_n hx hb dX0_clear_0 rfl (lv_at hl 0 rfl) ?_
    refine lv_iconst hx hb dX0_clear_1 zc_i0 ?_
    refine zp_Bench_tick X hW h0 zu_163 dX0_clear_2 (fun H locs zm1 ezm1 hW => ?_)
    replace h := h zm1 ezm1
    refine lv_aload_n hx hb dX0_clear_5 rfl (lv_at hl 0 rfl) ?_
    refine lv_iconst hx hb dX0_clear_6 zc_i0 ?_
    refine zp_Bench_done X hW h0 zu_166 dX0_clear_7 (fun H locs zm2 ezm2 hW => ?_)
    replace h := h zm2 ezm2
    refine lv_aload_n hx hb dX0_clear_10 rfl (lv_at hl 0 rfl) ?_
    refine lv_iconst hx hb dX0_clear_11 zc_i0 ?_
    refine zp_Bench_handings X hW h0 zu_170 dX0_clear_12 (fun H locs zm3 ezm3 hW => ?_)
    replace h := h zm3 ezm3
    refine lv_iconst hx hb dX0_clear_15 zc_i0 ?_
    refine lv_istore_n (lv' := [(1, .int 0), (0, .ref (zad w k))]) hx hb dX0_clear_16 rfl hl (Nat.le_of_ble_eq_true rfl) rfl (fun ls hl => ?_)
    obtain ⟨n, h⟩ := h
    refine zL_17  _ (fun  zm6 H locs ls hW hl h => ?_) n 0 zm3 H locs ls hW (lv_sub hl [1, 0] rfl) h
    · skip
      refine lv_iconst hx hb dX0_clear_35 zc_i0 ?_
      refine lv_istore_n (lv' := [(1, .int 0), (0, .ref (zad w k))]) hx hb dX0_clear_36 rfl hl (Nat.le_of_ble_eq_true rfl) rfl (fun ls hl => ?_)
      obtain ⟨n, h⟩ := h
      refine zL_37  _ (fun  zm9 H locs ls hW hl h => ?_) n 0 zm6 H locs ls hW (lv_sub hl [1, 0] rfl) h
      · skip
        refine lv_iconst hx hb dX0_clear_56 zc_i0 ?_
        refine lv_istore_n (lv' := [(1, .int 0), (0, .ref (zad w k))]) hx hb dX0_clear_57 rfl hl (Nat.le_of_ble_eq_true rfl) rfl (fun ls hl => ?_)
        obtain ⟨n, h⟩ := h
        refine zL_58   n 0 zm9 H locs ls hW (lv_sub hl [1, 0] rfl) h
  exact zMain s.heap [] ls hW hl
def wp_Bench_copyFrom (k : Nat) (t1 : Nat) (M : zMem) (Q : zMem → Prop) : Prop :=
  ∀ zm1 : zMem, zm1 = zup M k 2 (M t1 2) → ∀ zm2 : zMem, zm2 = zup zm1 k 3 (zm1 t1 3) → ∀ zm3 : zMem, zm3 = zup zm2 k 4 (zm2 t1 4) → ∀ zm4 : zMem, zm4 = zup zm3 k 5 (zm3 t1 5) → zcpok 0 0 5 5 5 ∧ ∀ zm5 : zMem, zm5 = zcopyM zm4 (t1 + 1) (k + 1) 0 0 5 → zcpok 0 0 5 5 5 ∧ ∀ zm6 : zMem, zm6 = zcopyM zm5 (t1 + 2) (k + 2) 0 0 5 → zcpok 0 0 5 5 5 ∧ ∀ zm7 : zMem, zm7 = zcopyM zm6 (t1 + 3) (k + 3) 0 0 5 → zcpok 0 0 5 5 5 ∧ ∀ zm8 : zMem, zm8 = zcopyM zm7 (t1 + 4) (k + 4) 0 0 5 → zcpok 0 0 5 5 5 ∧ ∀ zm9 : zMem, zm9 = zcopyM zm8 (t1 + 5) (k + 5) 0 0 5 → zcpok 0 0 5 5 5 ∧ ∀ zm10 : zMem, zm10 = zcopyM zm9 (t1 + 6) (k + 6) 0 0 5 → zcpok 0 0 40 40 40 ∧ ∀ zm11 : zMem, zm11 = zcopyM zm10 (t1 + 7) (k + 7) 0 0 40 → Q zm11
set_option maxHeartbeats 4000000 in
set_option maxRecDepth 20000 in
theorem c_Bench_copyFrom {l : Launch} {w : zWd} {k : Nat} {t1 : Nat} {M : zMem} {post : zMem → Prop} (h0 : zI_Bench w k) (h1 : zI_Bench w t1) (h : wp_Bench_copyFrom k t1 M post) : zMv l ⟨"HandToHand$Bench", "copyFrom", "(LHandToHand$Bench;)V"⟩ prog_2_method_4_code 2 none 1 30 w [.ref (zad w k), .ref (zad w t1)] M post := by
  refine zMet (by decide) (Nat.le_of_ble_eq_true rfl) ?_
  intro p e s m below meth c X hr hlk hml hW ls hl
  have hx := X.1
  have hb := X.2.1
  have hl : lv_has ls 2 [(0, .ref (zad w k)), (1, .ref (zad w t1))] := hl
  unfold wp_Bench_copyFrom at h
  have zMain : ∀ (H : Heap) (locs : List Loc) (ls : Array Slot), zWo w s.heap M H locs → lv_has ls 2 [(0, .ref (zad w k)), (1, .ref (zad w t1))] → W p l e (zRm 1 30) s m ([.ref (zad w k), .ref (zad w t1)] : List Value).toArray below meth c H locs 0 0 (MQ below (va_Qv post (zB w) (zA w)) ([.ref (zad w k), .ref (zad w t1)] : List Value).toArray s 0 0 (zA w)) (F0 m 0 ls []) := by
    intro H locs ls hW hl
    refine lv_aload_n hx hb dX0_copyFrom_0 rfl (lv_at hl 0 rfl) ?_
    refine lv_aload_n hx hb dX0_copyFrom_1 rfl (lv_at hl 1 rfl) ?_
    refine zg_Bench_tick X hW h1 zu_163 dX0_copyFrom_2 ?_
    refine zp_Bench_tick X hW h0 zu_163 dX0_copyFrom_5 (fun H locs zm1 ezm1 hW => ?_)
    replace h := h zm1 ezm1
    refine lv_aload_n hx hb dX0_copyFrom_8 rfl (lv_at hl 0 rfl) ?_
    refine lv_aload_n hx hb dX0_copyFrom_9 rfl (lv_at hl 1 rfl) ?_
    refine zg_Bench_done X hW h1 zu_166 dX0_copyFrom_10 ?_
    refine zp_Bench_done X hW h0 zu_166 dX0_copyFrom_13 (fun H locs zm2 ezm2 hW => ?_)
    replace h := h zm2 ezm2
    refine lv_aload_n hx hb dX0_copyFrom_16 rfl (lv_at hl 0 rfl) ?_
    refine lv_aload_n hx hb dX0_copyFrom_17 rfl (lv_at hl 1 rfl) ?_
    refine zg_Bench_handings X hW h1 zu_170 dX0_copyFrom_18 ?_
    refine zp_Bench_handings X hW h0 zu_170 dX0_copyFrom_21 (fun H locs zm3 ezm3 hW => ?_)
    replace h := h zm3 ezm3
    refine lv_aload_n hx hb dX0_copyFrom_24 rfl (lv_at hl 0 rfl) ?_
    refine lv_aload_n hx hb dX0_copyFrom_25 rfl (lv_at hl 1 rfl) ?_
    refine zg_Bench_place X hW h1 zu_172 dX0_copyFrom_26 ?_
    refine zp_Bench_place X hW h0 zu_172 dX0_copyFrom_29 (fun H locs zm4 ezm4 hW => ?_)
    replace h := h zm4 ezm4
    refine lv_aload_n hx hb dX0_copyFrom_32 rfl (lv_at hl 1 rfl) ?_
    refine zg_Bench_doing X hW h1 zu_175 dX0_copyFrom_33 ?_
    refine lv_iconst hx hb dX0_copyFrom_36 zc_i0 ?_
    refine lv_aload_n hx hb dX0_copyFrom_37 rfl (lv_at hl 0 rfl) ?_
    refine zg_Bench_doing X hW h0 zu_175 dX0_copyFrom_38 ?_
    refine lv_iconst hx hb dX0_copyFrom_41 zc_i0 ?_
    refine lv_iconst hx hb dX0_copyFrom_42 zc_i5 ?_
    obtain ⟨g, h⟩ := h
    refine zcopy X hml hl hW h1.2.1 h0.2.1 zu_777 g ⟨Nat.le_of_ble_eq_true rfl, Nat.le_of_ble_eq_true rfl⟩ dX0_copyFrom_43 (fun H locs zm5 ezm5 hW => ?_)
    replace h := h zm5 ezm5
    refine lv_aload_n hx hb dX0_copyFrom_46 rfl (lv_at hl 1 rfl) ?_
    refine zg_Bench_left X hW h1 zu_177 dX0_copyFrom_47 ?_
    refine lv_iconst hx hb dX0_copyFrom_50 zc_i0 ?_
    refine lv_aload_n hx hb dX0_copyFrom_51 rfl (lv_at hl 0 rfl) ?_
    refine zg_Bench_left X hW h0 zu_177 dX0_copyFrom_52 ?_
    refine lv_iconst hx hb dX0_copyFrom_55 zc_i0 ?_
    refine lv_iconst hx hb dX0_copyFrom_56 zc_i5 ?_
    obtain ⟨g, h⟩ := h
    refine zcopy X hml hl hW h1.2.2.1 h0.2.2.1 zu_777 g ⟨Nat.le_of_ble_eq_true rfl, Nat.le_of_ble_eq_true rfl⟩ dX0_copyFrom_57 (fun H locs zm6 ezm6 hW => ?_)
    replace h := h zm6 ezm6
    refine lv_aload_n hx hb dX0_copyFrom_60 rfl (lv_at hl 1 rfl) ?_
    refine zg_Bench_piece X hW h1 zu_179 dX0_copyFrom_61 ?_
    refine lv_iconst hx hb dX0_copyFrom_64 zc_i0 ?_
    refine lv_aload_n hx hb dX0_copyFrom_65 rfl (lv_at hl 0 rfl) ?_
    refine zg_Bench_piece X hW h0 zu_179 dX0_copyFrom_66 ?_
    refine lv_iconst hx hb dX0_copyFrom_69 zc_i0 ?_
    refine lv_iconst hx hb dX0_copyFrom_70 zc_i5 ?_
    obtain ⟨g, h⟩ := h
    refine zcopy X hml hl hW h1.2.2.2.1 h0.2.2.2.1 zu_777 g ⟨Nat.le_of_ble_eq_true rfl, Nat.le_of_ble_eq_true rfl⟩ dX0_copyFrom_71 (fun H locs zm7 ezm7 hW => ?_)
    replace h := h zm7 ezm7
    refine lv_aload_n hx hb dX0_copyFrom_74 rfl (lv_at hl 1 rfl) ?_
    refine zg_Bench_unit X hW h1 zu_181 dX0_copyFrom_75 ?_
    refine lv_iconst hx hb dX0_copyFrom_78 zc_i0 ?_
    refine lv_aload_n hx hb dX0_copyFrom_79 rfl (lv_at hl 0 rfl) ?_
    refine zg_Bench_unit X hW h0 zu_181 dX0_copyFrom_80 ?_
    refine lv_iconst hx hb dX0_copyFrom_83 zc_i0 ?_
    refine lv_iconst hx hb dX0_copyFrom_84 zc_i5 ?_
    obtain ⟨g, h⟩ := h
    refine zcopy X hml hl hW h1.2.2.2.2.1 h0.2.2.2.2.1 zu_777 g ⟨Nat.le_of_ble_eq_true rfl, Nat.le_of_ble_eq_true rfl⟩ dX0_copyFrom_85 (fun H locs zm8 ezm8 hW => ?_)
    replace h := h zm8 ezm8
    refine lv_aload_n hx hb dX0_copyFrom_88 rfl (lv_at hl 1 rfl) ?_
    refine zg_Bench_sort X hW h1 zu_183 dX0_copyFrom_89 ?_
    refine lv_iconst hx hb dX0_copyFrom_92 zc_i0 ?_
    refine lv_aload_n hx hb dX0_copyFrom_93 rfl (lv_at hl 0 rfl) ?_
    refine zg_Bench_sort X hW h0 zu_183 dX0_copyFrom_94 ?_
    refine lv_iconst hx hb dX0_copyFrom_97 zc_i0 ?_
    refine lv_iconst hx hb dX0_copyFrom_98 zc_i5 ?_
    obtain ⟨g, h⟩ := h
    refine zcopy X hml hl hW h1.2.2.2.2.2.1 h0.2.2.2.2.2.1 zu_777 g ⟨Nat.le_of_ble_eq_true rfl, Nat.le_of_ble_eq_true rfl⟩ dX0_copyFrom_99 (fun H locs zm9 ezm9 hW => ?_)
    replace h := h zm9 ezm9
    refine lv_aload_n hx hb dX0_copyFrom_102 rfl (lv_at hl 1 rfl) ?_
    refine zg_Bench_waited X hW h1 zu_185 dX0_copyFrom_103 ?_
    refine lv_iconst hx hb dX0_copyFrom_106 zc_i0 ?_
    refine lv_aload_n hx hb dX0_copyFrom_107 rfl (lv_at hl 0 rfl) ?_
    refine zg_Bench_waited X hW h0 zu_185 dX0_copyFrom_108 ?_
    refine lv_iconst hx hb dX0_copyFrom_111 zc_i0 ?_
    refine lv_iconst hx hb dX0_copyFrom_112 zc_i5 ?_
    obtain ⟨g, h⟩ := h
    refine zcopy X hml hl hW h1.2.2.2.2.2.2.1 h0.2.2.2.2.2.2.1 zu_777 g ⟨Nat.le_of_ble_eq_true rfl, Nat.le_of_ble_eq_true rfl⟩ dX0_copyFrom_113 (fun H locs zm10 ezm10 hW => ?_)
    replace h := h zm10 ezm10
    refine lv_aload_n hx hb dX0_copyFrom_116 rfl (lv_at hl 1 rfl) ?_
    refine zg_Bench_learned X hW h1 zu_187 dX0_copyFrom_117 ?_
    refine lv_iconst hx hb dX0_copyFrom_120 zc_i0 ?_
    refine lv_aload_n hx hb dX0_copyFrom_121 rfl (lv_at hl 0 rfl) ?_
    refine zg_Bench_learned X hW h0 zu_187 dX0_copyFrom_122 ?_
    refine lv_iconst hx hb dX0_copyFrom_125 zc_i0 ?_
    refine lv_bipush hx hb dX0_copyFrom_126 zc_b40 ?_
    obtain ⟨g, h⟩ := h
    refine zcopy X hml hl hW h1.2.2.2.2.2.2.2.1 h0.2.2.2.2.2.2.2.1 zu_777 g ⟨Nat.le_of_ble_eq_true rfl, Nat.le_of_ble_eq_true rfl⟩ dX0_copyFrom_128 (fun H locs zm11 ezm11 hW => ?_)
    replace h := h zm11 ezm11
    exact zretv X hr hlk hW h dX0_copyFrom_131
  exact zMain s.heap [] ls hW hl
def wpJ_Bench_goBack_39 (k : Nat) (a1 : Int32) (a2 : Int32)  (Q : zMem → Prop) (x_3 : Int32)  (M : zMem) : Prop :=
  (x_3 ≤ 0 → vp_in a1 5 ∧ ∀ zm2 : zMem, zm2 = zup M (k + 2) (ix a1) 0 → vp_in a1 5 ∧ ((zm2 (k + 2) (ix a1)) ≤ 0 → vp_in a1 5 ∧ ∀ zm3 : zMem, zm3 = zup zm2 (k + 1) (ix a1) 0 → Q zm3) ∧ (¬ (zm2 (k + 2) (ix a1)) ≤ 0 → vp_in a1 5 ∧ ∀ zm4 : zMem, zm4 = zup zm2 (k + 1) (ix a1) 1 → Q zm4)) ∧ (¬ x_3 ≤ 0 → vp_in a1 5 ∧ ∀ zm5 : zMem, zm5 = zup M (k + 2) (ix a1) ((M (ztc (M k 0)) 2) * x_3) → vp_in a1 5 ∧ ((zm5 (k + 2) (ix a1)) ≤ 0 → vp_in a1 5 ∧ ∀ zm6 : zMem, zm6 = zup zm5 (k + 1) (ix a1) 0 → Q zm6) ∧ (¬ (zm5 (k + 2) (ix a1)) ≤ 0 → vp_in a1 5 ∧ ∀ zm7 : zMem, zm7 = zup zm5 (k + 1) (ix a1) 1 → Q zm7))
def wpJ_Bench_goBack_38 (k : Nat) (a1 : Int32) (a2 : Int32)  (Q : zMem → Prop)  (s_0 : Int32) (M : zMem) : Prop :=
  wpJ_Bench_goBack_39 k a1 a2 Q s_0 M
def wp_Bench_goBack (k : Nat) (a1 : Int32) (a2 : Int32) (M : zMem) (Q : zMem → Prop) : Prop :=
  vp_in a1 5 ∧ ∀ zm1 : zMem, zm1 = zup M (k + 3) (ix a1) ((-1)) → (a1 ≤ 0 → wpJ_Bench_goBack_39 k a1 a2 Q 0 zm1) ∧ (¬ a1 ≤ 0 → vp_in (a1 - 1) 5 ∧ (0 ≤ (zm1 (k + 3) (ix (a1 - 1))) → vp_in (a1 - 1) 5 ∧ wpJ_Bench_goBack_38 k a1 a2 Q (a2 - (zm1 (k + 3) (ix (a1 - 1)))) zm1) ∧ (¬ 0 ≤ (zm1 (k + 3) (ix (a1 - 1))) → wpJ_Bench_goBack_38 k a1 a2 Q a2 zm1))
set_option maxHeartbeats 4000000 in
set_option maxRecDepth 20000 in
theorem c_Bench_goBack {l : Launch} {w : zWd} {k : Nat} {a1 : Int32} {a2 : Int32} {M : zMem} {post : zMem → Prop} (h0 : zI_Bench w k) (h : wp_Bench_goBack k a1 a2 M post) : zMv l ⟨"HandToHand$Bench", "goBack", "(II)V"⟩ prog_2_method_10_code 4 none 0 0 w [.ref (zad w k), .int a1, .int a2] M post := by
  refine zMet (by decide) (Nat.le_of_ble_eq_true rfl) ?_
  intro p e s m below meth c X hr hlk hml hW ls hl
  have hx := X.1
  have hb := X.2.1
  have hl : lv_has ls 4 [(0, .ref (zad w k)), (1, .int a1), (2, .int a2)] := hl
  have zJ_39 : ∀ (x_3 : Int32) (M : zMem) (H : Heap) (locs : List Loc) (ls : Array Slot), zWo w s.heap M H locs → lv_has ls 4 [(0, .ref (zad w k)), (1, .int a1), (3, .int x_3)] → wpJ_Bench_goBack_39 k a1 a2 post x_3 M → W p l e (zRm 0 0) s m ([.ref (zad w k), .int a1, .int a2] : List Value).toArray below meth c H locs 0 0 (MQ below (va_Qv post (zB w) (zA w)) ([.ref (zad w k), .int a1, .int a2] : List Value).toArray s 0 0 (zA w)) (F0 m 39 ls []) := by
    intro x_3 M H locs ls hW hl h
    unfold wpJ_Bench_goBack_39 at h
    refine lv_aload_n hx hb dX0_goBack_39 rfl (lv_at hl 0 rfl) ?_
    refine zg_Bench_left X hW h0 zu_177 dX0_goBack_40 ?_
    refine lv_iload_n hx hb dX0_goBack_43 rfl (lv_at hl 1 rfl) ?_
    refine lv_iload_n hx hb dX0_goBack_44 rfl (lv_at hl 2 rfl) ?_
    refine lv_if_le (tgt := 60) hx hb dX0_goBack_45 rfl (fun c => ?_) (fun c => ?_)
    · replace h := h.1 c
      refine lv_iconst hx hb dX0_goBack_60 zc_i0 ?_
      obtain ⟨g, h⟩ := h
      refine ziast X hW h0.2.2.1 g dX0_goBack_61 (fun H locs zm2 ezm2 hW => ?_)
      replace h := h zm2 ezm2
      refine lv_aload_n hx hb dX0_goBack_62 rfl (lv_at hl 0 rfl) ?_
      refine zg_Bench_doing X hW h0 zu_175 dX0_goBack_63 ?_
      refine lv_iload_n hx hb dX0_goBack_66 rfl (lv_at hl 1 rfl) ?_
      refine lv_aload_n hx hb dX0_goBack_67 rfl (lv_at hl 0 rfl) ?_
      refine zg_Bench_left X hW h0 zu_177 dX0_goBack_68 ?_
      refine lv_iload_n hx hb dX0_goBack_71 rfl (lv_at hl 1 rfl) ?_
      obtain ⟨g, h⟩ := h
      refine ziald X hW h0.2.2.1 g dX0_goBack_72 ?_
      refine lv_if_le (tgt := 80) hx hb dX0_goBack_73 rfl (fun c => ?_) (fun c => ?_)
      · replace h := h.1 c
        refine lv_iconst hx hb dX0_goBack_80 zc_i0 ?_
        obtain ⟨g, h⟩ := h
        refine ziast X hW h0.2.1 g dX0_goBack_81 (fun H locs zm3 ezm3 hW => ?_)
        replace h := h zm3 ezm3
        exact zretv X hr hlk hW h dX0_goBack_82
      · replace h := h.2 c
        refine lv_iconst hx hb dX0_goBack_76 zc_i1 ?_
        refine lv_goto (tgt := 81) hx hb dX0_goBack_77 rfl ?_
        obtain ⟨g, h⟩ := h
        refine ziast X hW h0.2.1 g dX0_goBack_81 (fun H locs zm4 ezm4 hW => ?_)
        replace h := h zm4 ezm4
        exact zretv X hr hlk hW h dX0_goBack_82
    · replace h := h.2 c
      refine lv_aload_n hx hb dX0_goBack_48 rfl (lv_at hl 0 rfl) ?_
      refine zg_Bench_told X hW h0 zu_160 dX0_goBack_49 ?_
      refine zg_Told_walk X hW (h0.2.2.2.2.2.2.2.2.2.1 _) zu_44 dX0_goBack_52 ?_
      refine lv_iload_n hx hb dX0_goBack_55 rfl (lv_at hl 2 rfl) ?_
      refine lv_imul hx hb dX0_goBack_56 ?_
      refine lv_goto (tgt := 61) hx hb dX0_goBack_57 rfl ?_
      obtain ⟨g, h⟩ := h
      refine ziast X hW h0.2.2.1 g dX0_goBack_61 (fun H locs zm5 ezm5 hW => ?_)
      replace h := h zm5 ezm5
      refine lv_aload_n hx hb dX0_goBack_62 rfl (lv_at hl 0 rfl) ?_
      refine zg_Bench_doing X hW h0 zu_175 dX0_goBack_63 ?_
      refine lv_iload_n hx hb dX0_goBack_66 rfl (lv_at hl 1 rfl) ?_
      refine lv_aload_n hx hb dX0_goBack_67 rfl (lv_at hl 0 rfl) ?_
      refine zg_Bench_left X hW h0 zu_177 dX0_goBack_68 ?_
      refine lv_iload_n hx hb dX0_goBack_71 rfl (lv_at hl 1 rfl) ?_
      obtain ⟨g, h⟩ := h
      refine ziald X hW h0.2.2.1 g dX0_goBack_72 ?_
      refine lv_if_le (tgt := 80) hx hb dX0_goBack_73 rfl (fun c => ?_) (fun c => ?_)
      · replace h := h.1 c
        refine lv_iconst hx hb dX0_goBack_80 zc_i0 ?_
        obtain ⟨g, h⟩ := h
        refine ziast X hW h0.2.1 g dX0_goBack_81 (fun H locs zm6 ezm6 hW => ?_)
        replace h := h zm6 ezm6
        exact zretv X hr hlk hW h dX0_goBack_82
      · replace h := h.2 c
        refine lv_iconst hx hb dX0_goBack_76 zc_i1 ?_
        refine lv_goto (tgt := 81) hx hb dX0_goBack_77 rfl ?_
        obtain ⟨g, h⟩ := h
        refine ziast X hW h0.2.1 g dX0_goBack_81 (fun H locs zm7 ezm7 hW => ?_)
        replace h := h zm7 ezm7
        exact zretv X hr hlk hW h dX0_goBack_82
  have zJ_38 : ∀ (s_0 : Int32) (M : zMem) (H : Heap) (locs : List Loc) (ls : Array Slot), zWo w s.heap M H locs → lv_has ls 4 [(0, .ref (zad w k)), (1, .int a1)] → wpJ_Bench_goBack_38 k a1 a2 post s_0 M → W p l e (zRm 0 0) s m ([.ref (zad w k), .int a1, .int a2] : List Value).toArray below meth c H locs 0 0 (MQ below (va_Qv post (zB w) (zA w)) ([.ref (zad w k), .int a1, .int a2] : List Value).toArray s 0 0 (zA w)) (F0 m 38 ls [.int s_0]) := by
    intro s_0 M H locs ls hW hl h
    unfold wpJ_Bench_goBack_38 at h
    refine lv_istore_n (lv' := [(3, .int s_0), (0, .ref (zad w k)), (1, .int a1)]) hx hb dX0_goBack_38 rfl hl (Nat.le_of_ble_eq_true rfl) rfl (fun ls hl => ?_)
    exact zJ_39 s_0 M H locs ls hW (lv_sub hl [1, 2, 0] rfl) h
  unfold wp_Bench_goBack at h
  have zMain : ∀ (H : Heap) (locs : List Loc) (ls : Array Slot), zWo w s.heap M H locs → lv_has ls 4 [(0, .ref (zad w k)), (1, .int a1), (2, .int a2)] → W p l e (zRm 0 0) s m ([.ref (zad w k), .int a1, .int a2] : List Value).toArray below meth c H locs 0 0 (MQ below (va_Qv post (zB w) (zA w)) ([.ref (zad w k), .int a1, .int a2] : List Value).toArray s 0 0 (zA w)) (F0 m 0 ls []) := by
    intro H locs ls hW hl
    refine lv_aload_n hx hb dX0_goBack_0 rfl (lv_at hl 0 rfl) ?_
    refine zg_Bench_piece X hW h0 zu_179 dX0_goBack_1 ?_
    refine lv_iload_n hx hb dX0_goBack_4 rfl (lv_at hl 1 rfl) ?_
    refine lv_iconst hx hb dX0_goBack_5 zc_im1 ?_
    obtain ⟨g, h⟩ := h
    refine ziast X hW h0.2.2.2.1 g dX0_goBack_6 (fun H locs zm1 ezm1 hW => ?_)
    replace h := h zm1 ezm1
    refine lv_iconst hx hb dX0_goBack_7 zc_i0 ?_
    refine lv_istore_n (lv' := [(3, .int 0), (0, .ref (zad w k)), (1, .int a1), (2, .int a2)]) hx hb dX0_goBack_8 rfl hl (Nat.le_of_ble_eq_true rfl) rfl (fun ls hl => ?_)
    refine lv_iload_n hx hb dX0_goBack_9 rfl (lv_at hl 2 rfl) ?_
    refine lv_if_le (tgt := 39) hx hb dX0_goBack_10 rfl (fun c => ?_) (fun c => ?_)
    · replace h := h.1 c
      exact zJ_39 0 zm1 H locs ls hW (lv_sub hl [1, 2, 0] rfl) h
    · replace h := h.2 c
      refine lv_aload_n hx hb dX0_goBack_13 rfl (lv_at hl 1 rfl) ?_
      refine zg_Bench_piece X hW h0 zu_179 dX0_goBack_14 ?_
      refine lv_iload_n hx hb dX0_goBack_17 rfl (lv_at hl 2 rfl) ?_
      refine lv_iconst hx hb dX0_goBack_18 zc_i1 ?_
      refine lv_isub hx hb dX0_goBack_19 ?_
      obtain ⟨g, h⟩ := h
      refine ziald X hW h0.2.2.2.1 g dX0_goBack_20 ?_
      refine lv_if_ge (tgt := 28) hx hb dX0_goBack_21 rfl (fun c => ?_) (fun c => ?_)
      · replace h := h.1 c
        refine lv_iload_n hx hb dX0_goBack_28 rfl (lv_at hl 3 rfl) ?_
        refine lv_aload_n hx hb dX0_goBack_29 rfl (lv_at hl 1 rfl) ?_
        refine zg_Bench_piece X hW h0 zu_179 dX0_goBack_30 ?_
        refine lv_iload_n hx hb dX0_goBack_33 rfl (lv_at hl 2 rfl) ?_
        refine lv_iconst hx hb dX0_goBack_34 zc_i1 ?_
        refine lv_isub hx hb dX0_goBack_35 ?_
        obtain ⟨g, h⟩ := h
        refine ziald X hW h0.2.2.2.1 g dX0_goBack_36 ?_
        refine lv_isub hx hb dX0_goBack_37 ?_
        exact zJ_38 (a2 - (zm1 (k + 3) (ix (a1 - 1)))) zm1 H locs ls hW (lv_sub hl [1, 2] rfl) h
      · replace h := h.2 c
        refine lv_iload_n hx hb dX0_goBack_24 rfl (lv_at hl 3 rfl) ?_
        refine lv_goto (tgt := 38) hx hb dX0_goBack_25 rfl ?_
        exact zJ_38 a2 zm1 H locs ls hW (lv_sub hl [1, 2] rfl) h
  exact zMain s.heap [] ls hW hl
def wp_Bench_takeOver (k : Nat) (a1 : Int32) (M : zMem) (Q : Int32 → zMem → Prop) : Prop :=
  ∀ zx1 : Int32, zx1 = a1 - 1 → vp_in zx1 5 ∧ (¬ (M (k + 1) (ix zx1)) = 2 → Q 0 M) ∧ ((M (k + 1) (ix zx1)) = 2 → vp_in zx1 5 ∧ vp_in zx1 5 ∧ wp_Told_mayBeLeft (ztc (M k 0)) zx1 (M (k + 3) (ix zx1)) (M (k + 4) (ix zx1)) M (fun zr3 zm2 => (¬ zr3 = 0 → vp_in a1 5 ∧ ∀ zm4 : zMem, zm4 = zup zm2 (k + 1) (ix a1) 2 → vp_in zx1 5 ∧ vp_in a1 5 ∧ ∀ zm5 : zMem, zm5 = zup zm4 (k + 3) (ix a1) (zm4 (k + 3) (ix zx1)) → vp_in zx1 5 ∧ vp_in a1 5 ∧ ∀ zm6 : zMem, zm6 = zup zm5 (k + 4) (ix a1) (zm5 (k + 4) (ix zx1)) → vp_in zx1 5 ∧ vp_in a1 5 ∧ ∀ zm7 : zMem, zm7 = zup zm6 (k + 5) (ix a1) (zm6 (k + 5) (ix zx1)) → ∀ zm8 : zMem, zm8 = zup zm7 k 4 ((zm7 k 4) + 1) → (zlg k = none → vp_in zx1 5 ∧ wp_Bench_goBack k zx1 (zm8 (k + 3) (ix zx1)) zm8 (fun zm10 => Q 1 zm10)) ∧ (∀ zg9 : Nat, zlg k = some zg9 → vp_in a1 5 ∧ vp_in a1 5 ∧ vp_in a1 5 ∧ wp_Handings_note zg9 (zm8 k 2) a1 (zm8 (k + 3) (ix a1)) (zm8 (k + 4) (ix a1)) (zm8 (k + 5) (ix a1)) zm8 (fun zm12 => vp_in zx1 5 ∧ wp_Bench_goBack k zx1 (zm12 (k + 3) (ix zx1)) zm12 (fun zm14 => Q 1 zm14)))) ∧ (zr3 = 0 → Q 0 zm2)))
set_option maxHeartbeats 4000000 in
set_option maxRecDepth 20000 in
theorem c_Bench_takeOver {l : Launch} {w : zWd} {k : Nat} {a1 : Int32} {M : zMem} {post : Int32 → zMem → Prop} (h0 : zI_Bench w k) (h : wp_Bench_takeOver k a1 M post) : zMi l ⟨"HandToHand$Bench", "takeOver", "(I)Z"⟩ prog_2_method_9_code 3 (Option.some .boolean) 1 26 w [.ref (zad w k), .int a1] M post := by
  refine zMet (by decide) (Nat.le_of_ble_eq_true rfl) ?_
  intro p e s m below meth c X hr hlk hml hW ls hl
  have hx := X.1
  have hb := X.2.1
  have hl : lv_has ls 3 [(0, .ref (zad w k)), (1, .int a1)] := hl
  unfold wp_Bench_takeOver at h
  have zMain : ∀ (H : Heap) (locs : List Loc) (ls : Array Slot), zWo w s.heap M H locs → lv_has ls 3 [(0, .ref (zad w k)), (1, .int a1)] → W p l e (zRm 1 26) s m ([.ref (zad w k), .int a1] : List Value).toArray below meth c H locs 0 0 (MQ below (va_Qi post (zB w) (zA w)) ([.ref (zad w k), .int a1] : List Value).toArray s 0 0 (zA w)) (F0 m 0 ls []) := by
    intro H locs ls hW hl
    refine lv_iload_n hx hb dX0_takeOver_0 rfl (lv_at hl 1 rfl) ?_
    refine lv_iconst hx hb dX0_takeOver_1 zc_i1 ?_
    refine lv_isub hx hb dX0_takeOver_2 ?_
    refine lv_topi (fun zx1 ezx1 => ?_)
    replace h := h zx1 ezx1
    refine lv_istore_n (lv' := [(2, .int zx1), (0, .ref (zad w k)), (1, .int a1)]) hx hb dX0_takeOver_3 rfl hl (Nat.le_of_ble_eq_true rfl) rfl (fun ls hl => ?_)
    refine lv_aload_n hx hb dX0_takeOver_4 rfl (lv_at hl 1 rfl) ?_
    refine zg_Bench_doing X hW h0 zu_175 dX0_takeOver_5 ?_
    refine lv_iload_n hx hb dX0_takeOver_8 rfl (lv_at hl 0 rfl) ?_
    obtain ⟨g, h⟩ := h
    refine ziald X hW h0.2.1 g dX0_takeOver_9 ?_
    refine lv_iconst hx hb dX0_takeOver_10 zc_i2 ?_
    refine lv_icmp_ne (tgt := 37) hx hb dX0_takeOver_11 rfl (fun c => ?_) (fun c => ?_)
    · replace h := h.1 c
      refine lv_iconst hx hb dX0_takeOver_37 zc_i0 ?_
      exact zretz X hr hlk hW rfl h dX0_takeOver_38
    · replace h := h.2 c
      refine lv_aload_n hx hb dX0_takeOver_14 rfl (lv_at hl 1 rfl) ?_
      refine zg_Bench_told X hW h0 zu_160 dX0_takeOver_15 ?_
      refine lv_iload_n hx hb dX0_takeOver_18 rfl (lv_at hl 0 rfl) ?_
      refine lv_aload_n hx hb dX0_takeOver_19 rfl (lv_at hl 1 rfl) ?_
      refine zg_Bench_piece X hW h0 zu_179 dX0_takeOver_20 ?_
      refine lv_iload_n hx hb dX0_takeOver_23 rfl (lv_at hl 0 rfl) ?_
      obtain ⟨g, h⟩ := h
      refine ziald X hW h0.2.2.2.1 g dX0_takeOver_24 ?_
      refine lv_aload_n hx hb dX0_takeOver_25 rfl (lv_at hl 1 rfl) ?_
      refine zg_Bench_unit X hW h0 zu_181 dX0_takeOver_26 ?_
      refine lv_iload_n hx hb dX0_takeOver_29 rfl (lv_at hl 0 rfl) ?_
      obtain ⟨g, h⟩ := h
      refine ziald X hW h0.2.2.2.2.1 g dX0_takeOver_30 ?_
      refine zcalli (zrunV (As := [.int zx1, .int (M (k + 3) (ix zx1)), .int (M (k + 4) (ix zx1))]) (rest := []) X hml hl hW (h0.2.2.2.2.2.2.2.2.2.1 _).1 rfl zk_Bench_109 (c_Told_mayBeLeft (h0.2.2.2.2.2.2.2.2.2.1 _) h) rfl ⟨Nat.le_of_ble_eq_true rfl, Nat.le_of_ble_eq_true rfl⟩ ⟨Nat.le_refl 0, Nat.le_refl 0⟩ rfl (Nat.le_of_ble_eq_true rfl) dX0_takeOver_31) hW (fun zr3 zm2 H locs h hW => ?_)
      refine lv_if_ne (tgt := 39) hx hb dX0_takeOver_34 rfl (fun c => ?_) (fun c => ?_)
      · replace h := h.1 c
        refine lv_aload_n hx hb dX0_takeOver_39 rfl (lv_at hl 1 rfl) ?_
        refine zg_Bench_doing X hW h0 zu_175 dX0_takeOver_40 ?_
        refine lv_iload_n hx hb dX0_takeOver_43 rfl (lv_at hl 2 rfl) ?_
        refine lv_iconst hx hb dX0_takeOver_44 zc_i2 ?_
        obtain ⟨g, h⟩ := h
        refine ziast X hW h0.2.1 g dX0_takeOver_45 (fun H locs zm4 ezm4 hW => ?_)
        replace h := h zm4 ezm4
        refine lv_aload_n hx hb dX0_takeOver_46 rfl (lv_at hl 1 rfl) ?_
        refine zg_Bench_piece X hW h0 zu_179 dX0_takeOver_47 ?_
        refine lv_iload_n hx hb dX0_takeOver_50 rfl (lv_at hl 2 rfl) ?_
        refine lv_aload_n hx hb dX0_takeOver_51 rfl (lv_at hl 1 rfl) ?_
        refine zg_Bench_piece X hW h0 zu_179 dX0_takeOver_52 ?_
        refine lv_iload_n hx hb dX0_takeOver_55 rfl (lv_at hl 0 rfl) ?_
        obtain ⟨g, h⟩ := h
        refine ziald X hW h0.2.2.2.1 g dX0_takeOver_56 ?_
        obtain ⟨g, h⟩ := h
        refine ziast X hW h0.2.2.2.1 g dX0_takeOver_57 (fun H locs zm5 ezm5 hW => ?_)
        replace h := h zm5 ezm5
        refine lv_aload_n hx hb dX0_takeOver_58 rfl (lv_at hl 1 rfl) ?_
        refine zg_Bench_unit X hW h0 zu_181 dX0_takeOver_59 ?_
        refine lv_iload_n hx hb dX0_takeOver_62 rfl (lv_at hl 2 rfl) ?_
        refine lv_aload_n hx hb dX0_takeOver_63 rfl (lv_at hl 1 rfl) ?_
        refine zg_Bench_unit X hW h0 zu_181 dX0_takeOver_64 ?_
        refine lv_iload_n hx hb dX0_takeOver_67 rfl (lv_at hl 0 rfl) ?_
        obtain ⟨g, h⟩ := h
        refine ziald X hW h0.2.2.2.2.1 g dX0_takeOver_68 ?_
        obtain ⟨g, h⟩ := h
        refine ziast X hW h0.2.2.2.2.1 g dX0_takeOver_69 (fun H locs zm6 ezm6 hW => ?_)
        replace h := h zm6 ezm6
        refine lv_aload_n hx hb dX0_takeOver_70 rfl (lv_at hl 1 rfl) ?_
        refine zg_Bench_sort X hW h0 zu_183 dX0_takeOver_71 ?_
        refine lv_iload_n hx hb dX0_takeOver_74 rfl (lv_at hl 2 rfl) ?_
        refine lv_aload_n hx hb dX0_takeOver_75 rfl (lv_at hl 1 rfl) ?_
        refine zg_Bench_sort X hW h0 zu_183 dX0_takeOver_76 ?_
        refine lv_iload_n hx hb dX0_takeOver_79 rfl (lv_at hl 0 rfl) ?_
        obtain ⟨g, h⟩ := h
        refine ziald X hW h0.2.2.2.2.2.1 g dX0_takeOver_80 ?_
        obtain ⟨g, h⟩ := h
        refine ziast X hW h0.2.2.2.2.2.1 g dX0_takeOver_81 (fun H locs zm7 ezm7 hW => ?_)
        replace h := h zm7 ezm7
        refine lv_aload_n hx hb dX0_takeOver_82 rfl (lv_at hl 1 rfl) ?_
        refine lv_dup hx hb dX0_takeOver_83 rfl ?_
        refine zg_Bench_handings X hW h0 zu_170 dX0_takeOver_84 ?_
        refine lv_iconst hx hb dX0_takeOver_87 zc_i1 ?_
        refine lv_iadd hx hb dX0_takeOver_88 ?_
        refine zp_Bench_handings X hW h0 zu_170 dX0_takeOver_89 (fun H locs zm8 ezm8 hW => ?_)
        replace h := h zm8 ezm8
        refine lv_aload_n hx hb dX0_takeOver_92 rfl (lv_at hl 1 rfl) ?_
        rcases hq : zlg k with _ | zg9
        · replace h := h.1 hq
          refine zg_Bench_logN X hW h0 hq zu_162 dX0_takeOver_93 ?_
          refine lv_ifnullN (tgt := 129) hx hb dX0_takeOver_96 rfl ?_
          refine lv_aload_n hx hb dX0_takeOver_129 rfl (lv_at hl 1 rfl) ?_
          refine lv_iload_n hx hb dX0_takeOver_130 rfl (lv_at hl 0 rfl) ?_
          refine lv_aload_n hx hb dX0_takeOver_131 rfl (lv_at hl 1 rfl) ?_
          refine zg_Bench_piece X hW h0 zu_179 dX0_takeOver_132 ?_
          refine lv_iload_n hx hb dX0_takeOver_135 rfl (lv_at hl 0 rfl) ?_
          obtain ⟨g, h⟩ := h
          refine ziald X hW h0.2.2.2.1 g dX0_takeOver_136 ?_
          refine zcallv (zrunV (As := [.int zx1, .int (zm8 (k + 3) (ix zx1))]) (rest := []) X hml hl hW h0.1 rfl zk_Bench_99 (c_Bench_goBack h0 h) rfl ⟨Nat.le_of_ble_eq_true rfl, Nat.le_of_ble_eq_true rfl⟩ ⟨Nat.le_refl 0, Nat.le_refl 0⟩ rfl (Nat.le_of_ble_eq_true rfl) dX0_takeOver_137) hW (fun zm10 H locs h hW => ?_)
          refine lv_iconst hx hb dX0_takeOver_140 zc_i1 ?_
          exact zretz X hr hlk hW rfl h dX0_takeOver_141
        · have cgzg9 := hq
          replace h := h.2 zg9 hq
          refine zg_Bench_logS X hW h0 hq zu_162 dX0_takeOver_93 ?_
          refine lv_ifnull hx hb dX0_takeOver_96 ?_
          refine lv_aload_n hx hb dX0_takeOver_99 rfl (lv_at hl 1 rfl) ?_
          refine zg_Bench_logS X hW h0 cgzg9 zu_162 dX0_takeOver_100 ?_
          refine lv_aload_n hx hb dX0_takeOver_103 rfl (lv_at hl 1 rfl) ?_
          refine zg_Bench_tick X hW h0 zu_163 dX0_takeOver_104 ?_
          refine lv_iload_n hx hb dX0_takeOver_107 rfl (lv_at hl 2 rfl) ?_
          refine lv_aload_n hx hb dX0_takeOver_108 rfl (lv_at hl 1 rfl) ?_
          refine zg_Bench_piece X hW h0 zu_179 dX0_takeOver_109 ?_
          refine lv_iload_n hx hb dX0_takeOver_112 rfl (lv_at hl 2 rfl) ?_
          obtain ⟨g, h⟩ := h
          refine ziald X hW h0.2.2.2.1 g dX0_takeOver_113 ?_
          refine lv_aload_n hx hb dX0_takeOver_114 rfl (lv_at hl 1 rfl) ?_
          refine zg_Bench_unit X hW h0 zu_181 dX0_takeOver_115 ?_
          refine lv_iload_n hx hb dX0_takeOver_118 rfl (lv_at hl 2 rfl) ?_
          obtain ⟨g, h⟩ := h
          refine ziald X hW h0.2.2.2.2.1 g dX0_takeOver_119 ?_
          refine lv_aload_n hx hb dX0_takeOver_120 rfl (lv_at hl 1 rfl) ?_
          refine zg_Bench_sort X hW h0 zu_183 dX0_takeOver_121 ?_
          refine lv_iload_n hx hb dX0_takeOver_124 rfl (lv_at hl 2 rfl) ?_
          obtain ⟨g, h⟩ := h
          refine ziald X hW h0.2.2.2.2.2.1 g dX0_takeOver_125 ?_
          refine zcallv (zrunV (As := [.int (zm8 k 2), .int a1, .int (zm8 (k + 3) (ix a1)), .int (zm8 (k + 4) (ix a1)), .int (zm8 (k + 5) (ix a1))]) (rest := []) X hml hl hW (h0.2.2.2.2.2.2.2.2.2.2 _ cgzg9).1 rfl zk_Bench_113 (c_Handings_note (h0.2.2.2.2.2.2.2.2.2.2 _ cgzg9) h) rfl ⟨Nat.le_of_ble_eq_true rfl, Nat.le_of_ble_eq_true rfl⟩ ⟨Nat.le_refl 0, Nat.le_refl 0⟩ rfl (Nat.le_of_ble_eq_true rfl) dX0_takeOver_126) hW (fun zm12 H locs h hW => ?_)
          refine lv_aload_n hx hb dX0_takeOver_129 rfl (lv_at hl 1 rfl) ?_
          refine lv_iload_n hx hb dX0_takeOver_130 rfl (lv_at hl 0 rfl) ?_
          refine lv_aload_n hx hb dX0_takeOver_131 rfl (lv_at hl 1 rfl) ?_
          refine zg_Bench_piece X hW h0 zu_179 dX0_takeOver_132 ?_
          refine lv_iload_n hx hb dX0_takeOver_135 rfl (lv_at hl 0 rfl) ?_
          obtain ⟨g, h⟩ := h
          refine ziald X hW h0.2.2.2.1 g dX0_takeOver_136 ?_
          refine zcallv (zrunV (As := [.int zx1, .int (zm12 (k + 3) (ix zx1))]) (rest := []) X hml hl hW h0.1 rfl zk_Bench_99 (c_Bench_goBack h0 h) rfl ⟨Nat.le_of_ble_eq_true rfl, Nat.le_of_ble_eq_true rfl⟩ ⟨Nat.le_refl 0, Nat.le_refl 0⟩ rfl (Nat.le_of_ble_eq_true rfl) dX0_takeOver_137) hW (fun zm14 H locs h hW => ?_)
          refine lv_iconst hx hb dX0_takeOver_140 zc_i1 ?_
          exact zretz X hr hlk hW rfl h dX0_takeOver_141
      · replace h := h.2 c
        refine lv_iconst hx hb dX0_takeOver_37 zc_i0 ?_
        exact zretz X hr hlk hW rfl h dX0_takeOver_38
  exact zMain s.heap [] ls hW hl
def wp_Bench_takeNewCoat (k : Nat) (M : zMem) (Q : Int32 → zMem → Prop) : Prop :=
  vp_in (M k 5) 6 ∧ ∀ zx1 : Int32, zx1 = M ((ztc (M k 0)) + 1) (ix (M k 5)) → wp_Told_pieceFrom (ztc (M k 0)) 0 zx1 M (fun zr3 zm2 => (zr3 < (zm2 (ztc (zm2 k 0)) 0) → ((zm2 (ztc (zm2 k 0)) 6) ≤ ((zm2 k 5) + 1) → ∀ zm4 : zMem, zm4 = zup zm2 k 5 0 → vp_in 0 5 ∧ ∀ zm5 : zMem, zm5 = zup zm4 (k + 1) (ix 0) 2 → vp_in 0 5 ∧ ∀ zm6 : zMem, zm6 = zup zm5 (k + 3) (ix 0) zr3 → vp_in 0 5 ∧ ∀ zm7 : zMem, zm7 = zup zm6 (k + 4) (ix 0) 0 → vp_in 0 5 ∧ ∀ zm8 : zMem, zm8 = zup zm7 (k + 5) (ix 0) zx1 → Q 1 zm8) ∧ (¬ (zm2 (ztc (zm2 k 0)) 6) ≤ ((zm2 k 5) + 1) → ∀ zm9 : zMem, zm9 = zup zm2 k 5 ((zm2 k 5) + 1) → vp_in 0 5 ∧ ∀ zm10 : zMem, zm10 = zup zm9 (k + 1) (ix 0) 2 → vp_in 0 5 ∧ ∀ zm11 : zMem, zm11 = zup zm10 (k + 3) (ix 0) zr3 → vp_in 0 5 ∧ ∀ zm12 : zMem, zm12 = zup zm11 (k + 4) (ix 0) 0 → vp_in 0 5 ∧ ∀ zm13 : zMem, zm13 = zup zm12 (k + 5) (ix 0) zx1 → Q 1 zm13)) ∧ (¬ zr3 < (zm2 (ztc (zm2 k 0)) 0) → Q 0 zm2))
set_option maxHeartbeats 4000000 in
set_option maxRecDepth 20000 in
theorem c_Bench_takeNewCoat {l : Launch} {w : zWd} {k : Nat} {M : zMem} {post : Int32 → zMem → Prop} (h0 : zI_Bench w k) (h : wp_Bench_takeNewCoat k M post) : zMi l ⟨"HandToHand$Bench", "takeNewCoat", "()Z"⟩ prog_2_method_8_code 3 (Option.some .boolean) 1 23 w [.ref (zad w k)] M post := by
  refine zMet (by decide) (Nat.le_of_ble_eq_true rfl) ?_
  intro p e s m below meth c X hr hlk hml hW ls hl
  have hx := X.1
  have hb := X.2.1
  have hl : lv_has ls 3 [(0, .ref (zad w k))] := hl
  unfold wp_Bench_takeNewCoat at h
  have zMain : ∀ (H : Heap) (locs : List Loc) (ls : Array Slot), zWo w s.heap M H locs → lv_has ls 3 [(0, .ref (zad w k))] → W p l e (zRm 1 23) s m ([.ref (zad w k)] : List Value).toArray below meth c H locs 0 0 (MQ below (va_Qi post (zB w) (zA w)) ([.ref (zad w k)] : List Value).toArray s 0 0 (zA w)) (F0 m 0 ls []) := by
    intro H locs ls hW hl
    refine lv_aload_n hx hb dX0_takeNewCoat_0 rfl (lv_at hl 0 rfl) ?_
    refine zg_Bench_told X hW h0 zu_160 dX0_takeNewCoat_1 ?_
    refine zg_Told_row X hW (h0.2.2.2.2.2.2.2.2.2.1 _) zu_61 dX0_takeNewCoat_4 ?_
    refine lv_aload_n hx hb dX0_takeNewCoat_7 rfl (lv_at hl 0 rfl) ?_
    refine zg_Bench_place X hW h0 zu_172 dX0_takeNewCoat_8 ?_
    obtain ⟨g, h⟩ := h
    refine ziald X hW (h0.2.2.2.2.2.2.2.2.2.1 _).2.1 g dX0_takeNewCoat_11 ?_
    refine lv_topi (fun zx1 ezx1 => ?_)
    replace h := h zx1 ezx1
    refine lv_istore_n (lv' := [(1, .int zx1), (0, .ref (zad w k))]) hx hb dX0_takeNewCoat_12 rfl hl (Nat.le_of_ble_eq_true rfl) rfl (fun ls hl => ?_)
    refine lv_aload_n hx hb dX0_takeNewCoat_13 rfl (lv_at hl 1 rfl) ?_
    refine zg_Bench_told X hW h0 zu_160 dX0_takeNewCoat_14 ?_
    refine lv_iconst hx hb dX0_takeNewCoat_17 zc_i0 ?_
    refine lv_iload_n hx hb dX0_takeNewCoat_18 rfl (lv_at hl 0 rfl) ?_
    refine zcalli (zrunV (As := [.int 0, .int zx1]) (rest := []) X hml hl hW (h0.2.2.2.2.2.2.2.2.2.1 _).1 rfl zk_Bench_93 (c_Told_pieceFrom (h0.2.2.2.2.2.2.2.2.2.1 _) h) rfl ⟨Nat.le_of_ble_eq_true rfl, Nat.le_of_ble_eq_true rfl⟩ ⟨Nat.le_refl 0, Nat.le_refl 0⟩ rfl (Nat.le_of_ble_eq_true rfl) dX0_takeNewCoat_19) hW (fun zr3 zm2 H locs h hW => ?_)
    refine lv_istore_n (lv' := [(2, .int zr3), (1, .int zx1), (0, .ref (zad w k))]) hx hb dX0_takeNewCoat_22 rfl hl (Nat.le_of_ble_eq_true rfl) rfl (fun ls hl => ?_)
    refine lv_iload_n hx hb dX0_takeNewCoat_23 rfl (lv_at hl 0 rfl) ?_
    refine lv_aload_n hx hb dX0_takeNewCoat_24 rfl (lv_at hl 2 rfl) ?_
    refine zg_Bench_told X hW h0 zu_160 dX0_takeNewCoat_25 ?_
    refine zg_Told_pieces X hW (h0.2.2.2.2.2.2.2.2.2.1 _) zu_36 dX0_takeNewCoat_28 ?_
    refine lv_icmp_lt (tgt := 36) hx hb dX0_takeNewCoat_31 rfl (fun c => ?_) (fun c => ?_)
    · replace h := h.1 c
      refine lv_aload_n hx hb dX0_takeNewCoat_36 rfl (lv_at hl 2 rfl) ?_
      refine lv_aload_n hx hb dX0_takeNewCoat_37 rfl (lv_at hl 2 rfl) ?_
      refine zg_Bench_place X hW h0 zu_172 dX0_takeNewCoat_38 ?_
      refine lv_iconst hx hb dX0_takeNewCoat_41 zc_i1 ?_
      refine lv_iadd hx hb dX0_takeNewCoat_42 ?_
      refine lv_aload_n hx hb dX0_takeNewCoat_43 rfl (lv_at hl 2 rfl) ?_
      refine zg_Bench_told X hW h0 zu_160 dX0_takeNewCoat_44 ?_
      refine zg_Told_rowLength X hW (h0.2.2.2.2.2.2.2.2.2.1 _) zu_57 dX0_takeNewCoat_47 ?_
      refine lv_icmp_ge (tgt := 62) hx hb dX0_takeNewCoat_50 rfl (fun c => ?_) (fun c => ?_)
      · replace h := h.1 c
        refine lv_iconst hx hb dX0_takeNewCoat_62 zc_i0 ?_
        refine zp_Bench_place X hW h0 zu_172 dX0_takeNewCoat_63 (fun H locs zm4 ezm4 hW => ?_)
        replace h := h zm4 ezm4
        refine lv_aload_n hx hb dX0_takeNewCoat_66 rfl (lv_at hl 2 rfl) ?_
        refine zg_Bench_doing X hW h0 zu_175 dX0_takeNewCoat_67 ?_
        refine lv_iconst hx hb dX0_takeNewCoat_70 zc_i0 ?_
        refine lv_iconst hx hb dX0_takeNewCoat_71 zc_i2 ?_
        obtain ⟨g, h⟩ := h
        refine ziast X hW h0.2.1 g dX0_takeNewCoat_72 (fun H locs zm5 ezm5 hW => ?_)
        replace h := h zm5 ezm5
        refine lv_aload_n hx hb dX0_takeNewCoat_73 rfl (lv_at hl 2 rfl) ?_
        refine zg_Bench_piece X hW h0 zu_179 dX0_takeNewCoat_74 ?_
        refine lv_iconst hx hb dX0_takeNewCoat_77 zc_i0 ?_
        refine lv_iload_n hx hb dX0_takeNewCoat_78 rfl (lv_at hl 0 rfl) ?_
        obtain ⟨g, h⟩ := h
        refine ziast X hW h0.2.2.2.1 g dX0_takeNewCoat_79 (fun H locs zm6 ezm6 hW => ?_)
        replace h := h zm6 ezm6
        refine lv_aload_n hx hb dX0_takeNewCoat_80 rfl (lv_at hl 2 rfl) ?_
        refine zg_Bench_unit X hW h0 zu_181 dX0_takeNewCoat_81 ?_
        refine lv_iconst hx hb dX0_takeNewCoat_84 zc_i0 ?_
        refine lv_iconst hx hb dX0_takeNewCoat_85 zc_i0 ?_
        obtain ⟨g, h⟩ := h
        refine ziast X hW h0.2.2.2.2.1 g dX0_takeNewCoat_86 (fun H locs zm7 ezm7 hW => ?_)
        replace h := h zm7 ezm7
        refine lv_aload_n hx hb dX0_takeNewCoat_87 rfl (lv_at hl 2 rfl) ?_
        refine zg_Bench_sort X hW h0 zu_183 dX0_takeNewCoat_88 ?_
        refine lv_iconst hx hb dX0_takeNewCoat_91 zc_i0 ?_
        refine lv_iload_n hx hb dX0_takeNewCoat_92 rfl (lv_at hl 1 rfl) ?_
        obtain ⟨g, h⟩ := h
        refine ziast X hW h0.2.2.2.2.2.1 g dX0_takeNewCoat_93 (fun H locs zm8 ezm8 hW => ?_)
        replace h := h zm8 ezm8
        refine lv_iconst hx hb dX0_takeNewCoat_94 zc_i1 ?_
        exact zretz X hr hlk hW rfl h dX0_takeNewCoat_95
      · replace h := h.2 c
        refine lv_aload_n hx hb dX0_takeNewCoat_53 rfl (lv_at hl 2 rfl) ?_
        refine zg_Bench_place X hW h0 zu_172 dX0_takeNewCoat_54 ?_
        refine lv_iconst hx hb dX0_takeNewCoat_57 zc_i1 ?_
        refine lv_iadd hx hb dX0_takeNewCoat_58 ?_
        refine lv_goto (tgt := 63) hx hb dX0_takeNewCoat_59 rfl ?_
        refine zp_Bench_place X hW h0 zu_172 dX0_takeNewCoat_63 (fun H locs zm9 ezm9 hW => ?_)
        replace h := h zm9 ezm9
        refine lv_aload_n hx hb dX0_takeNewCoat_66 rfl (lv_at hl 2 rfl) ?_
        refine zg_Bench_doing X hW h0 zu_175 dX0_takeNewCoat_67 ?_
        refine lv_iconst hx hb dX0_takeNewCoat_70 zc_i0 ?_
        refine lv_iconst hx hb dX0_takeNewCoat_71 zc_i2 ?_
        obtain ⟨g, h⟩ := h
        refine ziast X hW h0.2.1 g dX0_takeNewCoat_72 (fun H locs zm10 ezm10 hW => ?_)
        replace h := h zm10 ezm10
        refine lv_aload_n hx hb dX0_takeNewCoat_73 rfl (lv_at hl 2 rfl) ?_
        refine zg_Bench_piece X hW h0 zu_179 dX0_takeNewCoat_74 ?_
        refine lv_iconst hx hb dX0_takeNewCoat_77 zc_i0 ?_
        refine lv_iload_n hx hb dX0_takeNewCoat_78 rfl (lv_at hl 0 rfl) ?_
        obtain ⟨g, h⟩ := h
        refine ziast X hW h0.2.2.2.1 g dX0_takeNewCoat_79 (fun H locs zm11 ezm11 hW => ?_)
        replace h := h zm11 ezm11
        refine lv_aload_n hx hb dX0_takeNewCoat_80 rfl (lv_at hl 2 rfl) ?_
        refine zg_Bench_unit X hW h0 zu_181 dX0_takeNewCoat_81 ?_
        refine lv_iconst hx hb dX0_takeNewCoat_84 zc_i0 ?_
        refine lv_iconst hx hb dX0_takeNewCoat_85 zc_i0 ?_
        obtain ⟨g, h⟩ := h
        refine ziast X hW h0.2.2.2.2.1 g dX0_takeNewCoat_86 (fun H locs zm12 ezm12 hW => ?_)
        replace h := h zm12 ezm12
        refine lv_aload_n hx hb dX0_takeNewCoat_87 rfl (lv_at hl 2 rfl) ?_
        refine zg_Bench_sort X hW h0 zu_183 dX0_takeNewCoat_88 ?_
        refine lv_iconst hx hb dX0_takeNewCoat_91 zc_i0 ?_
        refine lv_iload_n hx hb dX0_takeNewCoat_92 rfl (lv_at hl 1 rfl) ?_
        obtain ⟨g, h⟩ := h
        refine ziast X hW h0.2.2.2.2.2.1 g dX0_takeNewCoat_93 (fun H locs zm13 ezm13 hW => ?_)
        replace h := h zm13 ezm13
        refine lv_iconst hx hb dX0_takeNewCoat_94 zc_i1 ?_
        exact zretz X hr hlk hW rfl h dX0_takeNewCoat_95
    · replace h := h.2 c
      refine lv_iconst hx hb dX0_takeNewCoat_34 zc_i0 ?_
      exact zretz X hr hlk hW rfl h dX0_takeNewCoat_35
  exact zMain s.heap [] ls hW hl
def wp_Bench_isHeldBy (k : Nat) (a1 : Int32) (a2 : Int32) (M : zMem) (Q : Int32 → zMem → Prop) : Prop :=
  ((M (ztc (M k 0)) 1) ≤ a2 → Q 0 M) ∧ (¬ (M (ztc (M k 0)) 1) ≤ a2 → vp_in a2 5 ∧ ((M (k + 3) (ix a2)) < 0 → Q 0 M) ∧ (¬ (M (k + 3) (ix a2)) < 0 → vp_in a2 5 ∧ vp_in a1 5 ∧ ((M (k + 3) (ix a2)) ≤ (M (k + 3) (ix a1)) → vp_in a2 5 ∧ vp_in a1 5 ∧ ((M (k + 3) (ix a2)) < (M (k + 3) (ix a1)) → Q 1 M) ∧ (¬ (M (k + 3) (ix a2)) < (M (k + 3) (ix a1)) → vp_in a2 5 ∧ vp_in a1 5 ∧ ((M (k + 4) (ix a1)) < (M (k + 4) (ix a2)) → Q 0 M) ∧ (¬ (M (k + 4) (ix a1)) < (M (k + 4) (ix a2)) → Q 1 M))) ∧ (¬ (M (k + 3) (ix a2)) ≤ (M (k + 3) (ix a1)) → Q 0 M)))
set_option maxHeartbeats 4000000 in
set_option maxRecDepth 20000 in
theorem c_Bench_isHeldBy {l : Launch} {w : zWd} {k : Nat} {a1 : Int32} {a2 : Int32} {M : zMem} {post : Int32 → zMem → Prop} (h0 : zI_Bench w k) (h : wp_Bench_isHeldBy k a1 a2 M post) : zMi l ⟨"HandToHand$Bench", "isHeldBy", "(II)Z"⟩ prog_2_method_12_code 3 (Option.some .boolean) 0 0 w [.ref (zad w k), .int a1, .int a2] M post := by
  refine zMet (by decide) (Nat.le_of_ble_eq_true rfl) ?_
  intro p e s m below meth c X hr hlk hml hW ls hl
  have hx := X.1
  have hb := X.2.1
  have hl : lv_has ls 3 [(0, .ref (zad w k)), (1, .int a1), (2, .int a2)] := hl
  unfold wp_Bench_isHeldBy at h
  have zMain : ∀ (H : Heap) (locs : List Loc) (ls : Array Slot), zWo w s.heap M H locs → lv_has ls 3 [(0, .ref (zad w k)), (1, .int a1), (2, .int a2)] → W p l e (zRm 0 0) s m ([.ref (zad w k), .int a1, .int a2] : List Value).toArray below meth c H locs 0 0 (MQ below (va_Qi post (zB w) (zA w)) ([.ref (zad w k), .int a1, .int a2] : List Value).toArray s 0 0 (zA w)) (F0 m 0 ls []) := by
    intro H locs ls hW hl
    refine lv_iload_n hx hb dX0_isHeldBy_0 rfl (lv_at hl 2 rfl) ?_
    refine lv_aload_n hx hb dX0_isHeldBy_1 rfl (lv_at hl 0 rfl) ?_
    refine zg_Bench_told X hW h0 zu_160 dX0_isHeldBy_2 ?_
    refine zg_Told_hands X hW (h0.2.2.2.2.2.2.2.2.2.1 _) zu_40 dX0_isHeldBy_5 ?_
    refine lv_icmp_ge (tgt := 35) hx hb dX0_isHeldBy_8 rfl (fun c => ?_) (fun c => ?_)
    · replace h := h.1 c
      refine lv_iconst hx hb dX0_isHeldBy_35 zc_i0 ?_
      exact zretz X hr hlk hW rfl h dX0_isHeldBy_36
    · replace h := h.2 c
      refine lv_aload_n hx hb dX0_isHeldBy_11 rfl (lv_at hl 0 rfl) ?_
      refine zg_Bench_piece X hW h0 zu_179 dX0_isHeldBy_12 ?_
      refine lv_iload_n hx hb dX0_isHeldBy_15 rfl (lv_at hl 2 rfl) ?_
      obtain ⟨g, h⟩ := h
      refine ziald X hW h0.2.2.2.1 g dX0_isHeldBy_16 ?_
      refine lv_if_lt (tgt := 35) hx hb dX0_isHeldBy_17 rfl (fun c => ?_) (fun c => ?_)
      · replace h := h.1 c
        refine lv_iconst hx hb dX0_isHeldBy_35 zc_i0 ?_
        exact zretz X hr hlk hW rfl h dX0_isHeldBy_36
      · replace h := h.2 c
        refine lv_aload_n hx hb dX0_isHeldBy_20 rfl (lv_at hl 0 rfl) ?_
        refine zg_Bench_piece X hW h0 zu_179 dX0_isHeldBy_21 ?_
        refine lv_iload_n hx hb dX0_isHeldBy_24 rfl (lv_at hl 2 rfl) ?_
        obtain ⟨g, h⟩ := h
        refine ziald X hW h0.2.2.2.1 g dX0_isHeldBy_25 ?_
        refine lv_aload_n hx hb dX0_isHeldBy_26 rfl (lv_at hl 0 rfl) ?_
        refine zg_Bench_piece X hW h0 zu_179 dX0_isHeldBy_27 ?_
        refine lv_iload_n hx hb dX0_isHeldBy_30 rfl (lv_at hl 1 rfl) ?_
        obtain ⟨g, h⟩ := h
        refine ziald X hW h0.2.2.2.1 g dX0_isHeldBy_31 ?_
        refine lv_icmp_le (tgt := 37) hx hb dX0_isHeldBy_32 rfl (fun c => ?_) (fun c => ?_)
        · replace h := h.1 c
          refine lv_aload_n hx hb dX0_isHeldBy_37 rfl (lv_at hl 0 rfl) ?_
          refine zg_Bench_piece X hW h0 zu_179 dX0_isHeldBy_38 ?_
          refine lv_iload_n hx hb dX0_isHeldBy_41 rfl (lv_at hl 2 rfl) ?_
          obtain ⟨g, h⟩ := h
          refine ziald X hW h0.2.2.2.1 g dX0_isHeldBy_42 ?_
          refine lv_aload_n hx hb dX0_isHeldBy_43 rfl (lv_at hl 0 rfl) ?_
          refine zg_Bench_piece X hW h0 zu_179 dX0_isHeldBy_44 ?_
          refine lv_iload_n hx hb dX0_isHeldBy_47 rfl (lv_at hl 1 rfl) ?_
          obtain ⟨g, h⟩ := h
          refine ziald X hW h0.2.2.2.1 g dX0_isHeldBy_48 ?_
          refine lv_icmp_lt (tgt := 67) hx hb dX0_isHeldBy_49 rfl (fun c => ?_) (fun c => ?_)
          · replace h := h.1 c
            refine lv_iconst hx hb dX0_isHeldBy_67 zc_i1 ?_
            refine lv_goto (tgt := 72) hx hb dX0_isHeldBy_68 rfl ?_
            exact zretz X hr hlk hW rfl h dX0_isHeldBy_72
          · replace h := h.2 c
            refine lv_aload_n hx hb dX0_isHeldBy_52 rfl (lv_at hl 0 rfl) ?_
            refine zg_Bench_unit X hW h0 zu_181 dX0_isHeldBy_53 ?_
            refine lv_iload_n hx hb dX0_isHeldBy_56 rfl (lv_at hl 2 rfl) ?_
            obtain ⟨g, h⟩ := h
            refine ziald X hW h0.2.2.2.2.1 g dX0_isHeldBy_57 ?_
            refine lv_aload_n hx hb dX0_isHeldBy_58 rfl (lv_at hl 0 rfl) ?_
            refine zg_Bench_unit X hW h0 zu_181 dX0_isHeldBy_59 ?_
            refine lv_iload_n hx hb dX0_isHeldBy_62 rfl (lv_at hl 1 rfl) ?_
            obtain ⟨g, h⟩ := h
            refine ziald X hW h0.2.2.2.2.1 g dX0_isHeldBy_63 ?_
            refine lv_icmp_gt (tgt := 71) hx hb dX0_isHeldBy_64 rfl (fun c => ?_) (fun c => ?_)
            · replace h := h.1 c
              refine lv_iconst hx hb dX0_isHeldBy_71 zc_i0 ?_
              exact zretz X hr hlk hW rfl h dX0_isHeldBy_72
            · replace h := h.2 c
              refine lv_iconst hx hb dX0_isHeldBy_67 zc_i1 ?_
              refine lv_goto (tgt := 72) hx hb dX0_isHeldBy_68 rfl ?_
              exact zretz X hr hlk hW rfl h dX0_isHeldBy_72
        · replace h := h.2 c
          refine lv_iconst hx hb dX0_isHeldBy_35 zc_i0 ?_
          exact zretz X hr hlk hW rfl h dX0_isHeldBy_36
  exact zMain s.heap [] ls hW hl
def wp_Bench_startUnit (k : Nat) (a1 : Int32) (M : zMem) (Q : Int32 → zMem → Prop) : Prop :=
  vp_in a1 5 ∧ wp_Told_mayBegin (ztc (M k 0)) a1 (M (k + 3) (ix a1)) M (fun zr2 zm1 => (zr2 = 0 → Q 0 zm1) ∧ (¬ zr2 = 0 → wp_Bench_isHeldBy k a1 (a1 + 1) zm1 (fun zr4 zm3 => (zr4 = 0 → vp_in a1 5 ∧ ∀ zm5 : zMem, zm5 = zup zm3 (k + 1) (ix a1) 3 → vp_in a1 5 ∧ vp_in a1 5 ∧ vp_in ((a1 * 8) + (zm5 (k + 3) (ix a1))) 40 ∧ wp_Told_ticksOf (ztc (zm5 k 0)) a1 (zm5 (k + 3) (ix a1)) (zm5 (k + 7) (ix ((a1 * 8) + (zm5 (k + 3) (ix a1))))) zm5 (fun zr7 zm6 => vp_in a1 5 ∧ ∀ zm8 : zMem, zm8 = zup zm6 (k + 2) (ix a1) zr7 → Q 1 zm8)) ∧ (¬ zr4 = 0 → Q 0 zm3))))
set_option maxHeartbeats 4000000 in
set_option maxRecDepth 20000 in
theorem c_Bench_startUnit {l : Launch} {w : zWd} {k : Nat} {a1 : Int32} {M : zMem} {post : Int32 → zMem → Prop} (h0 : zI_Bench w k) (h : wp_Bench_startUnit k a1 M post) : zMi l ⟨"HandToHand$Bench", "startUnit", "(I)Z"⟩ prog_2_method_11_code 2 (Option.some .boolean) 1 24 w [.ref (zad w k), .int a1] M post := by
  refine zMet (by decide) (Nat.le_of_ble_eq_true rfl) ?_
  intro p e s m below meth c X hr hlk hml hW ls hl
  have hx := X.1
  have hb := X.2.1
  have hl : lv_has ls 2 [(0, .ref (zad w k)), (1, .int a1)] := hl
  unfold wp_Bench_startUnit at h
  have zMain : ∀ (H : Heap) (locs : List Loc) (ls : Array Slot), zWo w s.heap M H locs → lv_has ls 2 [(0, .ref (zad w k)), (1, .int a1)] → W p l e (zRm 1 24) s m ([.ref (zad w k), .int a1] : List Value).toArray below meth c H locs 0 0 (MQ below (va_Qi post (zB w) (zA w)) ([.ref (zad w k), .int a1] : List Value).toArray s 0 0 (zA w)) (F0 m 0 ls []) := by
    intro H locs ls hW hl
    refine lv_aload_n hx hb dX0_startUnit_0 rfl (lv_at hl 0 rfl) ?_
    refine zg_Bench_told X hW h0 zu_160 dX0_startUnit_1 ?_
    refine lv_iload_n hx hb dX0_startUnit_4 rfl (lv_at hl 1 rfl) ?_
    refine lv_aload_n hx hb dX0_startUnit_5 rfl (lv_at hl 0 rfl) ?_
    refine zg_Bench_piece X hW h0 zu_179 dX0_startUnit_6 ?_
    refine lv_iload_n hx hb dX0_startUnit_9 rfl (lv_at hl 1 rfl) ?_
    obtain ⟨g, h⟩ := h
    refine ziald X hW h0.2.2.2.1 g dX0_startUnit_10 ?_
    refine zcalli (zrunV (As := [.int a1, .int (M (k + 3) (ix a1))]) (rest := []) X hml hl hW (h0.2.2.2.2.2.2.2.2.2.1 _).1 rfl zk_Bench_122 (c_Told_mayBegin (h0.2.2.2.2.2.2.2.2.2.1 _) h) rfl ⟨Nat.le_of_ble_eq_true rfl, Nat.le_of_ble_eq_true rfl⟩ ⟨Nat.le_refl 0, Nat.le_refl 0⟩ rfl (Nat.le_of_ble_eq_true rfl) dX0_startUnit_11) hW (fun zr2 zm1 H locs h hW => ?_)
    refine lv_if_eq (tgt := 28) hx hb dX0_startUnit_14 rfl (fun c => ?_) (fun c => ?_)
    · replace h := h.1 c
      refine lv_iconst hx hb dX0_startUnit_28 zc_i0 ?_
      exact zretz X hr hlk hW rfl h dX0_startUnit_29
    · replace h := h.2 c
      refine lv_aload_n hx hb dX0_startUnit_17 rfl (lv_at hl 0 rfl) ?_
      refine lv_iload_n hx hb dX0_startUnit_18 rfl (lv_at hl 1 rfl) ?_
      refine lv_iload_n hx hb dX0_startUnit_19 rfl (lv_at hl 1 rfl) ?_
      refine lv_iconst hx hb dX0_startUnit_20 zc_i1 ?_
      refine lv_iadd hx hb dX0_startUnit_21 ?_
      refine zcalli (zrunV (As := [.int a1, .int (a1 + 1)]) (rest := []) X hml hl hW h0.1 rfl zk_Bench_126 (c_Bench_isHeldBy h0 h) rfl ⟨Nat.le_of_ble_eq_true rfl, Nat.le_of_ble_eq_true rfl⟩ ⟨Nat.le_refl 0, Nat.le_refl 0⟩ rfl (Nat.le_of_ble_eq_true rfl) dX0_startUnit_22) hW (fun zr4 zm3 H locs h hW => ?_)
      refine lv_if_eq (tgt := 30) hx hb dX0_startUnit_25 rfl (fun c => ?_) (fun c => ?_)
      · replace h := h.1 c
        refine lv_aload_n hx hb dX0_startUnit_30 rfl (lv_at hl 0 rfl) ?_
        refine zg_Bench_doing X hW h0 zu_175 dX0_startUnit_31 ?_
        refine lv_iload_n hx hb dX0_startUnit_34 rfl (lv_at hl 1 rfl) ?_
        refine lv_iconst hx hb dX0_startUnit_35 zc_i3 ?_
        obtain ⟨g, h⟩ := h
        refine ziast X hW h0.2.1 g dX0_startUnit_36 (fun H locs zm5 ezm5 hW => ?_)
        replace h := h zm5 ezm5
        refine lv_aload_n hx hb dX0_startUnit_37 rfl (lv_at hl 0 rfl) ?_
        refine zg_Bench_left X hW h0 zu_177 dX0_startUnit_38 ?_
        refine lv_iload_n hx hb dX0_startUnit_41 rfl (lv_at hl 1 rfl) ?_
        refine lv_aload_n hx hb dX0_startUnit_42 rfl (lv_at hl 0 rfl) ?_
        refine zg_Bench_told X hW h0 zu_160 dX0_startUnit_43 ?_
        refine lv_iload_n hx hb dX0_startUnit_46 rfl (lv_at hl 1 rfl) ?_
        refine lv_aload_n hx hb dX0_startUnit_47 rfl (lv_at hl 0 rfl) ?_
        refine zg_Bench_piece X hW h0 zu_179 dX0_startUnit_48 ?_
        refine lv_iload_n hx hb dX0_startUnit_51 rfl (lv_at hl 1 rfl) ?_
        obtain ⟨g, h⟩ := h
        refine ziald X hW h0.2.2.2.1 g dX0_startUnit_52 ?_
        refine lv_aload_n hx hb dX0_startUnit_53 rfl (lv_at hl 0 rfl) ?_
        refine zg_Bench_learned X hW h0 zu_187 dX0_startUnit_54 ?_
        refine lv_iload_n hx hb dX0_startUnit_57 rfl (lv_at hl 1 rfl) ?_
        refine lv_bipush hx hb dX0_startUnit_58 zc_b8 ?_
        refine lv_imul hx hb dX0_startUnit_60 ?_
        refine lv_aload_n hx hb dX0_startUnit_61 rfl (lv_at hl 0 rfl) ?_
        refine zg_Bench_piece X hW h0 zu_179 dX0_startUnit_62 ?_
        refine lv_iload_n hx hb dX0_startUnit_65 rfl (lv_at hl 1 rfl) ?_
        obtain ⟨g, h⟩ := h
        refine ziald X hW h0.2.2.2.1 g dX0_startUnit_66 ?_
        refine lv_iadd hx hb dX0_startUnit_67 ?_
        obtain ⟨g, h⟩ := h
        refine ziald X hW h0.2.2.2.2.2.2.2.1 g dX0_startUnit_68 ?_
        refine zcalli (zrunV (As := [.int a1, .int (zm5 (k + 3) (ix a1)), .int (zm5 (k + 7) (ix ((a1 * 8) + (zm5 (k + 3) (ix a1)))))]) (rest := [.int a1, .ref (zad w (k + 2))]) X hml hl hW (h0.2.2.2.2.2.2.2.2.2.1 _).1 rfl zk_Bench_129 (c_Told_ticksOf (h0.2.2.2.2.2.2.2.2.2.1 _) h) rfl ⟨Nat.le_of_ble_eq_true rfl, Nat.le_of_ble_eq_true rfl⟩ ⟨Nat.le_refl 0, Nat.le_refl 0⟩ rfl (Nat.le_of_ble_eq_true rfl) dX0_startUnit_69) hW (fun zr7 zm6 H locs h hW => ?_)
        obtain ⟨g, h⟩ := h
        refine ziast X hW h0.2.2.1 g dX0_startUnit_72 (fun H locs zm8 ezm8 hW => ?_)
        replace h := h zm8 ezm8
        refine lv_iconst hx hb dX0_startUnit_73 zc_i1 ?_
        exact zretz X hr hlk hW rfl h dX0_startUnit_74
      · replace h := h.2 c
        refine lv_iconst hx hb dX0_startUnit_28 zc_i0 ?_
        exact zretz X hr hlk hW rfl h dX0_startUnit_29
  exact zMain s.heap [] ls hW hl
def wp_Bench_finishUnit (k : Nat) (a1 : Int32) (M : zMem) (Q : Int32 → zMem → Prop) : Prop :=
  vp_in a1 5 ∧ vp_in ((a1 * 8) + (M (k + 3) (ix a1))) 40 ∧ vp_in ((a1 * 8) + (M (k + 3) (ix a1))) 40 ∧ ∀ zm1 : zMem, zm1 = zup M (k + 7) (ix ((a1 * 8) + (M (k + 3) (ix a1)))) ((M (k + 7) (ix ((a1 * 8) + (M (k + 3) (ix a1))))) + 1) → vp_in a1 5 ∧ ∀ zm2 : zMem, zm2 = zup zm1 (k + 1) (ix a1) 2 → vp_in a1 5 ∧ vp_in a1 5 ∧ ∀ zm3 : zMem, zm3 = zup zm2 (k + 4) (ix a1) ((zm2 (k + 4) (ix a1)) + 1) → vp_in a1 5 ∧ vp_in a1 5 ∧ vp_in a1 5 ∧ wp_Told_unitsOf (ztc (zm3 k 0)) (zm3 (k + 5) (ix a1)) (zm3 (k + 3) (ix a1)) zm3 (fun zr5 zm4 => (zr5 ≤ (zm3 (k + 4) (ix a1)) → vp_in a1 5 ∧ vp_in a1 5 ∧ wp_Told_pieceFrom (ztc (zm4 k 0)) ((zm4 (k + 3) (ix a1)) + 1) (zm4 (k + 5) (ix a1)) zm4 (fun zr7 zm6 => ((zm6 (ztc (zm6 k 0)) 0) ≤ zr7 → ∀ zm8 : zMem, zm8 = zup zm6 k 3 ((zm6 k 3) + 1) → wp_Bench_goBack k a1 (zm8 (ztc (zm8 k 0)) 0) zm8 (fun zm9 => Q 1 zm9)) ∧ (¬ (zm6 (ztc (zm6 k 0)) 0) ≤ zr7 → vp_in a1 5 ∧ ∀ zm11 : zMem, zm11 = zup zm6 (k + 3) (ix a1) zr7 → vp_in a1 5 ∧ ∀ zm12 : zMem, zm12 = zup zm11 (k + 4) (ix a1) 0 → Q 1 zm12))) ∧ (¬ zr5 ≤ (zm3 (k + 4) (ix a1)) → Q 1 zm4))
set_option maxHeartbeats 4000000 in
set_option maxRecDepth 20000 in
theorem c_Bench_finishUnit {l : Launch} {w : zWd} {k : Nat} {a1 : Int32} {M : zMem} {post : Int32 → zMem → Prop} (h0 : zI_Bench w k) (h : wp_Bench_finishUnit k a1 M post) : zMi l ⟨"HandToHand$Bench", "finishUnit", "(I)Z"⟩ prog_2_method_7_code 3 (Option.some .boolean) 1 23 w [.ref (zad w k), .int a1] M post := by
  refine zMet (by decide) (Nat.le_of_ble_eq_true rfl) ?_
  intro p e s m below meth c X hr hlk hml hW ls hl
  have hx := X.1
  have hb := X.2.1
  have hl : lv_has ls 3 [(0, .ref (zad w k)), (1, .int a1)] := hl
  unfold wp_Bench_finishUnit at h
  have zMain : ∀ (H : Heap) (locs : List Loc) (ls : Array Slot), zWo w s.heap M H locs → lv_has ls 3 [(0, .ref (zad w k)), (1, .int a1)] → W p l e (zRm 1 23) s m ([.ref (zad w k), .int a1] : List Value).toArray below meth c H locs 0 0 (MQ below (va_Qi post (zB w) (zA w)) ([.ref (zad w k), .int a1] : List Value).toArray s 0 0 (zA w)) (F0 m 0 ls []) := by
    intro H locs ls hW hl
    refine lv_aload_n hx hb dX0_finishUnit_0 rfl (lv_at hl 0 rfl) ?_
    refine zg_Bench_learned X hW h0 zu_187 dX0_finishUnit_1 ?_
    refine lv_iload_n hx hb dX0_finishUnit_4 rfl (lv_at hl 1 rfl) ?_
    refine lv_bipush hx hb dX0_finishUnit_5 zc_b8 ?_
    refine lv_imul hx hb dX0_finishUnit_7 ?_
    refine lv_aload_n hx hb dX0_finishUnit_8 rfl (lv_at hl 0 rfl) ?_
    refine zg_Bench_piece X hW h0 zu_179 dX0_finishUnit_9 ?_
    refine lv_iload_n hx hb dX0_finishUnit_12 rfl (lv_at hl 1 rfl) ?_
    obtain ⟨g, h⟩ := h
    refine ziald X hW h0.2.2.2.1 g dX0_finishUnit_13 ?_
    refine lv_iadd hx hb dX0_finishUnit_14 ?_
    refine lv_dup2_11 hx hb dX0_finishUnit_15 rfl rfl ?_
    obtain ⟨g, h⟩ := h
    refine ziald X hW h0.2.2.2.2.2.2.2.1 g dX0_finishUnit_16 ?_
    refine lv_iconst hx hb dX0_finishUnit_17 zc_i1 ?_
    refine lv_iadd hx hb dX0_finishUnit_18 ?_
    obtain ⟨g, h⟩ := h
    refine ziast X hW h0.2.2.2.2.2.2.2.1 g dX0_finishUnit_19 (fun H locs zm1 ezm1 hW => ?_)
    replace h := h zm1 ezm1
    refine lv_aload_n hx hb dX0_finishUnit_20 rfl (lv_at hl 0 rfl) ?_
    refine zg_Bench_doing X hW h0 zu_175 dX0_finishUnit_21 ?_
    refine lv_iload_n hx hb dX0_finishUnit_24 rfl (lv_at hl 1 rfl) ?_
    refine lv_iconst hx hb dX0_finishUnit_25 zc_i2 ?_
    obtain ⟨g, h⟩ := h
    refine ziast X hW h0.2.1 g dX0_finishUnit_26 (fun H locs zm2 ezm2 hW => ?_)
    replace h := h zm2 ezm2
    refine lv_aload_n hx hb dX0_finishUnit_27 rfl (lv_at hl 0 rfl) ?_
    refine zg_Bench_unit X hW h0 zu_181 dX0_finishUnit_28 ?_
    refine lv_iload_n hx hb dX0_finishUnit_31 rfl (lv_at hl 1 rfl) ?_
    refine lv_dup2_11 hx hb dX0_finishUnit_32 rfl rfl ?_
    obtain ⟨g, h⟩ := h
    refine ziald X hW h0.2.2.2.2.1 g dX0_finishUnit_33 ?_
    refine lv_iconst hx hb dX0_finishUnit_34 zc_i1 ?_
    refine lv_iadd hx hb dX0_finishUnit_35 ?_
    obtain ⟨g, h⟩ := h
    refine ziast X hW h0.2.2.2.2.1 g dX0_finishUnit_36 (fun H locs zm3 ezm3 hW => ?_)
    replace h := h zm3 ezm3
    refine lv_aload_n hx hb dX0_finishUnit_37 rfl (lv_at hl 0 rfl) ?_
    refine zg_Bench_unit X hW h0 zu_181 dX0_finishUnit_38 ?_
    refine lv_iload_n hx hb dX0_finishUnit_41 rfl (lv_at hl 1 rfl) ?_
    obtain ⟨g, h⟩ := h
    refine ziald X hW h0.2.2.2.2.1 g dX0_finishUnit_42 ?_
    refine lv_aload_n hx hb dX0_finishUnit_43 rfl (lv_at hl 0 rfl) ?_
    refine zg_Bench_told X hW h0 zu_160 dX0_finishUnit_44 ?_
    refine lv_aload_n hx hb dX0_finishUnit_47 rfl (lv_at hl 0 rfl) ?_
    refine zg_Bench_sort X hW h0 zu_183 dX0_finishUnit_48 ?_
    refine lv_iload_n hx hb dX0_finishUnit_51 rfl (lv_at hl 1 rfl) ?_
    obtain ⟨g, h⟩ := h
    refine ziald X hW h0.2.2.2.2.2.1 g dX0_finishUnit_52 ?_
    refine lv_aload_n hx hb dX0_finishUnit_53 rfl (lv_at hl 0 rfl) ?_
    refine zg_Bench_piece X hW h0 zu_179 dX0_finishUnit_54 ?_
    refine lv_iload_n hx hb dX0_finishUnit_57 rfl (lv_at hl 1 rfl) ?_
    obtain ⟨g, h⟩ := h
    refine ziald X hW h0.2.2.2.1 g dX0_finishUnit_58 ?_
    refine zcalli (zrunV (As := [.int (zm3 (k + 5) (ix a1)), .int (zm3 (k + 3) (ix a1))]) (rest := [.int (zm3 (k + 4) (ix a1))]) X hml hl hW (h0.2.2.2.2.2.2.2.2.2.1 _).1 rfl zk_Bench_89 (c_Told_unitsOf (h0.2.2.2.2.2.2.2.2.2.1 _) h) rfl ⟨Nat.le_of_ble_eq_true rfl, Nat.le_of_ble_eq_true rfl⟩ ⟨Nat.le_refl 0, Nat.le_refl 0⟩ rfl (Nat.le_of_ble_eq_true rfl) dX0_finishUnit_59) hW (fun zr5 zm4 H locs h hW => ?_)
    refine lv_icmp_ge (tgt := 67) hx hb dX0_finishUnit_62 rfl (fun c => ?_) (fun c => ?_)
    · replace h := h.1 c
      refine lv_aload_n hx hb dX0_finishUnit_67 rfl (lv_at hl 0 rfl) ?_
      refine zg_Bench_told X hW h0 zu_160 dX0_finishUnit_68 ?_
      refine lv_aload_n hx hb dX0_finishUnit_71 rfl (lv_at hl 0 rfl) ?_
      refine zg_Bench_piece X hW h0 zu_179 dX0_finishUnit_72 ?_
      refine lv_iload_n hx hb dX0_finishUnit_75 rfl (lv_at hl 1 rfl) ?_
      obtain ⟨g, h⟩ := h
      refine ziald X hW h0.2.2.2.1 g dX0_finishUnit_76 ?_
      refine lv_iconst hx hb dX0_finishUnit_77 zc_i1 ?_
      refine lv_iadd hx hb dX0_finishUnit_78 ?_
      refine lv_aload_n hx hb dX0_finishUnit_79 rfl (lv_at hl 0 rfl) ?_
      refine zg_Bench_sort X hW h0 zu_183 dX0_finishUnit_80 ?_
      refine lv_iload_n hx hb dX0_finishUnit_83 rfl (lv_at hl 1 rfl) ?_
      obtain ⟨g, h⟩ := h
      refine ziald X hW h0.2.2.2.2.2.1 g dX0_finishUnit_84 ?_
      refine zcalli (zrunV (As := [.int ((zm4 (k + 3) (ix a1)) + 1), .int (zm4 (k + 5) (ix a1))]) (rest := []) X hml hl hW (h0.2.2.2.2.2.2.2.2.2.1 _).1 rfl zk_Bench_93 (c_Told_pieceFrom (h0.2.2.2.2.2.2.2.2.2.1 _) h) rfl ⟨Nat.le_of_ble_eq_true rfl, Nat.le_of_ble_eq_true rfl⟩ ⟨Nat.le_refl 0, Nat.le_refl 0⟩ rfl (Nat.le_of_ble_eq_true rfl) dX0_finishUnit_85) hW (fun zr7 zm6 H locs h hW => ?_)
      refine lv_istore_n (lv' := [(2, .int zr7), (0, .ref (zad w k)), (1, .int a1)]) hx hb dX0_finishUnit_88 rfl hl (Nat.le_of_ble_eq_true rfl) rfl (fun ls hl => ?_)
      refine lv_iload_n hx hb dX0_finishUnit_89 rfl (lv_at hl 0 rfl) ?_
      refine lv_aload_n hx hb dX0_finishUnit_90 rfl (lv_at hl 1 rfl) ?_
      refine zg_Bench_told X hW h0 zu_160 dX0_finishUnit_91 ?_
      refine zg_Told_pieces X hW (h0.2.2.2.2.2.2.2.2.2.1 _) zu_36 dX0_finishUnit_94 ?_
      refine lv_icmp_ge (tgt := 117) hx hb dX0_finishUnit_97 rfl (fun c => ?_) (fun c => ?_)
      · replace h := h.1 c
        refine lv_aload_n hx hb dX0_finishUnit_117 rfl (lv_at hl 1 rfl) ?_
        refine lv_dup hx hb dX0_finishUnit_118 rfl ?_
        refine zg_Bench_done X hW h0 zu_166 dX0_finishUnit_119 ?_
        refine lv_iconst hx hb dX0_finishUnit_122 zc_i1 ?_
        refine lv_iadd hx hb dX0_finishUnit_123 ?_
        refine zp_Bench_done X hW h0 zu_166 dX0_finishUnit_124 (fun H locs zm8 ezm8 hW => ?_)
        replace h := h zm8 ezm8
        refine lv_aload_n hx hb dX0_finishUnit_127 rfl (lv_at hl 1 rfl) ?_
        refine lv_iload_n hx hb dX0_finishUnit_128 rfl (lv_at hl 2 rfl) ?_
        refine lv_aload_n hx hb dX0_finishUnit_129 rfl (lv_at hl 1 rfl) ?_
        refine zg_Bench_told X hW h0 zu_160 dX0_finishUnit_130 ?_
        refine zg_Told_pieces X hW (h0.2.2.2.2.2.2.2.2.2.1 _) zu_36 dX0_finishUnit_133 ?_
        refine zcallv (zrunV (As := [.int a1, .int (zm8 (ztc (zm8 k 0)) 0)]) (rest := []) X hml hl hW h0.1 rfl zk_Bench_99 (c_Bench_goBack h0 h) rfl ⟨Nat.le_of_ble_eq_true rfl, Nat.le_of_ble_eq_true rfl⟩ ⟨Nat.le_refl 0, Nat.le_refl 0⟩ rfl (Nat.le_of_ble_eq_true rfl) dX0_finishUnit_136) hW (fun zm9 H locs h hW => ?_)
        refine lv_iconst hx hb dX0_finishUnit_139 zc_i1 ?_
        exact zretz X hr hlk hW rfl h dX0_finishUnit_140
      · replace h := h.2 c
        refine lv_aload_n hx hb dX0_finishUnit_100 rfl (lv_at hl 1 rfl) ?_
        refine zg_Bench_piece X hW h0 zu_179 dX0_finishUnit_101 ?_
        refine lv_iload_n hx hb dX0_finishUnit_104 rfl (lv_at hl 2 rfl) ?_
        refine lv_iload_n hx hb dX0_finishUnit_105 rfl (lv_at hl 0 rfl) ?_
        obtain ⟨g, h⟩ := h
        refine ziast X hW h0.2.2.2.1 g dX0_finishUnit_106 (fun H locs zm11 ezm11 hW => ?_)
        replace h := h zm11 ezm11
        refine lv_aload_n hx hb dX0_finishUnit_107 rfl (lv_at hl 1 rfl) ?_
        refine zg_Bench_unit X hW h0 zu_181 dX0_finishUnit_108 ?_
        refine lv_iload_n hx hb dX0_finishUnit_111 rfl (lv_at hl 2 rfl) ?_
        refine lv_iconst hx hb dX0_finishUnit_112 zc_i0 ?_
        obtain ⟨g, h⟩ := h
        refine ziast X hW h0.2.2.2.2.1 g dX0_finishUnit_113 (fun H locs zm12 ezm12 hW => ?_)
        replace h := h zm12 ezm12
        refine lv_goto (tgt := 139) hx hb dX0_finishUnit_114 rfl ?_
        refine lv_iconst hx hb dX0_finishUnit_139 zc_i1 ?_
        exact zretz X hr hlk hW rfl h dX0_finishUnit_140
    · replace h := h.2 c
      refine lv_iconst hx hb dX0_finishUnit_65 zc_i1 ?_
      exact zretz X hr hlk hW rfl h dX0_finishUnit_66
  exact zMain s.heap [] ls hW hl
def wp_Bench_act (k : Nat) (a1 : Int32) (M : zMem) (Q : Int32 → zMem → Prop) : Prop :=
  vp_in a1 5 ∧ ∀ zx1 : Int32, zx1 = M (k + 1) (ix a1) → (zx1 = 0 → (¬ a1 = 0 → wp_Bench_takeOver k a1 M (fun zr3 zm2 => zbo zr3 ∧ Q zr3 zm2)) ∧ (a1 = 0 → wp_Bench_takeNewCoat k M (fun zr5 zm4 => zbo zr5 ∧ Q zr5 zm4))) ∧ (zx1 = 1 → Q 0 M) ∧ (zx1 = 2 → wp_Bench_startUnit k a1 M (fun zr7 zm6 => zbo zr7 ∧ Q zr7 zm6)) ∧ (zx1 = 3 → wp_Bench_finishUnit k a1 M (fun zr9 zm8 => zbo zr9 ∧ Q zr9 zm8)) ∧ (¬ zx1 = 0 → ¬ zx1 = 1 → ¬ zx1 = 2 → ¬ zx1 = 3 → Q 0 M)
set_option maxHeartbeats 4000000 in
set_option maxRecDepth 20000 in
theorem c_Bench_act {l : Launch} {w : zWd} {k : Nat} {a1 : Int32} {M : zMem} {post : Int32 → zMem → Prop} (h0 : zI_Bench w k) (h : wp_Bench_act k a1 M post) : zMi l ⟨"HandToHand$Bench", "act", "(I)Z"⟩ prog_2_method_6_code 2 (Option.some .boolean) 2 48 w [.ref (zad w k), .int a1] M post := by
  refine zMet (by decide) (Nat.le_of_ble_eq_true rfl) ?_
  intro p e s m below meth c X hr hlk hml hW ls hl
  have hx := X.1
  have hb := X.2.1
  have hl : lv_has ls 2 [(0, .ref (zad w k)), (1, .int a1)] := hl
  unfold wp_Bench_act at h
  have zMain : ∀ (H : Heap) (locs : List Loc) (ls : Array Slot), zWo w s.heap M H locs → lv_has ls 2 [(0, .ref (zad w k)), (1, .int a1)] → W p l e (zRm 2 48) s m ([.ref (zad w k), .int a1] : List Value).toArray below meth c H locs 0 0 (MQ below (va_Qi post (zB w) (zA w)) ([.ref (zad w k), .int a1] : List Value).toArray s 0 0 (zA w)) (F0 m 0 ls []) := by
    intro H locs ls hW hl
    refine lv_aload_n hx hb dX0_act_0 rfl (lv_at hl 0 rfl) ?_
    refine zg_Bench_doing X hW h0 zu_175 dX0_act_1 ?_
    refine lv_iload_n hx hb dX0_act_4 rfl (lv_at hl 1 rfl) ?_
    obtain ⟨g, h⟩ := h
    refine ziald X hW h0.2.1 g dX0_act_5 ?_
    refine lv_topi (fun zx1 ezx1 => ?_)
    replace h := h zx1 ezx1
    by_cases c0 : zx1 = 0
    · replace h := h.1 c0
      refine lv_tableIn (off := 36) (tgt := 42) hx hb dX0_act_6 (by rw [c0]; decide) (by rw [c0]; decide) (by rw [c0]; rfl) rfl ?_
      refine lv_iload_n hx hb dX0_act_42 rfl (lv_at hl 1 rfl) ?_
      refine lv_if_ne (tgt := 53) hx hb dX0_act_43 rfl (fun c => ?_) (fun c => ?_)
      · replace h := h.1 c
        refine lv_aload_n hx hb dX0_act_53 rfl (lv_at hl 0 rfl) ?_
        refine lv_iload_n hx hb dX0_act_54 rfl (lv_at hl 1 rfl) ?_
        refine zcalli (zrunV (As := [.int a1]) (rest := []) X hml hl hW h0.1 rfl zk_Bench_83 (c_Bench_takeOver h0 h) rfl ⟨Nat.le_of_ble_eq_true rfl, Nat.le_of_ble_eq_true rfl⟩ ⟨Nat.le_refl 0, Nat.le_refl 0⟩ rfl (Nat.le_of_ble_eq_true rfl) dX0_act_55) hW (fun zr3 zm2 H locs h hW => ?_)
        exact zretz X hr hlk hW (zbo_n h.1) h.2 dX0_act_58
      · replace h := h.2 c
        refine lv_aload_n hx hb dX0_act_46 rfl (lv_at hl 0 rfl) ?_
        refine zcalli (zrunV (As := []) (rest := []) X hml hl hW h0.1 rfl zk_Bench_79 (c_Bench_takeNewCoat h0 h) rfl ⟨Nat.le_of_ble_eq_true rfl, Nat.le_of_ble_eq_true rfl⟩ ⟨Nat.le_refl 0, Nat.le_refl 0⟩ rfl (Nat.le_of_ble_eq_true rfl) dX0_act_47) hW (fun zr5 zm4 H locs h hW => ?_)
        refine lv_goto (tgt := 58) hx hb dX0_act_50 rfl ?_
        exact zretz X hr hlk hW (zbo_n h.1) h.2 dX0_act_58
    replace h := h.2
    by_cases c1 : zx1 = 1
    · replace h := h.1 c1
      refine lv_tableIn (off := 59) (tgt := 65) hx hb dX0_act_6 (by rw [c1]; decide) (by rw [c1]; decide) (by rw [c1]; rfl) rfl ?_
      refine lv_iconst hx hb dX0_act_65 zc_i0 ?_
      exact zretz X hr hlk hW rfl h dX0_act_66
    replace h := h.2
    by_cases c2 : zx1 = 2
    · replace h := h.1 c2
      refine lv_tableIn (off := 53) (tgt := 59) hx hb dX0_act_6 (by rw [c2]; decide) (by rw [c2]; decide) (by rw [c2]; rfl) rfl ?_
      refine lv_aload_n hx hb dX0_act_59 rfl (lv_at hl 0 rfl) ?_
      refine lv_iload_n hx hb dX0_act_60 rfl (lv_at hl 1 rfl) ?_
      refine zcalli (zrunV (As := [.int a1]) (rest := []) X hml hl hW h0.1 rfl zk_Bench_86 (c_Bench_startUnit h0 h) rfl ⟨Nat.le_of_ble_eq_true rfl, Nat.le_of_ble_eq_true rfl⟩ ⟨Nat.le_refl 0, Nat.le_refl 0⟩ rfl (Nat.le_of_ble_eq_true rfl) dX0_act_61) hW (fun zr7 zm6 H locs h hW => ?_)
      exact zretz X hr hlk hW (zbo_n h.1) h.2 dX0_act_64
    replace h := h.2
    by_cases c3 : zx1 = 3
    · replace h := h.1 c3
      refine lv_tableIn (off := 30) (tgt := 36) hx hb dX0_act_6 (by rw [c3]; decide) (by rw [c3]; decide) (by rw [c3]; rfl) rfl ?_
      refine lv_aload_n hx hb dX0_act_36 rfl (lv_at hl 0 rfl) ?_
      refine lv_iload_n hx hb dX0_act_37 rfl (lv_at hl 1 rfl) ?_
      refine zcalli (zrunV (As := [.int a1]) (rest := []) X hml hl hW h0.1 rfl zk_Bench_76 (c_Bench_finishUnit h0 h) rfl ⟨Nat.le_of_ble_eq_true rfl, Nat.le_of_ble_eq_true rfl⟩ ⟨Nat.le_refl 0, Nat.le_refl 0⟩ rfl (Nat.le_of_ble_eq_true rfl) dX0_act_38) hW (fun zr9 zm8 H locs h hW => ?_)
      exact zretz X hr hlk hW (zbo_n h.1) h.2 dX0_act_41
    replace h := h.2
    replace h := h c0 c1 c2 c3
    refine lv_tableOut (tgt := 65) hx hb dX0_act_6 (zsw 3 (Nat.le_of_ble_eq_true rfl) (fun j hj => ?_)) rfl ?_
    · rcases (show j = 0 ∨ j = 1 ∨ j = 2 ∨ j = 3 by omega) with rfl | rfl | rfl | rfl
      · exact c0
      · exact c1
      · exact c2
      · exact c3
    refine lv_iconst hx hb dX0_act_65 zc_i0 ?_
    exact zretz X hr hlk hW rfl h dX0_act_66
  exact zMain s.heap [] ls hW hl
def wpB_Bench_doAll_26 (k : Nat) (x_2 : Int32) (K55 : Int32 → zMem → Prop) (Q : zMem → Prop) (J : Int32 → Int32 → zMem → Prop) (x_1 : Int32) (x_3 : Int32) (M : zMem) : Prop :=
  (x_3 < 0 → K55 x_1 M) ∧ (¬ x_3 < 0 → vp_in x_3 5 ∧ (¬ (M (k + 2) (ix x_3)) = 0 → ∀ zx2 : Int32, zx2 = x_3 + (-1) → J x_1 zx2 M) ∧ ((M (k + 2) (ix x_3)) = 0 → wp_Bench_act k x_3 M (fun zr4 zm3 => (zr4 = 0 → ∀ zx5 : Int32, zx5 = x_3 + (-1) → J x_1 zx5 zm3) ∧ (¬ zr4 = 0 → ∀ zx6 : Int32, zx6 = x_3 + (-1) → J 1 zx6 zm3))))
def wpB_Bench_doAll_4 (k : Nat)   (Q : zMem → Prop) (J : Int32 → Int32 → zMem → Prop) (x_1 : Int32) (x_2 : Int32) (M : zMem) : Prop :=
  (1000000 ≤ x_2 → Q M) ∧ (¬ 1000000 ≤ x_2 → (x_1 = 0 → Q M) ∧ (¬ x_1 = 0 → ∀ zx1 : Int32, zx1 = (M (ztc (M k 0)) 1) - 1 → ∃ n : Nat, zlp2 (wpB_Bench_doAll_26 k x_2 (fun (zx8 : Int32) (zm7 : zMem) => ∀ zx9 : Int32, zx9 = x_2 + 1 → J zx8 zx9 zm7) Q) n 0 zx1 M))
def wp_Bench_doAll (k : Nat) (M : zMem) (Q : zMem → Prop) : Prop :=
  ∃ n : Nat, zlp2 (wpB_Bench_doAll_4 k   Q) n 1 0 M
set_option maxHeartbeats 4000000 in
set_option maxRecDepth 20000 in
theorem c_Bench_doAll {l : Launch} {w : zWd} {k : Nat} {M : zMem} {post : zMem → Prop} (h0 : zI_Bench w k) (h : wp_Bench_doAll k M post) : zMv l ⟨"HandToHand$Bench", "doAll", "()V"⟩ prog_2_method_5_code 4 none 3 69 w [.ref (zad w k)] M post := by
  refine zMet (by decide) (Nat.le_of_ble_eq_true rfl) ?_
  intro p e s m below meth c X hr hlk hml hW ls hl
  have hx := X.1
  have hb := X.2.1
  have hl : lv_has ls 4 [(0, .ref (zad w k))] := hl
  have zL_26 : ∀ (x_2 : Int32) (K55 : Int32 → zMem → Prop) (zK55 : ∀ (y_1 : Int32) (M : zMem) (H : Heap) (locs : List Loc) (ls : Array Slot), zWo w s.heap M H locs → lv_has ls 4 [(0, .ref (zad w k)), (1, .int y_1), (2, .int x_2)] → K55 y_1 M → W p l e (zRm 3 69) s m ([.ref (zad w k)] : List Value).toArray below meth c H locs 0 0 (MQ below (va_Qv post (zB w) (zA w)) ([.ref (zad w k)] : List Value).toArray s 0 0 (zA w)) (F0 m 55 ls [])), ∀ (n : Nat) (x_1 : Int32) (x_3 : Int32) (M : zMem) (H : Heap) (locs : List Loc) (ls : Array Slot), zWo w s.heap M H locs → lv_has ls 4 [(0, .ref (zad w k)), (1, .int x_1), (2, .int x_2), (3, .int x_3)] → zlp2 (wpB_Bench_doAll_26 k x_2 K55 post) n x_1 x_3 M → W p l e (zRm 3 69) s m ([.ref (zad w k)] : List Value).toArray below meth c H locs 0 0 (MQ below (va_Qv post (zB w) (zA w)) ([.ref (zad w k)] : List Value).toArray s 0 0 (zA w)) (F0 m 26 ls []) := by
    intro x_2 K55 zK55 n
    induction n with
    | zero => intro x_1 x_3 M H locs ls hW hl h; exact h.elim
    | succ n zJ =>
      intro x_1 x_3 M H locs ls hW hl h
      have h : wpB_Bench_doAll_26 k x_2 K55 post (zlp2 (wpB_Bench_doAll_26 k x_2 K55 post) n) x_1 x_3 M := h
      unfold wpB_Bench_doAll_26 at h
      refine lv_iload_n hx hb dX0_doAll_26 rfl (lv_at hl 3 rfl) ?_
      refine lv_if_lt (tgt := 55) hx hb dX0_doAll_27 rfl (fun c => ?_) (fun c => ?_)
      · replace h := h.1 c
        exact zK55 x_1 M H locs ls hW (lv_sub hl [0, 1, 2] rfl) h
      · replace h := h.2 c
        refine lv_aload_n hx hb dX0_doAll_30 rfl (lv_at hl 0 rfl) ?_
        refine zg_Bench_left X hW h0 zu_177 dX0_doAll_31 ?_
        refine lv_iload_n hx hb dX0_doAll_34 rfl (lv_at hl 3 rfl) ?_
        obtain ⟨g, h⟩ := h
        refine ziald X hW h0.2.2.1 g dX0_doAll_35 ?_
        refine lv_if_ne (tgt := 49) hx hb dX0_doAll_36 rfl (fun c => ?_) (fun c => ?_)
        · replace h := h.1 c
          obtain ⟨zx2, ezx2⟩ : ∃ y : Int32, y = x_3 + (-1) := ⟨_, rfl⟩
          replace h := h zx2 ezx2
          refine lv_iinc (v := zx2) (lv' := [(3, .int zx2), (0, .ref (zad w k)), (1, .int x_1), (2, .int x_2)]) hx hb dX0_doAll_49 hl (k := 3) rfl (by rw [ezx2, zc_im1]) (Nat.le_of_ble_eq_true rfl) rfl (fun ls hl => ?_)
          refine lv_goto (tgt := 26) hx hb dX0_doAll_52 rfl ?_
          exact zJ x_1 zx2 M H locs ls hW (lv_sub hl [1, 2, 3, 0] rfl) h
        · replace h := h.2 c
          refine lv_aload_n hx hb dX0_doAll_39 rfl (lv_at hl 0 rfl) ?_
          refine lv_iload_n hx hb dX0_doAll_40 rfl (lv_at hl 3 rfl) ?_
          refine zcalli (zrunV (As := [.int x_3]) (rest := []) X hml hl hW h0.1 rfl zk_Bench_72 (c_Bench_act h0 h) rfl ⟨Nat.le_of_ble_eq_true rfl, Nat.le_of_ble_eq_true rfl⟩ ⟨Nat.le_refl 0, Nat.le_refl 0⟩ rfl (Nat.le_of_ble_eq_true rfl) dX0_doAll_41) hW (fun zr4 zm3 H locs h hW => ?_)
          refine lv_if_eq (tgt := 49) hx hb dX0_doAll_44 rfl (fun c => ?_) (fun c => ?_)
          · replace h := h.1 c
            obtain ⟨zx5, ezx5⟩ : ∃ y : Int32, y = x_3 + (-1) := ⟨_, rfl⟩
            replace h := h zx5 ezx5
            refine lv_iinc (v := zx5) (lv' := [(3, .int zx5), (0, .ref (zad w k)), (1, .int x_1), (2, .int x_2)]) hx hb dX0_doAll_49 hl (k := 3) rfl (by rw [ezx5, zc_im1]) (Nat.le_of_ble_eq_true rfl) rfl (fun ls hl => ?_)
            refine lv_goto (tgt := 26) hx hb dX0_doAll_52 rfl ?_
            exact zJ x_1 zx5 zm3 H locs ls hW (lv_sub hl [1, 2, 3, 0] rfl) h
          · replace h := h.2 c
            refine lv_iconst hx hb dX0_doAll_47 zc_i1 ?_
            refine lv_istore_n (lv' := [(1, .int 1), (0, .ref (zad w k)), (2, .int x_2), (3, .int x_3)]) hx hb dX0_doAll_48 rfl hl (Nat.le_of_ble_eq_true rfl) rfl (fun ls hl => ?_)
            obtain ⟨zx6, ezx6⟩ : ∃ y : Int32, y = x_3 + (-1) := ⟨_, rfl⟩
            replace h := h zx6 ezx6
            refine lv_iinc (v := zx6) (lv' := [(3, .int zx6), (1, .int 1), (0, .ref (zad w k)), (2, .int x_2)]) hx hb dX0_doAll_49 hl (k := 3) rfl (by rw [ezx6, zc_im1]) (Nat.le_of_ble_eq_true rfl) rfl (fun ls hl => ?_)
            refine lv_goto (tgt := 26) hx hb dX0_doAll_52 rfl ?_
            exact zJ 1 zx6 zm3 H locs ls hW (lv_sub hl [2, 1, 3, 0] rfl) h
  have zL_4 :  ∀ (n : Nat) (x_1 : Int32) (x_2 : Int32) (M : zMem) (H : Heap) (locs : List Loc) (ls : Array Slot), zWo w s.heap M H locs → lv_has ls 4 [(0, .ref (zad w k)), (1, .int x_1), (2, .int x_2)] → zlp2 (wpB_Bench_doAll_4 k   post) n x_1 x_2 M → W p l e (zRm 3 69) s m ([.ref (zad w k)] : List Value).toArray below meth c H locs 0 0 (MQ below (va_Qv post (zB w) (zA w)) ([.ref (zad w k)] : List Value).toArray s 0 0 (zA w)) (F0 m 4 ls []) := by
    intro n
    induction n with
    | zero => intro x_1 x_2 M H locs ls hW hl h; exact h.elim
    | succ n zJ =>
      intro x_1 x_2 M H locs ls hW hl h
      have h : wpB_Bench_doAll_4 k   post (zlp2 (wpB_Bench_doAll_4 k   post) n) x_1 x_2 M := h
      unfold wpB_Bench_doAll_4 at h
      refine lv_iload_n hx hb dX0_doAll_4 rfl (lv_at hl 2 rfl) ?_
      refine lv_ldc hx hb X.2.2.1 (X.2.2.2.1 _ zu_414) dX0_doAll_5 ?_
      refine lv_icmp_ge (tgt := 61) hx hb dX0_doAll_7 rfl (fun c => ?_) (fun c => ?_)
      · replace h := h.1 c
        exact zretv X hr hlk hW h dX0_doAll_61
      · replace h := h.2 c
        refine lv_iload_n hx hb dX0_doAll_10 rfl (lv_at hl 1 rfl) ?_
        refine lv_if_eq (tgt := 61) hx hb dX0_doAll_11 rfl (fun c => ?_) (fun c => ?_)
        · replace h := h.1 c
          exact zretv X hr hlk hW h dX0_doAll_61
        · replace h := h.2 c
          refine lv_iconst hx hb dX0_doAll_14 zc_i0 ?_
          refine lv_istore_n (lv' := [(1, .int 0), (0, .ref (zad w k)), (2, .int x_2)]) hx hb dX0_doAll_15 rfl hl (Nat.le_of_ble_eq_true rfl) rfl (fun ls hl => ?_)
          refine lv_aload_n hx hb dX0_doAll_16 rfl (lv_at hl 1 rfl) ?_
          refine zg_Bench_told X hW h0 zu_160 dX0_doAll_17 ?_
          refine zg_Told_hands X hW (h0.2.2.2.2.2.2.2.2.2.1 _) zu_40 dX0_doAll_20 ?_
          refine lv_iconst hx hb dX0_doAll_23 zc_i1 ?_
          refine lv_isub hx hb dX0_doAll_24 ?_
          refine lv_topi (fun zx1 ezx1 => ?_)
          replace h := h zx1 ezx1
          refine lv_istore_n (lv' := [(3, .int zx1), (1, .int 0), (0, .ref (zad w k)), (2, .int x_2)]) hx hb dX0_doAll_25 rfl hl (Nat.le_of_ble_eq_true rfl) rfl (fun ls hl => ?_)
          obtain ⟨n, h⟩ := h
          refine zL_26 x_2 _ (fun zx8 zm7 H locs ls hW hl h => ?_) n 0 zx1 M H locs ls hW (lv_sub hl [2, 1, 3, 0] rfl) h
          · skip
            obtain ⟨zx9, ezx9⟩ : ∃ y : Int32, y = x_2 + 1 := ⟨_, rfl⟩
            replace h := h zx9 ezx9
            refine lv_iinc (v := zx9) (lv' := [(2, .int zx9), (0, .ref (zad w k)), (1, .int zx8)]) hx hb dX0_doAll_55 hl (k := 2) rfl (by rw [ezx9, zc_i1]) (Nat.le_of_ble_eq_true rfl) rfl (fun ls hl => ?_)
            refine lv_goto (tgt := 4) hx hb dX0_doAll_58 rfl ?_
            exact zJ zx8 zx9 zm7 H locs ls hW (lv_sub hl [1, 2, 0] rfl) h
  unfold wp_Bench_doAll at h
  have zMain : ∀ (H : Heap) (locs : List Loc) (ls : Array Slot), zWo w s.heap M H locs → lv_has ls 4 [(0, .ref (zad w k))] → W p l e (zRm 3 69) s m ([.ref (zad w k)] : List Value).toArray below meth c H locs 0 0 (MQ below (va_Qv post (zB w) (zA w)) ([.ref (zad w k)] : List Value).toArray s 0 0 (zA w)) (F0 m 0 ls []) := by
    intro H locs ls hW hl
    refine lv_iconst hx hb dX0_doAll_0 zc_i1 ?_
    refine lv_istore_n (lv' := [(1, .int 1), (0, .ref (zad w k))]) hx hb dX0_doAll_1 rfl hl (Nat.le_of_ble_eq_true rfl) rfl (fun ls hl => ?_)
    refine lv_iconst hx hb dX0_doAll_2 zc_i0 ?_
    refine lv_istore_n (lv' := [(2, .int 0), (1, .int 1), (0, .ref (zad w k))]) hx hb dX0_doAll_3 rfl hl (Nat.le_of_ble_eq_true rfl) rfl (fun ls hl => ?_)
    obtain ⟨n, h⟩ := h
    refine zL_4   n 1 0 M H locs ls hW (lv_sub hl [2, 1, 0] rfl) h
  exact zMain s.heap [] ls hW hl
def wpB_Bench_leastLeft_4 (k : Nat)   (Q : Int32 → zMem → Prop) (J : Int32 → Int32 → zMem → Prop) (x_1 : Int32) (x_2 : Int32) (M : zMem) : Prop :=
  ((M (ztc (M k 0)) 1) ≤ x_2 → Q x_1 M) ∧ (¬ (M (ztc (M k 0)) 1) ≤ x_2 → vp_in x_2 5 ∧ ((M (k + 2) (ix x_2)) ≤ 0 → ∀ zx1 : Int32, zx1 = x_2 + 1 → J x_1 zx1 M) ∧ (¬ (M (k + 2) (ix x_2)) ≤ 0 → (x_1 = 0 → vp_in x_2 5 ∧ ∀ zx2 : Int32, zx2 = M (k + 2) (ix x_2) → ∀ zx3 : Int32, zx3 = x_2 + 1 → J zx2 zx3 M) ∧ (¬ x_1 = 0 → vp_in x_2 5 ∧ (x_1 ≤ (M (k + 2) (ix x_2)) → ∀ zx4 : Int32, zx4 = x_2 + 1 → J x_1 zx4 M) ∧ (¬ x_1 ≤ (M (k + 2) (ix x_2)) → vp_in x_2 5 ∧ ∀ zx5 : Int32, zx5 = M (k + 2) (ix x_2) → ∀ zx6 : Int32, zx6 = x_2 + 1 → J zx5 zx6 M))))
def wp_Bench_leastLeft (k : Nat) (M : zMem) (Q : Int32 → zMem → Prop) : Prop :=
  ∃ n : Nat, zlp2 (wpB_Bench_leastLeft_4 k   Q) n 0 0 M
set_option maxHeartbeats 4000000 in
set_option maxRecDepth 20000 in
theorem c_Bench_leastLeft {l : Launch} {w : zWd} {k : Nat} {M : zMem} {post : Int32 → zMem → Prop} (h0 : zI_Bench w k) (h : wp_Bench_leastLeft k M post) : zMi l ⟨"HandToHand$Bench", "leastLeft", "()I"⟩ prog_2_method_13_code 3 (Option.some .int) 0 0 w [.ref (zad w k)] M post := by
  refine zMet (by decide) (Nat.le_of_ble_eq_true rfl) ?_
  intro p e s m below meth c X hr hlk hml hW ls hl
  have hx := X.1
  have hb := X.2.1
  have hl : lv_has ls 3 [(0, .ref (zad w k))] := hl
  have zL_4 :  ∀ (n : Nat) (x_1 : Int32) (x_2 : Int32) (M : zMem) (H : Heap) (locs : List Loc) (ls : Array Slot), zWo w s.heap M H locs → lv_has ls 3 [(0, .ref (zad w k)), (1, .int x_1), (2, .int x_2)] → zlp2 (wpB_Bench_leastLeft_4 k   post) n x_1 x_2 M → W p l e (zRm 0 0) s m ([.ref (zad w k)] : List Value).toArray below meth c H locs 0 0 (MQ below (va_Qi post (zB w) (zA w)) ([.ref (zad w k)] : List Value).toArray s 0 0 (zA w)) (F0 m 4 ls []) := by
    intro n
    induction n with
    | zero => intro x_1 x_2 M H locs ls hW hl h; exact h.elim
    | succ n zJ =>
      intro x_1 x_2 M H locs ls hW hl h
      have h : wpB_Bench_leastLeft_4 k   post (zlp2 (wpB_Bench_leastLeft_4 k   post) n) x_1 x_2 M := h
      unfold wpB_Bench_leastLeft_4 at h
      refine lv_iload_n hx hb dX0_leastLeft_4 rfl (lv_at hl 2 rfl) ?_
      refine lv_aload_n hx hb dX0_leastLeft_5 rfl (lv_at hl 0 rfl) ?_
      refine zg_Bench_told X hW h0 zu_160 dX0_leastLeft_6 ?_
      refine zg_Told_hands X hW (h0.2.2.2.2.2.2.2.2.2.1 _) zu_40 dX0_leastLeft_9 ?_
      refine lv_icmp_ge (tgt := 51) hx hb dX0_leastLeft_12 rfl (fun c => ?_) (fun c => ?_)
      · replace h := h.1 c
        refine lv_iload_n hx hb dX0_leastLeft_51 rfl (lv_at hl 1 rfl) ?_
        exact zreti X hr hlk hW h dX0_leastLeft_52
      · replace h := h.2 c
        refine lv_aload_n hx hb dX0_leastLeft_15 rfl (lv_at hl 0 rfl) ?_
        refine zg_Bench_left X hW h0 zu_177 dX0_leastLeft_16 ?_
        refine lv_iload_n hx hb dX0_leastLeft_19 rfl (lv_at hl 2 rfl) ?_
        obtain ⟨g, h⟩ := h
        refine ziald X hW h0.2.2.1 g dX0_leastLeft_20 ?_
        refine lv_if_le (tgt := 45) hx hb dX0_leastLeft_21 rfl (fun c => ?_) (fun c => ?_)
        · replace h := h.1 c
          obtain ⟨zx1, ezx1⟩ : ∃ y : Int32, y = x_2 + 1 := ⟨_, rfl⟩
          replace h := h zx1 ezx1
          refine lv_iinc (v := zx1) (lv' := [(2, .int zx1), (0, .ref (zad w k)), (1, .int x_1)]) hx hb dX0_leastLeft_45 hl (k := 2) rfl (by rw [ezx1, zc_i1]) (Nat.le_of_ble_eq_true rfl) rfl (fun ls hl => ?_)
          refine lv_goto (tgt := 4) hx hb dX0_leastLeft_48 rfl ?_
          exact zJ x_1 zx1 M H locs ls hW (lv_sub hl [1, 2, 0] rfl) h
        · replace h := h.2 c
          refine lv_iload_n hx hb dX0_leastLeft_24 rfl (lv_at hl 1 rfl) ?_
          refine lv_if_eq (tgt := 38) hx hb dX0_leastLeft_25 rfl (fun c => ?_) (fun c => ?_)
          · replace h := h.1 c
            refine lv_aload_n hx hb dX0_leastLeft_38 rfl (lv_at hl 0 rfl) ?_
            refine zg_Bench_left X hW h0 zu_177 dX0_leastLeft_39 ?_
            refine lv_iload_n hx hb dX0_leastLeft_42 rfl (lv_at hl 2 rfl) ?_
            obtain ⟨g, h⟩ := h
            refine ziald X hW h0.2.2.1 g dX0_leastLeft_43 ?_
            refine lv_topi (fun zx2 ezx2 => ?_)
            replace h := h zx2 ezx2
            refine lv_istore_n (lv' := [(1, .int zx2), (0, .ref (zad w k)), (2, .int x_2)]) hx hb dX0_leastLeft_44 rfl hl (Nat.le_of_ble_eq_true rfl) rfl (fun ls hl => ?_)
            obtain ⟨zx3, ezx3⟩ : ∃ y : Int32, y = x_2 + 1 := ⟨_, rfl⟩
            replace h := h zx3 ezx3
            refine lv_iinc (v := zx3) (lv' := [(2, .int zx3), (1, .int zx2), (0, .ref (zad w k))]) hx hb dX0_leastLeft_45 hl (k := 2) rfl (by rw [ezx3, zc_i1]) (Nat.le_of_ble_eq_true rfl) rfl (fun ls hl => ?_)
            refine lv_goto (tgt := 4) hx hb dX0_leastLeft_48 rfl ?_
            exact zJ zx2 zx3 M H locs ls hW (lv_sub hl [2, 1, 0] rfl) h
          · replace h := h.2 c
            refine lv_aload_n hx hb dX0_leastLeft_28 rfl (lv_at hl 0 rfl) ?_
            refine zg_Bench_left X hW h0 zu_177 dX0_leastLeft_29 ?_
            refine lv_iload_n hx hb dX0_leastLeft_32 rfl (lv_at hl 2 rfl) ?_
            obtain ⟨g, h⟩ := h
            refine ziald X hW h0.2.2.1 g dX0_leastLeft_33 ?_
            refine lv_iload_n hx hb dX0_leastLeft_34 rfl (lv_at hl 1 rfl) ?_
            refine lv_icmp_ge (tgt := 45) hx hb dX0_leastLeft_35 rfl (fun c => ?_) (fun c => ?_)
            · replace h := h.1 c
              obtain ⟨zx4, ezx4⟩ : ∃ y : Int32, y = x_2 + 1 := ⟨_, rfl⟩
              replace h := h zx4 ezx4
              refine lv_iinc (v := zx4) (lv' := [(2, .int zx4), (0, .ref (zad w k)), (1, .int x_1)]) hx hb dX0_leastLeft_45 hl (k := 2) rfl (by rw [ezx4, zc_i1]) (Nat.le_of_ble_eq_true rfl) rfl (fun ls hl => ?_)
              refine lv_goto (tgt := 4) hx hb dX0_leastLeft_48 rfl ?_
              exact zJ x_1 zx4 M H locs ls hW (lv_sub hl [1, 2, 0] rfl) h
            · replace h := h.2 c
              refine lv_aload_n hx hb dX0_leastLeft_38 rfl (lv_at hl 0 rfl) ?_
              refine zg_Bench_left X hW h0 zu_177 dX0_leastLeft_39 ?_
              refine lv_iload_n hx hb dX0_leastLeft_42 rfl (lv_at hl 2 rfl) ?_
              obtain ⟨g, h⟩ := h
              refine ziald X hW h0.2.2.1 g dX0_leastLeft_43 ?_
              refine lv_topi (fun zx5 ezx5 => ?_)
              replace h := h zx5 ezx5
              refine lv_istore_n (lv' := [(1, .int zx5), (0, .ref (zad w k)), (2, .int x_2)]) hx hb dX0_leastLeft_44 rfl hl (Nat.le_of_ble_eq_true rfl) rfl (fun ls hl => ?_)
              obtain ⟨zx6, ezx6⟩ : ∃ y : Int32, y = x_2 + 1 := ⟨_, rfl⟩
              replace h := h zx6 ezx6
              refine lv_iinc (v := zx6) (lv' := [(2, .int zx6), (1, .int zx5), (0, .ref (zad w k))]) hx hb dX0_leastLeft_45 hl (k := 2) rfl (by rw [ezx6, zc_i1]) (Nat.le_of_ble_eq_true rfl) rfl (fun ls hl => ?_)
              refine lv_goto (tgt := 4) hx hb dX0_leastLeft_48 rfl ?_
              exact zJ zx5 zx6 M H locs ls hW (lv_sub hl [2, 1, 0] rfl) h
  unfold wp_Bench_leastLeft at h
  have zMain : ∀ (H : Heap) (locs : List Loc) (ls : Array Slot), zWo w s.heap M H locs → lv_has ls 3 [(0, .ref (zad w k))] → W p l e (zRm 0 0) s m ([.ref (zad w k)] : List Value).toArray below meth c H locs 0 0 (MQ below (va_Qi post (zB w) (zA w)) ([.ref (zad w k)] : List Value).toArray s 0 0 (zA w)) (F0 m 0 ls []) := by
    intro H locs ls hW hl
    refine lv_iconst hx hb dX0_leastLeft_0 zc_i0 ?_
    refine lv_istore_n (lv' := [(1, .int 0), (0, .ref (zad w k))]) hx hb dX0_leastLeft_1 rfl hl (Nat.le_of_ble_eq_true rfl) rfl (fun ls hl => ?_)
    refine lv_iconst hx hb dX0_leastLeft_2 zc_i0 ?_
    refine lv_istore_n (lv' := [(2, .int 0), (1, .int 0), (0, .ref (zad w k))]) hx hb dX0_leastLeft_3 rfl hl (Nat.le_of_ble_eq_true rfl) rfl (fun ls hl => ?_)
    obtain ⟨n, h⟩ := h
    refine zL_4   n 0 0 M H locs ls hW (lv_sub hl [2, 1, 0] rfl) h
  exact zMain s.heap [] ls hW hl
def wpB_Bench_letPass_12 (k : Nat) (a1 : Int32)   (Q : zMem → Prop) (J : Int32 → zMem → Prop) (x_2 : Int32) (M : zMem) : Prop :=
  ((M (ztc (M k 0)) 1) ≤ x_2 → Q M) ∧ (¬ (M (ztc (M k 0)) 1) ≤ x_2 → vp_in x_2 5 ∧ ((M (k + 2) (ix x_2)) ≤ 0 → vp_in x_2 5 ∧ vp_in x_2 5 ∧ ∀ zm2 : zMem, zm2 = zup M (k + 6) (ix x_2) ((M (k + 6) (ix x_2)) + a1) → vp_in x_2 5 ∧ (¬ (zm2 (k + 1) (ix x_2)) = 2 → ∀ zx3 : Int32, zx3 = x_2 + 1 → J zx3 zm2) ∧ ((zm2 (k + 1) (ix x_2)) = 2 → vp_in x_2 5 ∧ vp_in (zm2 (k + 3) (ix x_2)) 8 ∧ vp_in (zm2 (k + 3) (ix x_2)) 8 ∧ ∀ zm4 : zMem, zm4 = zup zm2 (k + 8) (ix (zm2 (k + 3) (ix x_2))) ((zm2 (k + 8) (ix (zm2 (k + 3) (ix x_2)))) + a1) → ∀ zx5 : Int32, zx5 = x_2 + 1 → J zx5 zm4)) ∧ (¬ (M (k + 2) (ix x_2)) ≤ 0 → vp_in x_2 5 ∧ vp_in x_2 5 ∧ ∀ zm6 : zMem, zm6 = zup M (k + 2) (ix x_2) ((M (k + 2) (ix x_2)) - a1) → vp_in x_2 5 ∧ (¬ (zm6 (k + 2) (ix x_2)) = 0 → ∀ zx7 : Int32, zx7 = x_2 + 1 → J zx7 zm6) ∧ ((zm6 (k + 2) (ix x_2)) = 0 → vp_in x_2 5 ∧ (¬ (zm6 (k + 1) (ix x_2)) = 1 → ∀ zx8 : Int32, zx8 = x_2 + 1 → J zx8 zm6) ∧ ((zm6 (k + 1) (ix x_2)) = 1 → vp_in x_2 5 ∧ ∀ zm9 : zMem, zm9 = zup zm6 (k + 1) (ix x_2) 0 → ∀ zx10 : Int32, zx10 = x_2 + 1 → J zx10 zm9))))
def wp_Bench_letPass (k : Nat) (a1 : Int32) (M : zMem) (Q : zMem → Prop) : Prop :=
  ∀ zm1 : zMem, zm1 = zup M k 2 ((M k 2) + a1) → ∃ n : Nat, zlp1 (wpB_Bench_letPass_12 k a1   Q) n 0 zm1
set_option maxHeartbeats 4000000 in
set_option maxRecDepth 20000 in
theorem c_Bench_letPass {l : Launch} {w : zWd} {k : Nat} {a1 : Int32} {M : zMem} {post : zMem → Prop} (h0 : zI_Bench w k) (h : wp_Bench_letPass k a1 M post) : zMv l ⟨"HandToHand$Bench", "letPass", "(I)V"⟩ prog_2_method_14_code 3 none 0 0 w [.ref (zad w k), .int a1] M post := by
  refine zMet (by decide) (Nat.le_of_ble_eq_true rfl) ?_
  intro p e s m below meth c X hr hlk hml hW ls hl
  have hx := X.1
  have hb := X.2.1
  have hl : lv_has ls 3 [(0, .ref (zad w k)), (1, .int a1)] := hl
  have zL_12 :  ∀ (n : Nat) (x_2 : Int32) (M : zMem) (H : Heap) (locs : List Loc) (ls : Array Slot), zWo w s.heap M H locs → lv_has ls 3 [(0, .ref (zad w k)), (1, .int a1), (2, .int x_2)] → zlp1 (wpB_Bench_letPass_12 k a1   post) n x_2 M → W p l e (zRm 0 0) s m ([.ref (zad w k), .int a1] : List Value).toArray below meth c H locs 0 0 (MQ below (va_Qv post (zB w) (zA w)) ([.ref (zad w k), .int a1] : List Value).toArray s 0 0 (zA w)) (F0 m 12 ls []) := by
    intro n
    induction n with
    | zero => intro x_2 M H locs ls hW hl h; exact h.elim
    | succ n zJ =>
      intro x_2 M H locs ls hW hl h
      have h : wpB_Bench_letPass_12 k a1   post (zlp1 (wpB_Bench_letPass_12 k a1   post) n) x_2 M := h
      unfold wpB_Bench_letPass_12 at h
      refine lv_iload_n hx hb dX0_letPass_12 rfl (lv_at hl 2 rfl) ?_
      refine lv_aload_n hx hb dX0_letPass_13 rfl (lv_at hl 0 rfl) ?_
      refine zg_Bench_told X hW h0 zu_160 dX0_letPass_14 ?_
      refine zg_Told_hands X hW (h0.2.2.2.2.2.2.2.2.2.1 _) zu_40 dX0_letPass_17 ?_
      refine lv_icmp_ge (tgt := 112) hx hb dX0_letPass_20 rfl (fun c => ?_) (fun c => ?_)
      · replace h := h.1 c
        exact zretv X hr hlk hW h dX0_letPass_112
      · replace h := h.2 c
        refine lv_aload_n hx hb dX0_letPass_23 rfl (lv_at hl 0 rfl) ?_
        refine zg_Bench_left X hW h0 zu_177 dX0_letPass_24 ?_
        refine lv_iload_n hx hb dX0_letPass_27 rfl (lv_at hl 2 rfl) ?_
        obtain ⟨g, h⟩ := h
        refine ziald X hW h0.2.2.1 g dX0_letPass_28 ?_
        refine lv_if_le (tgt := 71) hx hb dX0_letPass_29 rfl (fun c => ?_) (fun c => ?_)
        · replace h := h.1 c
          refine lv_aload_n hx hb dX0_letPass_71 rfl (lv_at hl 0 rfl) ?_
          refine zg_Bench_waited X hW h0 zu_185 dX0_letPass_72 ?_
          refine lv_iload_n hx hb dX0_letPass_75 rfl (lv_at hl 2 rfl) ?_
          refine lv_dup2_11 hx hb dX0_letPass_76 rfl rfl ?_
          obtain ⟨g, h⟩ := h
          refine ziald X hW h0.2.2.2.2.2.2.1 g dX0_letPass_77 ?_
          refine lv_iload_n hx hb dX0_letPass_78 rfl (lv_at hl 1 rfl) ?_
          refine lv_iadd hx hb dX0_letPass_79 ?_
          obtain ⟨g, h⟩ := h
          refine ziast X hW h0.2.2.2.2.2.2.1 g dX0_letPass_80 (fun H locs zm2 ezm2 hW => ?_)
          replace h := h zm2 ezm2
          refine lv_aload_n hx hb dX0_letPass_81 rfl (lv_at hl 0 rfl) ?_
          refine zg_Bench_doing X hW h0 zu_175 dX0_letPass_82 ?_
          refine lv_iload_n hx hb dX0_letPass_85 rfl (lv_at hl 2 rfl) ?_
          obtain ⟨g, h⟩ := h
          refine ziald X hW h0.2.1 g dX0_letPass_86 ?_
          refine lv_iconst hx hb dX0_letPass_87 zc_i2 ?_
          refine lv_icmp_ne (tgt := 106) hx hb dX0_letPass_88 rfl (fun c => ?_) (fun c => ?_)
          · replace h := h.1 c
            obtain ⟨zx3, ezx3⟩ : ∃ y : Int32, y = x_2 + 1 := ⟨_, rfl⟩
            replace h := h zx3 ezx3
            refine lv_iinc (v := zx3) (lv' := [(2, .int zx3), (0, .ref (zad w k)), (1, .int a1)]) hx hb dX0_letPass_106 hl (k := 2) rfl (by rw [ezx3, zc_i1]) (Nat.le_of_ble_eq_true rfl) rfl (fun ls hl => ?_)
            refine lv_goto (tgt := 12) hx hb dX0_letPass_109 rfl ?_
            exact zJ zx3 zm2 H locs ls hW (lv_sub hl [1, 2, 0] rfl) h
          · replace h := h.2 c
            refine lv_aload_n hx hb dX0_letPass_91 rfl (lv_at hl 0 rfl) ?_
            refine zg_Bench_stood X hW h0 zu_190 dX0_letPass_92 ?_
            refine lv_aload_n hx hb dX0_letPass_95 rfl (lv_at hl 0 rfl) ?_
            refine zg_Bench_piece X hW h0 zu_179 dX0_letPass_96 ?_
            refine lv_iload_n hx hb dX0_letPass_99 rfl (lv_at hl 2 rfl) ?_
            obtain ⟨g, h⟩ := h
            refine ziald X hW h0.2.2.2.1 g dX0_letPass_100 ?_
            refine lv_dup2_11 hx hb dX0_letPass_101 rfl rfl ?_
            obtain ⟨g, h⟩ := h
            refine ziald X hW h0.2.2.2.2.2.2.2.2.1 g dX0_letPass_102 ?_
            refine lv_iload_n hx hb dX0_letPass_103 rfl (lv_at hl 1 rfl) ?_
            refine lv_iadd hx hb dX0_letPass_104 ?_
            obtain ⟨g, h⟩ := h
            refine ziast X hW h0.2.2.2.2.2.2.2.2.1 g dX0_letPass_105 (fun H locs zm4 ezm4 hW => ?_)
            replace h := h zm4 ezm4
            obtain ⟨zx5, ezx5⟩ : ∃ y : Int32, y = x_2 + 1 := ⟨_, rfl⟩
            replace h := h zx5 ezx5
            refine lv_iinc (v := zx5) (lv' := [(2, .int zx5), (0, .ref (zad w k)), (1, .int a1)]) hx hb dX0_letPass_106 hl (k := 2) rfl (by rw [ezx5, zc_i1]) (Nat.le_of_ble_eq_true rfl) rfl (fun ls hl => ?_)
            refine lv_goto (tgt := 12) hx hb dX0_letPass_109 rfl ?_
            exact zJ zx5 zm4 H locs ls hW (lv_sub hl [1, 2, 0] rfl) h
        · replace h := h.2 c
          refine lv_aload_n hx hb dX0_letPass_32 rfl (lv_at hl 0 rfl) ?_
          refine zg_Bench_left X hW h0 zu_177 dX0_letPass_33 ?_
          refine lv_iload_n hx hb dX0_letPass_36 rfl (lv_at hl 2 rfl) ?_
          refine lv_dup2_11 hx hb dX0_letPass_37 rfl rfl ?_
          obtain ⟨g, h⟩ := h
          refine ziald X hW h0.2.2.1 g dX0_letPass_38 ?_
          refine lv_iload_n hx hb dX0_letPass_39 rfl (lv_at hl 1 rfl) ?_
          refine lv_isub hx hb dX0_letPass_40 ?_
          obtain ⟨g, h⟩ := h
          refine ziast X hW h0.2.2.1 g dX0_letPass_41 (fun H locs zm6 ezm6 hW => ?_)
          replace h := h zm6 ezm6
          refine lv_aload_n hx hb dX0_letPass_42 rfl (lv_at hl 0 rfl) ?_
          refine zg_Bench_left X hW h0 zu_177 dX0_letPass_43 ?_
          refine lv_iload_n hx hb dX0_letPass_46 rfl (lv_at hl 2 rfl) ?_
          obtain ⟨g, h⟩ := h
          refine ziald X hW h0.2.2.1 g dX0_letPass_47 ?_
          refine lv_if_ne (tgt := 106) hx hb dX0_letPass_48 rfl (fun c => ?_) (fun c => ?_)
          · replace h := h.1 c
            obtain ⟨zx7, ezx7⟩ : ∃ y : Int32, y = x_2 + 1 := ⟨_, rfl⟩
            replace h := h zx7 ezx7
            refine lv_iinc (v := zx7) (lv' := [(2, .int zx7), (0, .ref (zad w k)), (1, .int a1)]) hx hb dX0_letPass_106 hl (k := 2) rfl (by rw [ezx7, zc_i1]) (Nat.le_of_ble_eq_true rfl) rfl (fun ls hl => ?_)
            refine lv_goto (tgt := 12) hx hb dX0_letPass_109 rfl ?_
            exact zJ zx7 zm6 H locs ls hW (lv_sub hl [1, 2, 0] rfl) h
          · replace h := h.2 c
            refine lv_aload_n hx hb dX0_letPass_51 rfl (lv_at hl 0 rfl) ?_
            refine zg_Bench_doing X hW h0 zu_175 dX0_letPass_52 ?_
            refine lv_iload_n hx hb dX0_letPass_55 rfl (lv_at hl 2 rfl) ?_
            obtain ⟨g, h⟩ := h
            refine ziald X hW h0.2.1 g dX0_letPass_56 ?_
            refine lv_iconst hx hb dX0_letPass_57 zc_i1 ?_
            refine lv_icmp_ne (tgt := 106) hx hb dX0_letPass_58 rfl (fun c => ?_) (fun c => ?_)
            · replace h := h.1 c
              obtain ⟨zx8, ezx8⟩ : ∃ y : Int32, y = x_2 + 1 := ⟨_, rfl⟩
              replace h := h zx8 ezx8
              refine lv_iinc (v := zx8) (lv' := [(2, .int zx8), (0, .ref (zad w k)), (1, .int a1)]) hx hb dX0_letPass_106 hl (k := 2) rfl (by rw [ezx8, zc_i1]) (Nat.le_of_ble_eq_true rfl) rfl (fun ls hl => ?_)
              refine lv_goto (tgt := 12) hx hb dX0_letPass_109 rfl ?_
              exact zJ zx8 zm6 H locs ls hW (lv_sub hl [1, 2, 0] rfl) h
            · replace h := h.2 c
              refine lv_aload_n hx hb dX0_letPass_61 rfl (lv_at hl 0 rfl) ?_
              refine zg_Bench_doing X hW h0 zu_175 dX0_letPass_62 ?_
              refine lv_iload_n hx hb dX0_letPass_65 rfl (lv_at hl 2 rfl) ?_
              refine lv_iconst hx hb dX0_letPass_66 zc_i0 ?_
              obtain ⟨g, h⟩ := h
              refine ziast X hW h0.2.1 g dX0_letPass_67 (fun H locs zm9 ezm9 hW => ?_)
              replace h := h zm9 ezm9
              refine lv_goto (tgt := 106) hx hb dX0_letPass_68 rfl ?_
              obtain ⟨zx10, ezx10⟩ : ∃ y : Int32, y = x_2 + 1 := ⟨_, rfl⟩
              replace h := h zx10 ezx10
              refine lv_iinc (v := zx10) (lv' := [(2, .int zx10), (0, .ref (zad w k)), (1, .int a1)]) hx hb dX0_letPass_106 hl (k := 2) rfl (by rw [ezx10, zc_i1]) (Nat.le_of_ble_eq_true rfl) rfl (fun ls hl => ?_)
              refine lv_goto (tgt := 12) hx hb dX0_letPass_109 rfl ?_
              exact zJ zx10 zm9 H locs ls hW (lv_sub hl [1, 2, 0] rfl) h
  unfold wp_Bench_letPass at h
  have zMain : ∀ (H : Heap) (locs : List Loc) (ls : Array Slot), zWo w s.heap M H locs → lv_has ls 3 [(0, .ref (zad w k)), (1, .int a1)] → W p l e (zRm 0 0) s m ([.ref (zad w k), .int a1] : List Value).toArray below meth c H locs 0 0 (MQ below (va_Qv post (zB w) (zA w)) ([.ref (zad w k), .int a1] : List Value).toArray s 0 0 (zA w)) (F0 m 0 ls []) := by
    intro H locs ls hW hl
    refine lv_aload_n hx hb dX0_letPass_0 rfl (lv_at hl 0 rfl) ?_
    refine lv_dup hx hb dX0_letPass_1 rfl ?_
    refine zg_Bench_tick X hW h0 zu_163 dX0_letPass_2 ?_
    refine lv_iload_n hx hb dX0_letPass_5 rfl (lv_at hl 1 rfl) ?_
    refine lv_iadd hx hb dX0_letPass_6 ?_
    refine zp_Bench_tick X hW h0 zu_163 dX0_letPass_7 (fun H locs zm1 ezm1 hW => ?_)
    replace h := h zm1 ezm1
    refine lv_iconst hx hb dX0_letPass_10 zc_i0 ?_
    refine lv_istore_n (lv' := [(2, .int 0), (0, .ref (zad w k)), (1, .int a1)]) hx hb dX0_letPass_11 rfl hl (Nat.le_of_ble_eq_true rfl) rfl (fun ls hl => ?_)
    obtain ⟨n, h⟩ := h
    refine zL_12   n 0 zm1 H locs ls hW (lv_sub hl [1, 2, 0] rfl) h
  exact zMain s.heap [] ls hW hl
def wpJ_Bench_inOneNumber_41 (k : Nat) (a1 : Int32)  (Q : Int32 → zMem → Prop)  (s_0 : Int32) (M : zMem) : Prop :=
  vp_in a1 5 ∧ vp_in a1 5 ∧ Q ((((s_0 * 100) + (M (k + 2) (ix a1))) * 10) + (M (k + 1) (ix a1))) M
def wp_Bench_inOneNumber (k : Nat) (a1 : Int32) (M : zMem) (Q : Int32 → zMem → Prop) : Prop :=
  vp_in a1 5 ∧ (0 ≤ (M (k + 3) (ix a1)) → vp_in a1 5 ∧ vp_in a1 5 ∧ vp_in a1 5 ∧ wpJ_Bench_inOneNumber_41 k a1 Q (((((M (k + 3) (ix a1)) + 1) * 100) + ((M (k + 4) (ix a1)) * 10)) + (M (k + 5) (ix a1))) M) ∧ (¬ 0 ≤ (M (k + 3) (ix a1)) → wpJ_Bench_inOneNumber_41 k a1 Q 0 M)
set_option maxHeartbeats 4000000 in
set_option maxRecDepth 20000 in
theorem c_Bench_inOneNumber {l : Launch} {w : zWd} {k : Nat} {a1 : Int32} {M : zMem} {post : Int32 → zMem → Prop} (h0 : zI_Bench w k) (h : wp_Bench_inOneNumber k a1 M post) : zMi l ⟨"HandToHand$Bench", "inOneNumber", "(I)I"⟩ prog_2_method_15_code 3 (Option.some .int) 0 0 w [.ref (zad w k), .int a1] M post := by
  refine zMet (by decide) (Nat.le_of_ble_eq_true rfl) ?_
  intro p e s m below meth c X hr hlk hml hW ls hl
  have hx := X.1
  have hb := X.2.1
  have hl : lv_has ls 3 [(0, .ref (zad w k)), (1, .int a1)] := hl
  have zJ_41 : ∀ (s_0 : Int32) (M : zMem) (H : Heap) (locs : List Loc) (ls : Array Slot), zWo w s.heap M H locs → lv_has ls 3 [(0, .ref (zad w k)), (1, .int a1)] → wpJ_Bench_inOneNumber_41 k a1 post s_0 M → W p l e (zRm 0 0) s m ([.ref (zad w k), .int a1] : List Value).toArray below meth c H locs 0 0 (MQ below (va_Qi post (zB w) (zA w)) ([.ref (zad w k), .int a1] : List Value).toArray s 0 0 (zA w)) (F0 m 41 ls [.int s_0]) := by
    intro s_0 M H locs ls hW hl h
    unfold wpJ_Bench_inOneNumber_41 at h
    refine lv_istore_n (lv' := [(2, .int s_0), (0, .ref (zad w k)), (1, .int a1)]) hx hb dX0_inOneNumber_41 rfl hl (Nat.le_of_ble_eq_true rfl) rfl (fun ls hl => ?_)
    refine lv_iload_n hx hb dX0_inOneNumber_42 rfl (lv_at hl 0 rfl) ?_
    refine lv_bipush hx hb dX0_inOneNumber_43 zc_b100 ?_
    refine lv_imul hx hb dX0_inOneNumber_45 ?_
    refine lv_aload_n hx hb dX0_inOneNumber_46 rfl (lv_at hl 1 rfl) ?_
    refine zg_Bench_left X hW h0 zu_177 dX0_inOneNumber_47 ?_
    refine lv_iload_n hx hb dX0_inOneNumber_50 rfl (lv_at hl 2 rfl) ?_
    obtain ⟨g, h⟩ := h
    refine ziald X hW h0.2.2.1 g dX0_inOneNumber_51 ?_
    refine lv_iadd hx hb dX0_inOneNumber_52 ?_
    refine lv_bipush hx hb dX0_inOneNumber_53 zc_b10 ?_
    refine lv_imul hx hb dX0_inOneNumber_55 ?_
    refine lv_aload_n hx hb dX0_inOneNumber_56 rfl (lv_at hl 1 rfl) ?_
    refine zg_Bench_doing X hW h0 zu_175 dX0_inOneNumber_57 ?_
    refine lv_iload_n hx hb dX0_inOneNumber_60 rfl (lv_at hl 2 rfl) ?_
    obtain ⟨g, h⟩ := h
    refine ziald X hW h0.2.1 g dX0_inOneNumber_61 ?_
    refine lv_iadd hx hb dX0_inOneNumber_62 ?_
    exact zreti X hr hlk hW h dX0_inOneNumber_63
  unfold wp_Bench_inOneNumber at h
  have zMain : ∀ (H : Heap) (locs : List Loc) (ls : Array Slot), zWo w s.heap M H locs → lv_has ls 3 [(0, .ref (zad w k)), (1, .int a1)] → W p l e (zRm 0 0) s m ([.ref (zad w k), .int a1] : List Value).toArray below meth c H locs 0 0 (MQ below (va_Qi post (zB w) (zA w)) ([.ref (zad w k), .int a1] : List Value).toArray s 0 0 (zA w)) (F0 m 0 ls []) := by
    intro H locs ls hW hl
    refine lv_aload_n hx hb dX0_inOneNumber_0 rfl (lv_at hl 0 rfl) ?_
    refine zg_Bench_piece X hW h0 zu_179 dX0_inOneNumber_1 ?_
    refine lv_iload_n hx hb dX0_inOneNumber_4 rfl (lv_at hl 1 rfl) ?_
    obtain ⟨g, h⟩ := h
    refine ziald X hW h0.2.2.2.1 g dX0_inOneNumber_5 ?_
    refine lv_if_ge (tgt := 13) hx hb dX0_inOneNumber_6 rfl (fun c => ?_) (fun c => ?_)
    · replace h := h.1 c
      refine lv_aload_n hx hb dX0_inOneNumber_13 rfl (lv_at hl 0 rfl) ?_
      refine zg_Bench_piece X hW h0 zu_179 dX0_inOneNumber_14 ?_
      refine lv_iload_n hx hb dX0_inOneNumber_17 rfl (lv_at hl 1 rfl) ?_
      obtain ⟨g, h⟩ := h
      refine ziald X hW h0.2.2.2.1 g dX0_inOneNumber_18 ?_
      refine lv_iconst hx hb dX0_inOneNumber_19 zc_i1 ?_
      refine lv_iadd hx hb dX0_inOneNumber_20 ?_
      refine lv_bipush hx hb dX0_inOneNumber_21 zc_b100 ?_
      refine lv_imul hx hb dX0_inOneNumber_23 ?_
      refine lv_aload_n hx hb dX0_inOneNumber_24 rfl (lv_at hl 0 rfl) ?_
      refine zg_Bench_unit X hW h0 zu_181 dX0_inOneNumber_25 ?_
      refine lv_iload_n hx hb dX0_inOneNumber_28 rfl (lv_at hl 1 rfl) ?_
      obtain ⟨g, h⟩ := h
      refine ziald X hW h0.2.2.2.2.1 g dX0_inOneNumber_29 ?_
      refine lv_bipush hx hb dX0_inOneNumber_30 zc_b10 ?_
      refine lv_imul hx hb dX0_inOneNumber_32 ?_
      refine lv_iadd hx hb dX0_inOneNumber_33 ?_
      refine lv_aload_n hx hb dX0_inOneNumber_34 rfl (lv_at hl 0 rfl) ?_
      refine zg_Bench_sort X hW h0 zu_183 dX0_inOneNumber_35 ?_
      refine lv_iload_n hx hb dX0_inOneNumber_38 rfl (lv_at hl 1 rfl) ?_
      obtain ⟨g, h⟩ := h
      refine ziald X hW h0.2.2.2.2.2.1 g dX0_inOneNumber_39 ?_
      refine lv_iadd hx hb dX0_inOneNumber_40 ?_
      exact zJ_41 (((((M (k + 3) (ix a1)) + 1) * 100) + ((M (k + 4) (ix a1)) * 10)) + (M (k + 5) (ix a1))) M H locs ls hW (lv_sub hl [0, 1] rfl) h
    · replace h := h.2 c
      refine lv_iconst hx hb dX0_inOneNumber_9 zc_i0 ?_
      refine lv_goto (tgt := 41) hx hb dX0_inOneNumber_10 rfl ?_
      exact zJ_41 0 M H locs ls hW (lv_sub hl [0, 1] rfl) h
  exact zMain s.heap [] ls hW hl
def wpB_Bench_coatsInHand_4 (k : Nat)   (Q : Int32 → zMem → Prop) (J : Int32 → Int32 → zMem → Prop) (x_1 : Int32) (x_2 : Int32) (M : zMem) : Prop :=
  ((M (ztc (M k 0)) 1) ≤ x_2 → Q x_1 M) ∧ (¬ (M (ztc (M k 0)) 1) ≤ x_2 → vp_in x_2 5 ∧ ((M (k + 3) (ix x_2)) < 0 → ∀ zx1 : Int32, zx1 = x_1 + 0 → ∀ zx2 : Int32, zx2 = x_2 + 1 → J zx1 zx2 M) ∧ (¬ (M (k + 3) (ix x_2)) < 0 → ∀ zx3 : Int32, zx3 = x_1 + 1 → ∀ zx4 : Int32, zx4 = x_2 + 1 → J zx3 zx4 M))
def wp_Bench_coatsInHand (k : Nat) (M : zMem) (Q : Int32 → zMem → Prop) : Prop :=
  ∃ n : Nat, zlp2 (wpB_Bench_coatsInHand_4 k   Q) n 0 0 M
set_option maxHeartbeats 4000000 in
set_option maxRecDepth 20000 in
theorem c_Bench_coatsInHand {l : Launch} {w : zWd} {k : Nat} {M : zMem} {post : Int32 → zMem → Prop} (h0 : zI_Bench w k) (h : wp_Bench_coatsInHand k M post) : zMi l ⟨"HandToHand$Bench", "coatsInHand", "()I"⟩ prog_2_method_16_code 3 (Option.some .int) 0 0 w [.ref (zad w k)] M post := by
  refine zMet (by decide) (Nat.le_of_ble_eq_true rfl) ?_
  intro p e s m below meth c X hr hlk hml hW ls hl
  have hx := X.1
  have hb := X.2.1
  have hl : lv_has ls 3 [(0, .ref (zad w k))] := hl
  have zL_4 :  ∀ (n : Nat) (x_1 : Int32) (x_2 : Int32) (M : zMem) (H : Heap) (locs : List Loc) (ls : Array Slot), zWo w s.heap M H locs → lv_has ls 3 [(0, .ref (zad w k)), (1, .int x_1), (2, .int x_2)] → zlp2 (wpB_Bench_coatsInHand_4 k   post) n x_1 x_2 M → W p l e (zRm 0 0) s m ([.ref (zad w k)] : List Value).toArray below meth c H locs 0 0 (MQ below (va_Qi post (zB w) (zA w)) ([.ref (zad w k)] : List Value).toArray s 0 0 (zA w)) (F0 m 4 ls []) := by
    intro n
    induction n with
    | zero => intro x_1 x_2 M H locs ls hW hl h; exact h.elim
    | succ n zJ =>
      intro x_1 x_2 M H locs ls hW hl h
      have h : wpB_Bench_coatsInHand_4 k   post (zlp2 (wpB_Bench_coatsInHand_4 k   post) n) x_1 x_2 M := h
      unfold wpB_Bench_coatsInHand_4 at h
      refine lv_iload_n hx hb dX0_coatsInHand_4 rfl (lv_at hl 2 rfl) ?_
      refine lv_aload_n hx hb dX0_coatsInHand_5 rfl (lv_at hl 0 rfl) ?_
      refine zg_Bench_told X hW h0 zu_160 dX0_coatsInHand_6 ?_
      refine zg_Told_hands X hW (h0.2.2.2.2.2.2.2.2.2.1 _) zu_40 dX0_coatsInHand_9 ?_
      refine lv_icmp_ge (tgt := 38) hx hb dX0_coatsInHand_12 rfl (fun c => ?_) (fun c => ?_)
      · replace h := h.1 c
        refine lv_iload_n hx hb dX0_coatsInHand_38 rfl (lv_at hl 1 rfl) ?_
        exact zreti X hr hlk hW h dX0_coatsInHand_39
      · replace h := h.2 c
        refine lv_iload_n hx hb dX0_coatsInHand_15 rfl (lv_at hl 1 rfl) ?_
        refine lv_aload_n hx hb dX0_coatsInHand_16 rfl (lv_at hl 0 rfl) ?_
        refine zg_Bench_piece X hW h0 zu_179 dX0_coatsInHand_17 ?_
        refine lv_iload_n hx hb dX0_coatsInHand_20 rfl (lv_at hl 2 rfl) ?_
        obtain ⟨g, h⟩ := h
        refine ziald X hW h0.2.2.2.1 g dX0_coatsInHand_21 ?_
        refine lv_if_lt (tgt := 29) hx hb dX0_coatsInHand_22 rfl (fun c => ?_) (fun c => ?_)
        · replace h := h.1 c
          refine lv_iconst hx hb dX0_coatsInHand_29 zc_i0 ?_
          refine lv_iadd hx hb dX0_coatsInHand_30 ?_
          refine lv_topi (fun zx1 ezx1 => ?_)
          replace h := h zx1 ezx1
          refine lv_istore_n (lv' := [(1, .int zx1), (0, .ref (zad w k)), (2, .int x_2)]) hx hb dX0_coatsInHand_31 rfl hl (Nat.le_of_ble_eq_true rfl) rfl (fun ls hl => ?_)
          obtain ⟨zx2, ezx2⟩ : ∃ y : Int32, y = x_2 + 1 := ⟨_, rfl⟩
          replace h := h zx2 ezx2
          refine lv_iinc (v := zx2) (lv' := [(2, .int zx2), (1, .int zx1), (0, .ref (zad w k))]) hx hb dX0_coatsInHand_32 hl (k := 2) rfl (by rw [ezx2, zc_i1]) (Nat.le_of_ble_eq_true rfl) rfl (fun ls hl => ?_)
          refine lv_goto (tgt := 4) hx hb dX0_coatsInHand_35 rfl ?_
          exact zJ zx1 zx2 M H locs ls hW (lv_sub hl [2, 1, 0] rfl) h
        · replace h := h.2 c
          refine lv_iconst hx hb dX0_coatsInHand_25 zc_i1 ?_
          refine lv_goto (tgt := 30) hx hb dX0_coatsInHand_26 rfl ?_
          refine lv_iadd hx hb dX0_coatsInHand_30 ?_
          refine lv_topi (fun zx3 ezx3 => ?_)
          replace h := h zx3 ezx3
          refine lv_istore_n (lv' := [(1, .int zx3), (0, .ref (zad w k)), (2, .int x_2)]) hx hb dX0_coatsInHand_31 rfl hl (Nat.le_of_ble_eq_true rfl) rfl (fun ls hl => ?_)
          obtain ⟨zx4, ezx4⟩ : ∃ y : Int32, y = x_2 + 1 := ⟨_, rfl⟩
          replace h := h zx4 ezx4
          refine lv_iinc (v := zx4) (lv' := [(2, .int zx4), (1, .int zx3), (0, .ref (zad w k))]) hx hb dX0_coatsInHand_32 hl (k := 2) rfl (by rw [ezx4, zc_i1]) (Nat.le_of_ble_eq_true rfl) rfl (fun ls hl => ?_)
          refine lv_goto (tgt := 4) hx hb dX0_coatsInHand_35 rfl ?_
          exact zJ zx3 zx4 M H locs ls hW (lv_sub hl [2, 1, 0] rfl) h
  unfold wp_Bench_coatsInHand at h
  have zMain : ∀ (H : Heap) (locs : List Loc) (ls : Array Slot), zWo w s.heap M H locs → lv_has ls 3 [(0, .ref (zad w k))] → W p l e (zRm 0 0) s m ([.ref (zad w k)] : List Value).toArray below meth c H locs 0 0 (MQ below (va_Qi post (zB w) (zA w)) ([.ref (zad w k)] : List Value).toArray s 0 0 (zA w)) (F0 m 0 ls []) := by
    intro H locs ls hW hl
    refine lv_iconst hx hb dX0_coatsInHand_0 zc_i0 ?_
    refine lv_istore_n (lv' := [(1, .int 0), (0, .ref (zad w k))]) hx hb dX0_coatsInHand_1 rfl hl (Nat.le_of_ble_eq_true rfl) rfl (fun ls hl => ?_)
    refine lv_iconst hx hb dX0_coatsInHand_2 zc_i0 ?_
    refine lv_istore_n (lv' := [(2, .int 0), (1, .int 0), (0, .ref (zad w k))]) hx hb dX0_coatsInHand_3 rfl hl (Nat.le_of_ble_eq_true rfl) rfl (fun ls hl => ?_)
    obtain ⟨n, h⟩ := h
    refine zL_4   n 0 0 M H locs ls hW (lv_sub hl [2, 1, 0] rfl) h
  exact zMain s.heap [] ls hW hl
def wpB_Bench_waitedByAll_4 (k : Nat)   (Q : Int32 → zMem → Prop) (J : Int32 → Int32 → zMem → Prop) (x_1 : Int32) (x_2 : Int32) (M : zMem) : Prop :=
  ((M (ztc (M k 0)) 1) ≤ x_2 → Q x_1 M) ∧ (¬ (M (ztc (M k 0)) 1) ≤ x_2 → vp_in x_2 5 ∧ ∀ zx1 : Int32, zx1 = x_1 + (M (k + 6) (ix x_2)) → ∀ zx2 : Int32, zx2 = x_2 + 1 → J zx1 zx2 M)
def wp_Bench_waitedByAll (k : Nat) (M : zMem) (Q : Int32 → zMem → Prop) : Prop :=
  ∃ n : Nat, zlp2 (wpB_Bench_waitedByAll_4 k   Q) n 0 0 M
set_option maxHeartbeats 4000000 in
set_option maxRecDepth 20000 in
theorem c_Bench_waitedByAll {l : Launch} {w : zWd} {k : Nat} {M : zMem} {post : Int32 → zMem → Prop} (h0 : zI_Bench w k) (h : wp_Bench_waitedByAll k M post) : zMi l ⟨"HandToHand$Bench", "waitedByAll", "()I"⟩ prog_2_method_17_code 3 (Option.some .int) 0 0 w [.ref (zad w k)] M post := by
  refine zMet (by decide) (Nat.le_of_ble_eq_true rfl) ?_
  intro p e s m below meth c X hr hlk hml hW ls hl
  have hx := X.1
  have hb := X.2.1
  have hl : lv_has ls 3 [(0, .ref (zad w k))] := hl
  have zL_4 :  ∀ (n : Nat) (x_1 : Int32) (x_2 : Int32) (M : zMem) (H : Heap) (locs : List Loc) (ls : Array Slot), zWo w s.heap M H locs → lv_has ls 3 [(0, .ref (zad w k)), (1, .int x_1), (2, .int x_2)] → zlp2 (wpB_Bench_waitedByAll_4 k   post) n x_1 x_2 M → W p l e (zRm 0 0) s m ([.ref (zad w k)] : List Value).toArray below meth c H locs 0 0 (MQ below (va_Qi post (zB w) (zA w)) ([.ref (zad w k)] : List Value).toArray s 0 0 (zA w)) (F0 m 4 ls []) := by
    intro n
    induction n with
    | zero => intro x_1 x_2 M H locs ls hW hl h; exact h.elim
    | succ n zJ =>
      intro x_1 x_2 M H locs ls hW hl h
      have h : wpB_Bench_waitedByAll_4 k   post (zlp2 (wpB_Bench_waitedByAll_4 k   post) n) x_1 x_2 M := h
      unfold wpB_Bench_waitedByAll_4 at h
      refine lv_iload_n hx hb dX0_waitedByAll_4 rfl (lv_at hl 2 rfl) ?_
      refine lv_aload_n hx hb dX0_waitedByAll_5 rfl (lv_at hl 0 rfl) ?_
      refine zg_Bench_told X hW h0 zu_160 dX0_waitedByAll_6 ?_
      refine zg_Told_hands X hW (h0.2.2.2.2.2.2.2.2.2.1 _) zu_40 dX0_waitedByAll_9 ?_
      refine lv_icmp_ge (tgt := 30) hx hb dX0_waitedByAll_12 rfl (fun c => ?_) (fun c => ?_)
      · replace h := h.1 c
        refine lv_iload_n hx hb dX0_waitedByAll_30 rfl (lv_at hl 1 rfl) ?_
        exact zreti X hr hlk hW h dX0_waitedByAll_31
      · replace h := h.2 c
        refine lv_iload_n hx hb dX0_waitedByAll_15 rfl (lv_at hl 1 rfl) ?_
        refine lv_aload_n hx hb dX0_waitedByAll_16 rfl (lv_at hl 0 rfl) ?_
        refine zg_Bench_waited X hW h0 zu_185 dX0_waitedByAll_17 ?_
        refine lv_iload_n hx hb dX0_waitedByAll_20 rfl (lv_at hl 2 rfl) ?_
        obtain ⟨g, h⟩ := h
        refine ziald X hW h0.2.2.2.2.2.2.1 g dX0_waitedByAll_21 ?_
        refine lv_iadd hx hb dX0_waitedByAll_22 ?_
        refine lv_topi (fun zx1 ezx1 => ?_)
        replace h := h zx1 ezx1
        refine lv_istore_n (lv' := [(1, .int zx1), (0, .ref (zad w k)), (2, .int x_2)]) hx hb dX0_waitedByAll_23 rfl hl (Nat.le_of_ble_eq_true rfl) rfl (fun ls hl => ?_)
        obtain ⟨zx2, ezx2⟩ : ∃ y : Int32, y = x_2 + 1 := ⟨_, rfl⟩
        replace h := h zx2 ezx2
        refine lv_iinc (v := zx2) (lv' := [(2, .int zx2), (1, .int zx1), (0, .ref (zad w k))]) hx hb dX0_waitedByAll_24 hl (k := 2) rfl (by rw [ezx2, zc_i1]) (Nat.le_of_ble_eq_true rfl) rfl (fun ls hl => ?_)
        refine lv_goto (tgt := 4) hx hb dX0_waitedByAll_27 rfl ?_
        exact zJ zx1 zx2 M H locs ls hW (lv_sub hl [2, 1, 0] rfl) h
  unfold wp_Bench_waitedByAll at h
  have zMain : ∀ (H : Heap) (locs : List Loc) (ls : Array Slot), zWo w s.heap M H locs → lv_has ls 3 [(0, .ref (zad w k))] → W p l e (zRm 0 0) s m ([.ref (zad w k)] : List Value).toArray below meth c H locs 0 0 (MQ below (va_Qi post (zB w) (zA w)) ([.ref (zad w k)] : List Value).toArray s 0 0 (zA w)) (F0 m 0 ls []) := by
    intro H locs ls hW hl
    refine lv_iconst hx hb dX0_waitedByAll_0 zc_i0 ?_
    refine lv_istore_n (lv' := [(1, .int 0), (0, .ref (zad w k))]) hx hb dX0_waitedByAll_1 rfl hl (Nat.le_of_ble_eq_true rfl) rfl (fun ls hl => ?_)
    refine lv_iconst hx hb dX0_waitedByAll_2 zc_i0 ?_
    refine lv_istore_n (lv' := [(2, .int 0), (1, .int 0), (0, .ref (zad w k))]) hx hb dX0_waitedByAll_3 rfl hl (Nat.le_of_ble_eq_true rfl) rfl (fun ls hl => ?_)
    obtain ⟨n, h⟩ := h
    refine zL_4   n 0 0 M H locs ls hW (lv_sub hl [2, 1, 0] rfl) h
  exact zMain s.heap [] ls hW hl
