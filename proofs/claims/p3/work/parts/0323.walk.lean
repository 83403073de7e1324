def wpB_Model_earlier_2    (Q : Int32 → zMem → Prop) (J : Int32 → zMem → Prop) (x_1 : Int32) (M : zMem) : Prop :=
  (((M 0 28) - 1) ≤ x_1 → Q ((-4)) M) ∧ (¬ ((M 0 28) - 1) ≤ x_1 → wp_Model_areSame x_1 ((M 0 28) - 1) M (fun zr2 zm1 => (zr2 = 0 → ∀ zx3 : Int32, zx3 = x_1 + 1 → J zx3 zm1) ∧ (¬ zr2 = 0 → Q x_1 zm1)))
def wp_Model_earlier  (M : zMem) (Q : Int32 → zMem → Prop) : Prop :=
  ∃ n : Nat, zlp1 (wpB_Model_earlier_2    Q) n 0 M
set_option maxHeartbeats 4000000 in
set_option maxRecDepth 20000 in
theorem c_Model_earlier {l : Launch} {w : zWd} {M : zMem} {post : Int32 → zMem → Prop} (h0 : zI_Model w) (h : wp_Model_earlier  M post) : zMi l ⟨"HandToHandModel", "earlier", "()I"⟩ prog_13_method_61_code 2 (Option.some .int) 1 24 w [.ref (zad w 0)] M post := by
  refine zMet (by decide) (Nat.le_of_ble_eq_true rfl) ?_
  intro p e s m below meth c X hr hlk hml hW ls hl
  have hx := X.1
  have hb := X.2.1
  have hl : lv_has ls 2 [(0, .ref (zad w 0))] := hl
  have zL_2 :  ∀ (n : Nat) (x_1 : Int32) (M : zMem) (H : Heap) (locs : List Loc) (ls : Array Slot), zWo w s.heap M H locs → lv_has ls 2 [(0, .ref (zad w 0)), (1, .int x_1)] → zlp1 (wpB_Model_earlier_2    post) n x_1 M → W p l e (zRm 1 24) s m ([.ref (zad w 0)] : List Value).toArray below meth c H locs 0 0 (MQ below (va_Qi post (zB w) (zA w)) ([.ref (zad w 0)] : List Value).toArray s 0 0 (zA w)) (F0 m 2 ls []) := by
    intro n
    induction n with
    | zero => intro x_1 M H locs ls hW hl h; exact h.elim
    | succ n zJ =>
      intro x_1 M H locs ls hW hl h
      have h : wpB_Model_earlier_2    post (zlp1 (wpB_Model_earlier_2    post) n) x_1 M := h
      unfold wpB_Model_earlier_2 at h
      refine lv_iload_n hx hb dX11_earlier_2 rfl (lv_at hl 1 rfl) ?_
      refine lv_aload_n hx hb dX11_earlier_3 rfl (lv_at hl 0 rfl) ?_
      refine zg_Model_seenMany X hW h0 zu_1048 dX11_earlier_4 ?_
      refine lv_iconst hx hb dX11_earlier_7 zc_i1 ?_
      refine lv_isub hx hb dX11_earlier_8 ?_
      refine lv_icmp_ge (tgt := 34) hx hb dX11_earlier_9 rfl (fun c => ?_) (fun c => ?_)
      · replace h := h.1 c
        refine lv_bipush hx hb dX11_earlier_34 zc_bm4 ?_
        exact zreti X hr hlk hW h dX11_earlier_36
      · replace h := h.2 c
        refine lv_aload_n hx hb dX11_earlier_12 rfl (lv_at hl 0 rfl) ?_
        refine lv_iload_n hx hb dX11_earlier_13 rfl (lv_at hl 1 rfl) ?_
        refine lv_aload_n hx hb dX11_earlier_14 rfl (lv_at hl 0 rfl) ?_
        refine zg_Model_seenMany X hW h0 zu_1048 dX11_earlier_15 ?_
        refine lv_iconst hx hb dX11_earlier_18 zc_i1 ?_
        refine lv_isub hx hb dX11_earlier_19 ?_
        refine zcalli (zrunV (As := [.int x_1, .int ((M 0 28) - 1)]) (rest := []) X hml hl hW h0.1 rfl zk_Model_262 (c_Model_areSame h0 h) rfl ⟨Nat.le_of_ble_eq_true rfl, Nat.le_of_ble_eq_true rfl⟩ ⟨Nat.le_refl 0, Nat.le_refl 0⟩ rfl (Nat.le_of_ble_eq_true rfl) dX11_earlier_20) hW (fun zr2 zm1 H locs h hW => ?_)
        refine lv_if_eq (tgt := 28) hx hb dX11_earlier_23 rfl (fun c => ?_) (fun c => ?_)
        · replace h := h.1 c
          obtain ⟨zx3, ezx3⟩ : ∃ y : Int32, y = x_1 + 1 := ⟨_, rfl⟩
          replace h := h zx3 ezx3
          refine lv_iinc (v := zx3) (lv' := [(1, .int zx3), (0, .ref (zad w 0))]) hx hb dX11_earlier_28 hl (k := 1) rfl (by rw [ezx3, zc_i1]) (Nat.le_of_ble_eq_true rfl) rfl (fun ls hl => ?_)
          refine lv_goto (tgt := 2) hx hb dX11_earlier_31 rfl ?_
          exact zJ zx3 zm1 H locs ls hW (lv_sub hl [1, 0] rfl) h
        · replace h := h.2 c
          refine lv_iload_n hx hb dX11_earlier_26 rfl (lv_at hl 1 rfl) ?_
          exact zreti X hr hlk hW h dX11_earlier_27
  unfold wp_Model_earlier at h
  have zMain : ∀ (H : Heap) (locs : List Loc) (ls : Array Slot), zWo w s.heap M H locs → lv_has ls 2 [(0, .ref (zad w 0))] → W p l e (zRm 1 24) s m ([.ref (zad w 0)] : List Value).toArray below meth c H locs 0 0 (MQ below (va_Qi post (zB w) (zA w)) ([.ref (zad w 0)] : List Value).toArray s 0 0 (zA w)) (F0 m 0 ls []) := by
    intro H locs ls hW hl
    refine lv_iconst hx hb dX11_earlier_0 zc_i0 ?_
    refine lv_istore_n (lv' := [(1, .int 0), (0, .ref (zad w 0))]) hx hb dX11_earlier_1 rfl hl (Nat.le_of_ble_eq_true rfl) rfl (fun ls hl => ?_)
    obtain ⟨n, h⟩ := h
    refine zL_2   n 0 M H locs ls hW (lv_sub hl [1, 0] rfl) h
  exact zMain s.heap [] ls hW hl
def wpB_Model_runs_7 (a1 : Int32) (a2 : Int32)  (K26 : zMem → Prop) (Q : zMem → Prop) (J : Int32 → zMem → Prop) (x_3 : Int32) (M : zMem) : Prop :=
  (8 ≤ x_3 → K26 M) ∧ (¬ 8 ≤ x_3 → vp_in x_3 8 ∧ ∀ zm3 : zMem, zm3 = zup M 11 (ix x_3) 0 → ∀ zx4 : Int32, zx4 = x_3 + 1 → J zx4 zm3)
def wpB_Model_runs_28 (a1 : Int32) (a2 : Int32)  (K48 : zMem → Prop) (Q : zMem → Prop) (J : Int32 → zMem → Prop) (x_3 : Int32) (M : zMem) : Prop :=
  (9600 ≤ x_3 → K48 M) ∧ (¬ 9600 ≤ x_3 → vp_in x_3 9600 ∧ ∀ zm6 : zMem, zm6 = zup M 12 (ix x_3) 0 → ∀ zx7 : Int32, zx7 = x_3 + 1 → J zx7 zm6)
def wpB_Model_runs_64 (a1 : Int32) (a2 : Int32)   (Q : zMem → Prop) (J : zMem → Prop)  (M : zMem) : Prop :=
  wp_Model_of 1 1 M (fun zr14 zm13 => (a1 ≤ zr14 → Q zm13) ∧ (¬ a1 ≤ zr14 → wp_Model_of 1 3 zm13 (fun zr16 zm15 => (¬ zr16 = 0 → Q zm15) ∧ (zr16 = 0 → wp_Model_of 1 1 zm15 (fun zr18 zm17 => wp_Model_least 1 zm17 (fun zr20 zm19 => wp_Model_pass 1 zr20 zm19 (fun zm21 => wp_Model_settle 1 zm21 (fun zm23 => (a2 = 0 → J zm23) ∧ (¬ a2 = 0 → wp_Model_of 1 1 zm23 (fun zr26 zm25 => (zr26 ≤ zr18 → J zm25) ∧ (¬ zr26 ≤ zr18 → (¬ (zm25 0 29) = (-4) → J zm25) ∧ ((zm25 0 29) = (-4) → wp_Model_laySeen zm25 (fun zm27 => wp_Model_earlier zm27 (fun zr30 zm29 => ∀ zm31 : zMem, zm31 = zup zm29 0 29 zr30 → ∀ zm32 : zMem, zm32 = zup zm31 0 30 ((zm31 0 28) - 1) → J zm32))))))))))))))
def wp_Model_runs (a1 : Int32) (a2 : Int32) (M : zMem) (Q : zMem → Prop) : Prop :=
  wp_Model_clear 1 M (fun zm1 => ∃ n : Nat, zlp1 (wpB_Model_runs_7 a1 a2  (fun (zm5 : zMem) => ∃ n : Nat, zlp1 (wpB_Model_runs_28 a1 a2  (fun (zm8 : zMem) => ∀ zm9 : zMem, zm9 = zup zm8 0 28 0 → ∀ zm10 : zMem, zm10 = zup zm9 0 29 ((-4)) → wp_Model_settle 1 zm10 (fun zm11 => ∃ n : Nat, zlp0 (wpB_Model_runs_64 a1 a2   Q) n  zm11)) Q) n 0 zm5) Q) n 0 zm1)
set_option maxHeartbeats 4000000 in
set_option maxRecDepth 20000 in
theorem c_Model_runs {l : Launch} {w : zWd} {a1 : Int32} {a2 : Int32} {M : zMem} {post : zMem → Prop} (h0 : zI_Model w) (h : wp_Model_runs a1 a2 M post) : zMv l ⟨"HandToHandModel", "runs", "(IZ)V"⟩ prog_13_method_62_code 4 none 7 167 w [.ref (zad w 0), .int a1, .int a2] M post := by
  refine zMet (by decide) (Nat.le_of_ble_eq_true rfl) ?_
  intro p e s m below meth c X hr hlk hml hW ls hl
  have hx := X.1
  have hb := X.2.1
  have hl : lv_has ls 4 [(0, .ref (zad w 0)), (1, .int a1), (2, .int a2)] := hl
  have zL_7 : ∀ (K26 : zMem → Prop) (zK26 : ∀ (M : zMem) (H : Heap) (locs : List Loc) (ls : Array Slot), zWo w s.heap M H locs → lv_has ls 4 [(0, .ref (zad w 0)), (1, .int a1), (2, .int a2)] → K26 M → W p l e (zRm 7 167) s m ([.ref (zad w 0), .int a1, .int a2] : List Value).toArray below meth c H locs 0 0 (MQ below (va_Qv post (zB w) (zA w)) ([.ref (zad w 0), .int a1, .int a2] : List Value).toArray s 0 0 (zA w)) (F0 m 26 ls [])), ∀ (n : Nat) (x_3 : Int32) (M : zMem) (H : Heap) (locs : List Loc) (ls : Array Slot), zWo w s.heap M H locs → lv_has ls 4 [(0, .ref (zad w 0)), (1, .int a1), (2, .int a2), (3, .int x_3)] → zlp1 (wpB_Model_runs_7 a1 a2  K26 post) n x_3 M → W p l e (zRm 7 167) s m ([.ref (zad w 0), .int a1, .int a2] : List Value).toArray below meth c H locs 0 0 (MQ below (va_Qv post (zB w) (zA w)) ([.ref (zad w 0), .int a1, .int a2] : List Value).toArray s 0 0 (zA w)) (F0 m 7 ls []) := by
    intro K26 zK26 n
    induction n with
    | zero => intro x_3 M H locs ls hW hl h; exact h.elim
    | succ n zJ =>
      intro x_3 M H locs ls hW hl h
      have h : wpB_Model_runs_7 a1 a2  K26 post (zlp1 (wpB_Model_runs_7 a1 a2  K26 post) n) x_3 M := h
      unfold wpB_Model_runs_7 at h
      refine lv_iload_n hx hb dX11_runs_7 rfl (lv_at hl 3 rfl) ?_
      refine lv_bipush hx hb dX11_runs_8 zc_b8 ?_
      refine lv_icmp_ge (tgt := 26) hx hb dX11_runs_10 rfl (fun c => ?_) (fun c => ?_)
      · replace h := h.1 c
        exact zK26 M H locs ls hW (lv_sub hl [0, 1, 2] rfl) h
      · replace h := h.2 c
        refine lv_aload_n hx hb dX11_runs_13 rfl (lv_at hl 0 rfl) ?_
        refine zg_Model_stood X hW h0 zu_1043 dX11_runs_14 ?_
        refine lv_iload_n hx hb dX11_runs_17 rfl (lv_at hl 3 rfl) ?_
        refine lv_iconst hx hb dX11_runs_18 zc_i0 ?_
        obtain ⟨g, h⟩ := h
        refine ziast X hW h0.2.2.2.2.2.2.2.2.2.2.1 g dX11_runs_19 (fun H locs zm3 ezm3 hW => ?_)
        replace h := h zm3 ezm3
        obtain ⟨zx4, ezx4⟩ : ∃ y : Int32, y = x_3 + 1 := ⟨_, rfl⟩
        replace h := h zx4 ezx4
        refine lv_iinc (v := zx4) (lv' := [(3, .int zx4), (0, .ref (zad w 0)), (1, .int a1), (2, .int a2)]) hx hb dX11_runs_20 hl (k := 3) rfl (by rw [ezx4, zc_i1]) (Nat.le_of_ble_eq_true rfl) rfl (fun ls hl => ?_)
        refine lv_goto (tgt := 7) hx hb dX11_runs_23 rfl ?_
        exact zJ zx4 zm3 H locs ls hW (lv_sub hl [1, 2, 3, 0] rfl) h
  have zL_28 : ∀ (K48 : zMem → Prop) (zK48 : ∀ (M : zMem) (H : Heap) (locs : List Loc) (ls : Array Slot), zWo w s.heap M H locs → lv_has ls 4 [(0, .ref (zad w 0)), (1, .int a1), (2, .int a2)] → K48 M → W p l e (zRm 7 167) s m ([.ref (zad w 0), .int a1, .int a2] : List Value).toArray below meth c H locs 0 0 (MQ below (va_Qv post (zB w) (zA w)) ([.ref (zad w 0), .int a1, .int a2] : List Value).toArray s 0 0 (zA w)) (F0 m 48 ls [])), ∀ (n : Nat) (x_3 : Int32) (M : zMem) (H : Heap) (locs : List Loc) (ls : Array Slot), zWo w s.heap M H locs → lv_has ls 4 [(0, .ref (zad w 0)), (1, .int a1), (2, .int a2), (3, .int x_3)] → zlp1 (wpB_Model_runs_28 a1 a2  K48 post) n x_3 M → W p l e (zRm 7 167) s m ([.ref (zad w 0), .int a1, .int a2] : List Value).toArray below meth c H locs 0 0 (MQ below (va_Qv post (zB w) (zA w)) ([.ref (zad w 0), .int a1, .int a2] : List Value).toArray s 0 0 (zA w)) (F0 m 28 ls []) := by
    intro K48 zK48 n
    induction n with
    | zero => intro x_3 M H locs ls hW hl h; exact h.elim
    | succ n zJ =>
      intro x_3 M H locs ls hW hl h
      have h : wpB_Model_runs_28 a1 a2  K48 post (zlp1 (wpB_Model_runs_28 a1 a2  K48 post) n) x_3 M := h
      unfold wpB_Model_runs_28 at h
      refine lv_iload_n hx hb dX11_runs_28 rfl (lv_at hl 3 rfl) ?_
      refine lv_sipush hx hb dX11_runs_29 zc_s9600 ?_
      refine lv_icmp_ge (tgt := 48) hx hb dX11_runs_32 rfl (fun c => ?_) (fun c => ?_)
      · replace h := h.1 c
        exact zK48 M H locs ls hW (lv_sub hl [0, 1, 2] rfl) h
      · replace h := h.2 c
        refine lv_aload_n hx hb dX11_runs_35 rfl (lv_at hl 0 rfl) ?_
        refine zg_Model_seen X hW h0 zu_1045 dX11_runs_36 ?_
        refine lv_iload_n hx hb dX11_runs_39 rfl (lv_at hl 3 rfl) ?_
        refine lv_iconst hx hb dX11_runs_40 zc_i0 ?_
        obtain ⟨g, h⟩ := h
        refine ziast X hW h0.2.2.2.2.2.2.2.2.2.2.2.1 g dX11_runs_41 (fun H locs zm6 ezm6 hW => ?_)
        replace h := h zm6 ezm6
        obtain ⟨zx7, ezx7⟩ : ∃ y : Int32, y = x_3 + 1 := ⟨_, rfl⟩
        replace h := h zx7 ezx7
        refine lv_iinc (v := zx7) (lv' := [(3, .int zx7), (0, .ref (zad w 0)), (1, .int a1), (2, .int a2)]) hx hb dX11_runs_42 hl (k := 3) rfl (by rw [ezx7, zc_i1]) (Nat.le_of_ble_eq_true rfl) rfl (fun ls hl => ?_)
        refine lv_goto (tgt := 28) hx hb dX11_runs_45 rfl ?_
        exact zJ zx7 zm6 H locs ls hW (lv_sub hl [1, 2, 3, 0] rfl) h
  have zL_64 :  ∀ (n : Nat) (M : zMem) (H : Heap) (locs : List Loc) (ls : Array Slot), zWo w s.heap M H locs → lv_has ls 4 [(0, .ref (zad w 0)), (1, .int a1), (2, .int a2)] → zlp0 (wpB_Model_runs_64 a1 a2   post) n M → W p l e (zRm 7 167) s m ([.ref (zad w 0), .int a1, .int a2] : List Value).toArray below meth c H locs 0 0 (MQ below (va_Qv post (zB w) (zA w)) ([.ref (zad w 0), .int a1, .int a2] : List Value).toArray s 0 0 (zA w)) (F0 m 64 ls []) := by
    intro n
    induction n with
    | zero => intro M H locs ls hW hl h; exact h.elim
    | succ n zJ =>
      intro M H locs ls hW hl h
      have h : wpB_Model_runs_64 a1 a2   post (zlp0 (wpB_Model_runs_64 a1 a2   post) n) M := h
      unfold wpB_Model_runs_64 at h
      refine lv_aload_n hx hb dX11_runs_64 rfl (lv_at hl 0 rfl) ?_
      refine lv_iconst hx hb dX11_runs_65 zc_i1 ?_
      refine lv_iconst hx hb dX11_runs_66 zc_i1 ?_
      refine zcalli (zrunV (As := [.int 1, .int 1]) (rest := []) X hml hl hW h0.1 rfl zk_Model_218 (c_Model_of h0 h) rfl ⟨Nat.le_of_ble_eq_true rfl, Nat.le_of_ble_eq_true rfl⟩ ⟨Nat.le_refl 0, Nat.le_refl 0⟩ rfl (Nat.le_of_ble_eq_true rfl) dX11_runs_67) hW (fun zr14 zm13 H locs h hW => ?_)
      refine lv_iload_n hx hb dX11_runs_70 rfl (lv_at hl 1 rfl) ?_
      refine lv_icmp_ge (tgt := 153) hx hb dX11_runs_71 rfl (fun c => ?_) (fun c => ?_)
      · replace h := h.1 c
        exact zretv X hr hlk hW h dX11_runs_153
      · replace h := h.2 c
        refine lv_aload_n hx hb dX11_runs_74 rfl (lv_at hl 0 rfl) ?_
        refine lv_iconst hx hb dX11_runs_75 zc_i1 ?_
        refine lv_iconst hx hb dX11_runs_76 zc_i3 ?_
        refine zcalli (zrunV (As := [.int 1, .int 3]) (rest := []) X hml hl hW h0.1 rfl zk_Model_218 (c_Model_of h0 h) rfl ⟨Nat.le_of_ble_eq_true rfl, Nat.le_of_ble_eq_true rfl⟩ ⟨Nat.le_refl 0, Nat.le_refl 0⟩ rfl (Nat.le_of_ble_eq_true rfl) dX11_runs_77) hW (fun zr16 zm15 H locs h hW => ?_)
        refine lv_if_ne (tgt := 153) hx hb dX11_runs_80 rfl (fun c => ?_) (fun c => ?_)
        · replace h := h.1 c
          exact zretv X hr hlk hW h dX11_runs_153
        · replace h := h.2 c
          refine lv_aload_n hx hb dX11_runs_83 rfl (lv_at hl 0 rfl) ?_
          refine lv_iconst hx hb dX11_runs_84 zc_i1 ?_
          refine lv_iconst hx hb dX11_runs_85 zc_i1 ?_
          refine zcalli (zrunV (As := [.int 1, .int 1]) (rest := []) X hml hl hW h0.1 rfl zk_Model_218 (c_Model_of h0 h) rfl ⟨Nat.le_of_ble_eq_true rfl, Nat.le_of_ble_eq_true rfl⟩ ⟨Nat.le_refl 0, Nat.le_refl 0⟩ rfl (Nat.le_of_ble_eq_true rfl) dX11_runs_86) hW (fun zr18 zm17 H locs h hW => ?_)
          refine lv_istore_n (lv' := [(3, .int zr18), (0, .ref (zad w 0)), (1, .int a1), (2, .int a2)]) hx hb dX11_runs_89 rfl hl (Nat.le_of_ble_eq_true rfl) rfl (fun ls hl => ?_)
          refine lv_aload_n hx hb dX11_runs_90 rfl (lv_at hl 1 rfl) ?_
          refine lv_iconst hx hb dX11_runs_91 zc_i1 ?_
          refine lv_aload_n hx hb dX11_runs_92 rfl (lv_at hl 1 rfl) ?_
          refine lv_iconst hx hb dX11_runs_93 zc_i1 ?_
          refine zcalli (zrunV (As := [.int 1]) (rest := [.int 1, .ref (zad w 0)]) X hml hl hW h0.1 rfl zk_Model_237 (c_Model_least h0 h) rfl ⟨Nat.le_of_ble_eq_true rfl, Nat.le_of_ble_eq_true rfl⟩ ⟨Nat.le_refl 0, Nat.le_refl 0⟩ rfl (Nat.le_of_ble_eq_true rfl) dX11_runs_94) hW (fun zr20 zm19 H locs h hW => ?_)
          refine zcallv (zrunV (As := [.int 1, .int zr20]) (rest := []) X hml hl hW h0.1 rfl zk_Model_254 (c_Model_pass h0 h) rfl ⟨Nat.le_of_ble_eq_true rfl, Nat.le_of_ble_eq_true rfl⟩ ⟨Nat.le_refl 0, Nat.le_refl 0⟩ rfl (Nat.le_of_ble_eq_true rfl) dX11_runs_97) hW (fun zm21 H locs h hW => ?_)
          refine lv_aload_n hx hb dX11_runs_100 rfl (lv_at hl 1 rfl) ?_
          refine lv_iconst hx hb dX11_runs_101 zc_i1 ?_
          refine zcallv (zrunV (As := [.int 1]) (rest := []) X hml hl hW h0.1 rfl zk_Model_246 (c_Model_settle h0 h) rfl ⟨Nat.le_of_ble_eq_true rfl, Nat.le_of_ble_eq_true rfl⟩ ⟨Nat.le_refl 0, Nat.le_refl 0⟩ rfl (Nat.le_of_ble_eq_true rfl) dX11_runs_102) hW (fun zm23 H locs h hW => ?_)
          refine lv_iload_n hx hb dX11_runs_105 rfl (lv_at hl 3 rfl) ?_
          refine lv_if_eq (tgt := 150) hx hb dX11_runs_106 rfl (fun c => ?_) (fun c => ?_)
          · replace h := h.1 c
            refine lv_goto (tgt := 64) hx hb dX11_runs_150 rfl ?_
            exact zJ zm23 H locs ls hW (lv_sub hl [1, 2, 3] rfl) h
          · replace h := h.2 c
            refine lv_aload_n hx hb dX11_runs_109 rfl (lv_at hl 1 rfl) ?_
            refine lv_iconst hx hb dX11_runs_110 zc_i1 ?_
            refine lv_iconst hx hb dX11_runs_111 zc_i1 ?_
            refine zcalli (zrunV (As := [.int 1, .int 1]) (rest := []) X hml hl hW h0.1 rfl zk_Model_218 (c_Model_of h0 h) rfl ⟨Nat.le_of_ble_eq_true rfl, Nat.le_of_ble_eq_true rfl⟩ ⟨Nat.le_refl 0, Nat.le_refl 0⟩ rfl (Nat.le_of_ble_eq_true rfl) dX11_runs_112) hW (fun zr26 zm25 H locs h hW => ?_)
            refine lv_iload_n hx hb dX11_runs_115 rfl (lv_at hl 0 rfl) ?_
            refine lv_icmp_le (tgt := 150) hx hb dX11_runs_116 rfl (fun c => ?_) (fun c => ?_)
            · replace h := h.1 c
              refine lv_goto (tgt := 64) hx hb dX11_runs_150 rfl ?_
              exact zJ zm25 H locs ls hW (lv_sub hl [1, 2, 3] rfl) h
            · replace h := h.2 c
              refine lv_aload_n hx hb dX11_runs_119 rfl (lv_at hl 1 rfl) ?_
              refine zg_Model_ringFrom X hW h0 zu_1049 dX11_runs_120 ?_
              refine lv_bipush hx hb dX11_runs_123 zc_bm4 ?_
              refine lv_icmp_ne (tgt := 150) hx hb dX11_runs_125 rfl (fun c => ?_) (fun c => ?_)
              · replace h := h.1 c
                refine lv_goto (tgt := 64) hx hb dX11_runs_150 rfl ?_
                exact zJ zm25 H locs ls hW (lv_sub hl [1, 2, 3] rfl) h
              · replace h := h.2 c
                refine lv_aload_n hx hb dX11_runs_128 rfl (lv_at hl 1 rfl) ?_
                refine zcallv (zrunV (As := []) (rest := []) X hml hl hW h0.1 rfl zk_Model_268 (c_Model_laySeen h0 h) rfl ⟨Nat.le_of_ble_eq_true rfl, Nat.le_of_ble_eq_true rfl⟩ ⟨Nat.le_refl 0, Nat.le_refl 0⟩ rfl (Nat.le_of_ble_eq_true rfl) dX11_runs_129) hW (fun zm27 H locs h hW => ?_)
                refine lv_aload_n hx hb dX11_runs_132 rfl (lv_at hl 1 rfl) ?_
                refine lv_aload_n hx hb dX11_runs_133 rfl (lv_at hl 1 rfl) ?_
                refine zcalli (zrunV (As := []) (rest := [.ref (zad w 0)]) X hml hl hW h0.1 rfl zk_Model_271 (c_Model_earlier h0 h) rfl ⟨Nat.le_of_ble_eq_true rfl, Nat.le_of_ble_eq_true rfl⟩ ⟨Nat.le_refl 0, Nat.le_refl 0⟩ rfl (Nat.le_of_ble_eq_true rfl) dX11_runs_134) hW (fun zr30 zm29 H locs h hW => ?_)
                refine zp_Model_ringFrom X hW h0 zu_1049 dX11_runs_137 (fun H locs zm31 ezm31 hW => ?_)
                replace h := h zm31 ezm31
                refine lv_aload_n hx hb dX11_runs_140 rfl (lv_at hl 1 rfl) ?_
                refine lv_aload_n hx hb dX11_runs_141 rfl (lv_at hl 1 rfl) ?_
                refine zg_Model_seenMany X hW h0 zu_1048 dX11_runs_142 ?_
                refine lv_iconst hx hb dX11_runs_145 zc_i1 ?_
                refine lv_isub hx hb dX11_runs_146 ?_
                refine zp_Model_ringTo X hW h0 zu_1050 dX11_runs_147 (fun H locs zm32 ezm32 hW => ?_)
                replace h := h zm32 ezm32
                refine lv_goto (tgt := 64) hx hb dX11_runs_150 rfl ?_
                exact zJ zm32 H locs ls hW (lv_sub hl [1, 2, 3] rfl) h
  unfold wp_Model_runs at h
  have zMain : ∀ (H : Heap) (locs : List Loc) (ls : Array Slot), zWo w s.heap M H locs → lv_has ls 4 [(0, .ref (zad w 0)), (1, .int a1), (2, .int a2)] → W p l e (zRm 7 167) s m ([.ref (zad w 0), .int a1, .int a2] : List Value).toArray below meth c H locs 0 0 (MQ below (va_Qv post (zB w) (zA w)) ([.ref (zad w 0), .int a1, .int a2] : List Value).toArray s 0 0 (zA w)) (F0 m 0 ls []) := by
    intro H locs ls hW hl
    refine lv_aload_n hx hb dX11_runs_0 rfl (lv_at hl 0 rfl) ?_
    refine lv_iconst hx hb dX11_runs_1 zc_i1 ?_
    refine zcallv (zrunV (As := [.int 1]) (rest := []) X hml hl hW h0.1 rfl zk_Model_249 (c_Model_clear h0 h) rfl ⟨Nat.le_of_ble_eq_true rfl, Nat.le_of_ble_eq_true rfl⟩ ⟨Nat.le_refl 0, Nat.le_refl 0⟩ rfl (Nat.le_of_ble_eq_true rfl) dX11_runs_2) hW (fun zm1 H locs h hW => ?_)
    refine lv_iconst hx hb dX11_runs_5 zc_i0 ?_
    refine lv_istore_n (lv' := [(3, .int 0), (0, .ref (zad w 0)), (1, .int a1), (2, .int a2)]) hx hb dX11_runs_6 rfl hl (Nat.le_of_ble_eq_true rfl) rfl (fun ls hl => ?_)
    obtain ⟨n, h⟩ := h
    refine zL_7  _ (fun  zm5 H locs ls hW hl h => ?_) n 0 zm1 H locs ls hW (lv_sub hl [1, 2, 3, 0] rfl) h
    · skip
      refine lv_iconst hx hb dX11_runs_26 zc_i0 ?_
      refine lv_istore_n (lv' := [(3, .int 0), (0, .ref (zad w 0)), (1, .int a1), (2, .int a2)]) hx hb dX11_runs_27 rfl hl (Nat.le_of_ble_eq_true rfl) rfl (fun ls hl => ?_)
      obtain ⟨n, h⟩ := h
      refine zL_28  _ (fun  zm8 H locs ls hW hl h => ?_) n 0 zm5 H locs ls hW (lv_sub hl [1, 2, 3, 0] rfl) h
      · skip
        refine lv_aload_n hx hb dX11_runs_48 rfl (lv_at hl 0 rfl) ?_
        refine lv_iconst hx hb dX11_runs_49 zc_i0 ?_
        refine zp_Model_seenMany X hW h0 zu_1048 dX11_runs_50 (fun H locs zm9 ezm9 hW => ?_)
        replace h := h zm9 ezm9
        refine lv_aload_n hx hb dX11_runs_53 rfl (lv_at hl 0 rfl) ?_
        refine lv_bipush hx hb dX11_runs_54 zc_bm4 ?_
        refine zp_Model_ringFrom X hW h0 zu_1049 dX11_runs_56 (fun H locs zm10 ezm10 hW => ?_)
        replace h := h zm10 ezm10
        refine lv_aload_n hx hb dX11_runs_59 rfl (lv_at hl 0 rfl) ?_
        refine lv_iconst hx hb dX11_runs_60 zc_i1 ?_
        refine zcallv (zrunV (As := [.int 1]) (rest := []) X hml hl hW h0.1 rfl zk_Model_246 (c_Model_settle h0 h) rfl ⟨Nat.le_of_ble_eq_true rfl, Nat.le_of_ble_eq_true rfl⟩ ⟨Nat.le_refl 0, Nat.le_refl 0⟩ rfl (Nat.le_of_ble_eq_true rfl) dX11_runs_61) hW (fun zm11 H locs h hW => ?_)
        obtain ⟨n, h⟩ := h
        refine zL_64   n  zm11 H locs ls hW (lv_sub hl [0, 1, 2] rfl) h
  exact zMain s.heap [] ls hW hl
def wp_Model_isRun (a1 : Int32) (M : zMem) (Q : Int32 → zMem → Prop) : Prop :=
  wp_Model_in a1.toInt64 1 120 M (fun zr2 zm1 => zbo zr2 ∧ Q zr2 zm1)
set_option maxHeartbeats 4000000 in
set_option maxRecDepth 20000 in
theorem c_Model_isRun {l : Launch} {w : zWd} {a1 : Int32} {M : zMem} {post : Int32 → zMem → Prop}  (h : wp_Model_isRun a1 M post) : zMi l ⟨"HandToHandModel", "isRun", "(I)Z"⟩ prog_13_method_63_code 1 (Option.some .boolean) 1 25 w [.int a1] M post := by
  refine zMet (by decide) (Nat.le_of_ble_eq_true rfl) ?_
  intro p e s m below meth c X hr hlk hml hW ls hl
  have hx := X.1
  have hb := X.2.1
  have hl : lv_has ls 1 [(0, .int a1)] := hl
  unfold wp_Model_isRun at h
  have zMain : ∀ (H : Heap) (locs : List Loc) (ls : Array Slot), zWo w s.heap M H locs → lv_has ls 1 [(0, .int a1)] → W p l e (zRm 1 25) s m ([.int a1] : List Value).toArray below meth c H locs 0 0 (MQ below (va_Qi post (zB w) (zA w)) ([.int a1] : List Value).toArray s 0 0 (zA w)) (F0 m 0 ls []) := by
    intro H locs ls hW hl
    refine lv_iload_n hx hb dX11_isRun_0 rfl (lv_at hl 0 rfl) ?_
    refine lv_i2l hx hb dX11_isRun_1 rfl ?_
    refine lv_lconst hx hb dX11_isRun_2 zc_l1 ?_
    refine lv_ldc2 hx hb X.2.2.1 (X.2.2.2.1 _ zu_1382) dX11_isRun_3 ?_
    refine zcalli (zrunS (As := [.long a1.toInt64, .long 1, .long 120]) (rest := []) X hml hl hW zk_Model_69 (c_Model_in  h) rfl ⟨Nat.le_of_ble_eq_true rfl, Nat.le_of_ble_eq_true rfl⟩ ⟨Nat.le_refl 0, Nat.le_refl 0⟩ rfl (Nat.le_of_ble_eq_true rfl) dX11_isRun_6) hW (fun zr2 zm1 H locs h hW => ?_)
    exact zretz X hr hlk hW (zbo_n h.1) h.2 dX11_isRun_9
  exact zMain s.heap [] ls hW hl
def wpB_Model_run_43 (a1 : Int32) (a2 : Int32) (x_4 : Int32) (x_5 : Int32) (K69 : Int32 → zMem → Prop) (Q : Int32 → zMem → Prop) (J : Int32 → Int32 → zMem → Prop) (x_3 : Int32) (x_6 : Int32) (M : zMem) : Prop :=
  ((M 0 18) ≤ x_6 → K69 x_3 M) ∧ (¬ (M 0 18) ≤ x_6 → wp_Model_at 1 x_6 5 M (fun zr10 zm9 => ∀ zx11 : Int32, zx11 = x_3 + zr10 → ∀ zx12 : Int32, zx12 = x_6 + 1 → J zx11 zx12 zm9))
def wpJ_Model_run_102 (a1 : Int32) (a2 : Int32) (K136 : Int32 → zMem → Prop) (J : Int32 → Int32 → Int32 → zMem → Prop) (Q : Int32 → zMem → Prop) (x_3 : Int32) (x_5 : Int32) (x_6 : Int32) (s_0 : Int32) (M : zMem) : Prop :=
  vp_in x_6 8 ∧ ((M 11 (ix x_6)) ≤ x_5 → ∀ zx15 : Int32, zx15 = x_6 + 1 → J s_0 x_5 zx15 M) ∧ (¬ (M 11 (ix x_6)) ≤ x_5 → vp_in x_6 8 ∧ ∀ zx16 : Int32, zx16 = M 11 (ix x_6) → ∀ zx17 : Int32, zx17 = x_6 + 1 → J s_0 zx16 zx17 M)
def wpB_Model_run_72 (a1 : Int32) (a2 : Int32) (x_3 : Int32) (K136 : Int32 → zMem → Prop) (Q : Int32 → zMem → Prop) (J : Int32 → Int32 → Int32 → zMem → Prop) (x_4 : Int32) (x_5 : Int32) (x_6 : Int32) (M : zMem) : Prop :=
  vp_in 0 100 ∧ ((M 4 (ix 0)) ≤ x_6 → K136 x_4 M) ∧ (¬ (M 4 (ix 0)) ≤ x_6 → vp_in x_6 8 ∧ ((M 11 (ix x_6)) ≤ x_5 → wpJ_Model_run_102 a1 a2 K136 J Q x_3 x_5 x_6 x_4 M) ∧ (¬ (M 11 (ix x_6)) ≤ x_5 → wpJ_Model_run_102 a1 a2 K136 J Q x_3 x_5 x_6 x_6 M))
def wp_Model_run (a1 : Int32) (a2 : Int32) (M : zMem) (Q : Int32 → zMem → Prop) : Prop :=
  wp_Model_isRun a1 M (fun zr2 zm1 => (zr2 = 0 → Q ((-1)) zm1) ∧ (¬ zr2 = 0 → wp_Model_in a2.toInt64 0 5 zm1 (fun zr4 zm3 => (¬ zr4 = 0 → wp_Model_asNumbered zm3 (fun zm5 => wp_Model_runs a1 0 zm5 (fun zm7 => ∃ n : Nat, zlp2 (wpB_Model_run_43 a1 a2 ((-4)) 0 (fun (zx14 : Int32) (zm13 : zMem) => ∃ n : Nat, zlp3 (wpB_Model_run_72 a1 a2 zx14 (fun (zx19 : Int32) (zm18 : zMem) => (4 ≤ a2 → (¬ a2 = 4 → Q zx19 zm18) ∧ (a2 = 4 → Q zx14 zm18)) ∧ (¬ 4 ≤ a2 → wp_Model_of 1 a2 zm18 (fun zr21 zm20 => Q zr21 zm20))) Q) n ((-4)) 0 0 zm13) Q) n 0 0 zm7))) ∧ (zr4 = 0 → Q ((-1)) zm3))))
set_option maxHeartbeats 4000000 in
set_option maxRecDepth 20000 in
theorem c_Model_run {l : Launch} {w : zWd} {a1 : Int32} {a2 : Int32} {M : zMem} {post : Int32 → zMem → Prop} (h0 : zI_Model w) (h : wp_Model_run a1 a2 M post) : zMi l ⟨"HandToHandModel", "run", "(II)I"⟩ prog_13_method_64_code 7 (Option.some .int) 8 190 w [.ref (zad w 0), .int a1, .int a2] M post := by
  refine zMet (by decide) (Nat.le_of_ble_eq_true rfl) ?_
  intro p e s m below meth c X hr hlk hml hW ls hl
  have hx := X.1
  have hb := X.2.1
  have hl : lv_has ls 7 [(0, .ref (zad w 0)), (1, .int a1), (2, .int a2)] := hl
  have zL_43 : ∀ (x_4 : Int32) (x_5 : Int32) (K69 : Int32 → zMem → Prop) (zK69 : ∀ (y_3 : Int32) (M : zMem) (H : Heap) (locs : List Loc) (ls : Array Slot), zWo w s.heap M H locs → lv_has ls 7 [(0, .ref (zad w 0)), (2, .int a2), (3, .int y_3), (4, .int x_4), (5, .int x_5)] → K69 y_3 M → W p l e (zRm 8 190) s m ([.ref (zad w 0), .int a1, .int a2] : List Value).toArray below meth c H locs 0 0 (MQ below (va_Qi post (zB w) (zA w)) ([.ref (zad w 0), .int a1, .int a2] : List Value).toArray s 0 0 (zA w)) (F0 m 69 ls [])), ∀ (n : Nat) (x_3 : Int32) (x_6 : Int32) (M : zMem) (H : Heap) (locs : List Loc) (ls : Array Slot), zWo w s.heap M H locs → lv_has ls 7 [(0, .ref (zad w 0)), (2, .int a2), (3, .int x_3), (4, .int x_4), (5, .int x_5), (6, .int x_6)] → zlp2 (wpB_Model_run_43 a1 a2 x_4 x_5 K69 post) n x_3 x_6 M → W p l e (zRm 8 190) s m ([.ref (zad w 0), .int a1, .int a2] : List Value).toArray below meth c H locs 0 0 (MQ below (va_Qi post (zB w) (zA w)) ([.ref (zad w 0), .int a1, .int a2] : List Value).toArray s 0 0 (zA w)) (F0 m 43 ls []) := by
    intro x_4 x_5 K69 zK69 n
    induction n with
    | zero => intro x_3 x_6 M H locs ls hW hl h; exact h.elim
    | succ n zJ =>
      intro x_3 x_6 M H locs ls hW hl h
      have h : wpB_Model_run_43 a1 a2 x_4 x_5 K69 post (zlp2 (wpB_Model_run_43 a1 a2 x_4 x_5 K69 post) n) x_3 x_6 M := h
      unfold wpB_Model_run_43 at h
      refine lv_iload hx hb dX11_run_43 (lv_at hl 5 rfl) ?_
      refine lv_aload_n hx hb dX11_run_45 rfl (lv_at hl 0 rfl) ?_
      refine zg_Model_many X hW h0 zu_1038 dX11_run_46 ?_
      refine lv_icmp_ge (tgt := 69) hx hb dX11_run_49 rfl (fun c => ?_) (fun c => ?_)
      · replace h := h.1 c
        exact zK69 x_3 M H locs ls hW (lv_sub hl [0, 1, 2, 3, 4] rfl) h
      · replace h := h.2 c
        refine lv_iload_n hx hb dX11_run_52 rfl (lv_at hl 2 rfl) ?_
        refine lv_aload_n hx hb dX11_run_53 rfl (lv_at hl 0 rfl) ?_
        refine lv_iconst hx hb dX11_run_54 zc_i1 ?_
        refine lv_iload hx hb dX11_run_55 (lv_at hl 5 rfl) ?_
        refine lv_iconst hx hb dX11_run_57 zc_i5 ?_
        refine zcalli (zrunV (As := [.int 1, .int x_6, .int 5]) (rest := [.int x_3]) X hml hl hW h0.1 rfl zk_Model_195 (c_Model_at h0 h) rfl ⟨Nat.le_of_ble_eq_true rfl, Nat.le_of_ble_eq_true rfl⟩ ⟨Nat.le_refl 0, Nat.le_refl 0⟩ rfl (Nat.le_of_ble_eq_true rfl) dX11_run_58) hW (fun zr10 zm9 H locs h hW => ?_)
        refine lv_iadd hx hb dX11_run_61 ?_
        refine lv_topi (fun zx11 ezx11 => ?_)
        replace h := h zx11 ezx11
        refine lv_istore_n (lv' := [(3, .int zx11), (0, .ref (zad w 0)), (2, .int a2), (4, .int x_4), (5, .int x_5), (6, .int x_6)]) hx hb dX11_run_62 rfl hl (Nat.le_of_ble_eq_true rfl) rfl (fun ls hl => ?_)
        obtain ⟨zx12, ezx12⟩ : ∃ y : Int32, y = x_6 + 1 := ⟨_, rfl⟩
        replace h := h zx12 ezx12
        refine lv_iinc (v := zx12) (lv' := [(6, .int zx12), (3, .int zx11), (0, .ref (zad w 0)), (2, .int a2), (4, .int x_4), (5, .int x_5)]) hx hb dX11_run_63 hl (k := 5) rfl (by rw [ezx12, zc_i1]) (Nat.le_of_ble_eq_true rfl) rfl (fun ls hl => ?_)
        refine lv_goto (tgt := 43) hx hb dX11_run_66 rfl ?_
        exact zJ zx11 zx12 zm9 H locs ls hW (lv_sub hl [2, 3, 1, 4, 5, 0] rfl) h
  have zJ_102 : ∀ (x_3 : Int32) (x_5 : Int32) (x_6 : Int32) (s_0 : Int32) (K136 : Int32 → zMem → Prop) (zK136 : ∀ (y_4 : Int32) (M : zMem) (H : Heap) (locs : List Loc) (ls : Array Slot), zWo w s.heap M H locs → lv_has ls 7 [(0, .ref (zad w 0)), (2, .int a2), (3, .int x_3), (4, .int y_4)] → K136 y_4 M → W p l e (zRm 8 190) s m ([.ref (zad w 0), .int a1, .int a2] : List Value).toArray below meth c H locs 0 0 (MQ below (va_Qi post (zB w) (zA w)) ([.ref (zad w 0), .int a1, .int a2] : List Value).toArray s 0 0 (zA w)) (F0 m 136 ls [])) (J : Int32 → Int32 → Int32 → zMem → Prop) (zJ : ∀ (y_4 : Int32) (y_5 : Int32) (y_6 : Int32) (M : zMem) (H : Heap) (locs : List Loc) (ls : Array Slot), zWo w s.heap M H locs → lv_has ls 7 [(0, .ref (zad w 0)), (2, .int a2), (3, .int x_3), (4, .int y_4), (5, .int y_5), (6, .int y_6)] → J y_4 y_5 y_6 M → W p l e (zRm 8 190) s m ([.ref (zad w 0), .int a1, .int a2] : List Value).toArray below meth c H locs 0 0 (MQ below (va_Qi post (zB w) (zA w)) ([.ref (zad w 0), .int a1, .int a2] : List Value).toArray s 0 0 (zA w)) (F0 m 72 ls [])) (M : zMem) (H : Heap) (locs : List Loc) (ls : Array Slot), zWo w s.heap M H locs → lv_has ls 7 [(0, .ref (zad w 0)), (2, .int a2), (3, .int x_3), (5, .int x_5), (6, .int x_6)] → wpJ_Model_run_102 a1 a2 K136 J post x_3 x_5 x_6 s_0 M → W p l e (zRm 8 190) s m ([.ref (zad w 0), .int a1, .int a2] : List Value).toArray below meth c H locs 0 0 (MQ below (va_Qi post (zB w) (zA w)) ([.ref (zad w 0), .int a1, .int a2] : List Value).toArray s 0 0 (zA w)) (F0 m 102 ls [.int s_0]) := by
    intro x_3 x_5 x_6 s_0 K136 zK136 J zJ M H locs ls hW hl h
    unfold wpJ_Model_run_102 at h
    refine lv_istore (lv' := [(4, .int s_0), (0, .ref (zad w 0)), (2, .int a2), (3, .int x_3), (5, .int x_5), (6, .int x_6)]) hx hb dX11_run_102 hl (Nat.le_of_ble_eq_true rfl) rfl (fun ls hl => ?_)
    refine lv_aload_n hx hb dX11_run_104 rfl (lv_at hl 1 rfl) ?_
    refine zg_Model_stood X hW h0 zu_1043 dX11_run_105 ?_
    refine lv_iload hx hb dX11_run_108 (lv_at hl 5 rfl) ?_
    obtain ⟨g, h⟩ := h
    refine ziald X hW h0.2.2.2.2.2.2.2.2.2.2.1 g dX11_run_110 ?_
    refine lv_iload hx hb dX11_run_111 (lv_at hl 4 rfl) ?_
    refine lv_icmp_le (tgt := 126) hx hb dX11_run_113 rfl (fun c => ?_) (fun c => ?_)
    · replace h := h.1 c
      refine lv_iload hx hb dX11_run_126 (lv_at hl 4 rfl) ?_
      refine lv_istore (lv' := [(5, .int x_5), (4, .int s_0), (0, .ref (zad w 0)), (2, .int a2), (3, .int x_3), (6, .int x_6)]) hx hb dX11_run_128 hl (Nat.le_of_ble_eq_true rfl) rfl (fun ls hl => ?_)
      obtain ⟨zx15, ezx15⟩ : ∃ y : Int32, y = x_6 + 1 := ⟨_, rfl⟩
      replace h := h zx15 ezx15
      refine lv_iinc (v := zx15) (lv' := [(6, .int zx15), (5, .int x_5), (4, .int s_0), (0, .ref (zad w 0)), (2, .int a2), (3, .int x_3)]) hx hb dX11_run_130 hl (k := 5) rfl (by rw [ezx15, zc_i1]) (Nat.le_of_ble_eq_true rfl) rfl (fun ls hl => ?_)
      refine lv_goto (tgt := 72) hx hb dX11_run_133 rfl ?_
      exact zJ s_0 x_5 zx15 M H locs ls hW (lv_sub hl [3, 4, 5, 2, 1, 0] rfl) h
    · replace h := h.2 c
      refine lv_aload_n hx hb dX11_run_116 rfl (lv_at hl 1 rfl) ?_
      refine zg_Model_stood X hW h0 zu_1043 dX11_run_117 ?_
      refine lv_iload hx hb dX11_run_120 (lv_at hl 5 rfl) ?_
      obtain ⟨g, h⟩ := h
      refine ziald X hW h0.2.2.2.2.2.2.2.2.2.2.1 g dX11_run_122 ?_
      refine lv_goto (tgt := 128) hx hb dX11_run_123 rfl ?_
      refine lv_topi (fun zx16 ezx16 => ?_)
      replace h := h zx16 ezx16
      refine lv_istore (lv' := [(5, .int zx16), (4, .int s_0), (0, .ref (zad w 0)), (2, .int a2), (3, .int x_3), (6, .int x_6)]) hx hb dX11_run_128 hl (Nat.le_of_ble_eq_true rfl) rfl (fun ls hl => ?_)
      obtain ⟨zx17, ezx17⟩ : ∃ y : Int32, y = x_6 + 1 := ⟨_, rfl⟩
      replace h := h zx17 ezx17
      refine lv_iinc (v := zx17) (lv' := [(6, .int zx17), (5, .int zx16), (4, .int s_0), (0, .ref (zad w 0)), (2, .int a2), (3, .int x_3)]) hx hb dX11_run_130 hl (k := 5) rfl (by rw [ezx17, zc_i1]) (Nat.le_of_ble_eq_true rfl) rfl (fun ls hl => ?_)
      refine lv_goto (tgt := 72) hx hb dX11_run_133 rfl ?_
      exact zJ s_0 zx16 zx17 M H locs ls hW (lv_sub hl [3, 4, 5, 2, 1, 0] rfl) h
  have zL_72 : ∀ (x_3 : Int32) (K136 : Int32 → zMem → Prop) (zK136 : ∀ (y_4 : Int32) (M : zMem) (H : Heap) (locs : List Loc) (ls : Array Slot), zWo w s.heap M H locs → lv_has ls 7 [(0, .ref (zad w 0)), (2, .int a2), (3, .int x_3), (4, .int y_4)] → K136 y_4 M → W p l e (zRm 8 190) s m ([.ref (zad w 0), .int a1, .int a2] : List Value).toArray below meth c H locs 0 0 (MQ below (va_Qi post (zB w) (zA w)) ([.ref (zad w 0), .int a1, .int a2] : List Value).toArray s 0 0 (zA w)) (F0 m 136 ls [])), ∀ (n : Nat) (x_4 : Int32) (x_5 : Int32) (x_6 : Int32) (M : zMem) (H : Heap) (locs : List Loc) (ls : Array Slot), zWo w s.heap M H locs → lv_has ls 7 [(0, .ref (zad w 0)), (2, .int a2), (3, .int x_3), (4, .int x_4), (5, .int x_5), (6, .int x_6)] → zlp3 (wpB_Model_run_72 a1 a2 x_3 K136 post) n x_4 x_5 x_6 M → W p l e (zRm 8 190) s m ([.ref (zad w 0), .int a1, .int a2] : List Value).toArray below meth c H locs 0 0 (MQ below (va_Qi post (zB w) (zA w)) ([.ref (zad w 0), .int a1, .int a2] : List Value).toArray s 0 0 (zA w)) (F0 m 72 ls []) := by
    intro x_3 K136 zK136 n
    induction n with
    | zero => intro x_4 x_5 x_6 M H locs ls hW hl h; exact h.elim
    | succ n zJ =>
      intro x_4 x_5 x_6 M H locs ls hW hl h
      have h : wpB_Model_run_72 a1 a2 x_3 K136 post (zlp3 (wpB_Model_run_72 a1 a2 x_3 K136 post) n) x_4 x_5 x_6 M := h
      unfold wpB_Model_run_72 at h
      refine lv_iload hx hb dX11_run_72 (lv_at hl 5 rfl) ?_
      refine lv_aload_n hx hb dX11_run_74 rfl (lv_at hl 0 rfl) ?_
      refine zg_Model_holds X hW h0 zu_1031 dX11_run_75 ?_
      refine lv_iconst hx hb dX11_run_78 zc_i0 ?_
      obtain ⟨g, h⟩ := h
      refine ziald X hW h0.2.2.2.2.1 g dX11_run_79 ?_
      refine lv_icmp_ge (tgt := 136) hx hb dX11_run_80 rfl (fun c => ?_) (fun c => ?_)
      · replace h := h.1 c
        exact zK136 x_4 M H locs ls hW (lv_sub hl [0, 1, 2, 3] rfl) h
      · replace h := h.2 c
        refine lv_aload_n hx hb dX11_run_83 rfl (lv_at hl 0 rfl) ?_
        refine zg_Model_stood X hW h0 zu_1043 dX11_run_84 ?_
        refine lv_iload hx hb dX11_run_87 (lv_at hl 5 rfl) ?_
        obtain ⟨g, h⟩ := h
        refine ziald X hW h0.2.2.2.2.2.2.2.2.2.2.1 g dX11_run_89 ?_
        refine lv_iload hx hb dX11_run_90 (lv_at hl 4 rfl) ?_
        refine lv_icmp_le (tgt := 100) hx hb dX11_run_92 rfl (fun c => ?_) (fun c => ?_)
        · replace h := h.1 c
          refine lv_iload hx hb dX11_run_100 (lv_at hl 3 rfl) ?_
          exact zJ_102 x_3 x_5 x_6 x_4 _ zK136 _ zJ M H locs ls hW (lv_sub hl [0, 1, 2, 4, 5] rfl) h
        · replace h := h.2 c
          refine lv_iload hx hb dX11_run_95 (lv_at hl 5 rfl) ?_
          refine lv_goto (tgt := 102) hx hb dX11_run_97 rfl ?_
          exact zJ_102 x_3 x_5 x_6 x_6 _ zK136 _ zJ M H locs ls hW (lv_sub hl [0, 1, 2, 4, 5] rfl) h
  unfold wp_Model_run at h
  have zMain : ∀ (H : Heap) (locs : List Loc) (ls : Array Slot), zWo w s.heap M H locs → lv_has ls 7 [(0, .ref (zad w 0)), (1, .int a1), (2, .int a2)] → W p l e (zRm 8 190) s m ([.ref (zad w 0), .int a1, .int a2] : List Value).toArray below meth c H locs 0 0 (MQ below (va_Qi post (zB w) (zA w)) ([.ref (zad w 0), .int a1, .int a2] : List Value).toArray s 0 0 (zA w)) (F0 m 0 ls []) := by
    intro H locs ls hW hl
    refine lv_iload_n hx hb dX11_run_0 rfl (lv_at hl 1 rfl) ?_
    refine zcalli (zrunS (As := [.int a1]) (rest := []) X hml hl hW zk_Model_279 (c_Model_isRun  h) rfl ⟨Nat.le_of_ble_eq_true rfl, Nat.le_of_ble_eq_true rfl⟩ ⟨Nat.le_refl 0, Nat.le_refl 0⟩ rfl (Nat.le_of_ble_eq_true rfl) dX11_run_1) hW (fun zr2 zm1 H locs h hW => ?_)
    refine lv_if_eq (tgt := 19) hx hb dX11_run_4 rfl (fun c => ?_) (fun c => ?_)
    · replace h := h.1 c
      refine lv_iconst hx hb dX11_run_19 zc_im1 ?_
      exact zreti X hr hlk hW h dX11_run_20
    · replace h := h.2 c
      refine lv_iload_n hx hb dX11_run_7 rfl (lv_at hl 2 rfl) ?_
      refine lv_i2l hx hb dX11_run_8 rfl ?_
      refine lv_lconst hx hb dX11_run_9 zc_l0 ?_
      refine lv_ldc2 hx hb X.2.2.1 (X.2.2.2.1 _ zu_1358) dX11_run_10 ?_
      refine zcalli (zrunS (As := [.long a2.toInt64, .long 0, .long 5]) (rest := []) X hml hl hW zk_Model_69 (c_Model_in  h) rfl ⟨Nat.le_of_ble_eq_true rfl, Nat.le_of_ble_eq_true rfl⟩ ⟨Nat.le_refl 0, Nat.le_refl 0⟩ rfl (Nat.le_of_ble_eq_true rfl) dX11_run_13) hW (fun zr4 zm3 H locs h hW => ?_)
      refine lv_if_ne (tgt := 21) hx hb dX11_run_16 rfl (fun c => ?_) (fun c => ?_)
      · replace h := h.1 c
        refine lv_aload_n hx hb dX11_run_21 rfl (lv_at hl 0 rfl) ?_
        refine zcallv (zrunV (As := []) (rest := []) X hml hl hW h0.1 rfl zk_Model_243 (c_Model_asNumbered h0 h) rfl ⟨Nat.le_of_ble_eq_true rfl, Nat.le_of_ble_eq_true rfl⟩ ⟨Nat.le_refl 0, Nat.le_refl 0⟩ rfl (Nat.le_of_ble_eq_true rfl) dX11_run_22) hW (fun zm5 H locs h hW => ?_)
        refine lv_aload_n hx hb dX11_run_25 rfl (lv_at hl 0 rfl) ?_
        refine lv_iload_n hx hb dX11_run_26 rfl (lv_at hl 1 rfl) ?_
        refine lv_iconst hx hb dX11_run_27 zc_i0 ?_
        refine zcallv (zrunV (As := [.int a1, .int 0]) (rest := []) X hml hl hW h0.1 rfl zk_Model_282 (c_Model_runs h0 h) rfl ⟨Nat.le_of_ble_eq_true rfl, Nat.le_of_ble_eq_true rfl⟩ ⟨Nat.le_refl 0, Nat.le_refl 0⟩ rfl (Nat.le_of_ble_eq_true rfl) dX11_run_28) hW (fun zm7 H locs h hW => ?_)
        refine lv_iconst hx hb dX11_run_31 zc_i0 ?_
        refine lv_istore_n (lv' := [(3, .int 0), (0, .ref (zad w 0)), (1, .int a1), (2, .int a2)]) hx hb dX11_run_32 rfl hl (Nat.le_of_ble_eq_true rfl) rfl (fun ls hl => ?_)
        refine lv_bipush hx hb dX11_run_33 zc_bm4 ?_
        refine lv_istore (lv' := [(4, .int ((-4))), (3, .int 0), (0, .ref (zad w 0)), (1, .int a1), (2, .int a2)]) hx hb dX11_run_35 hl (Nat.le_of_ble_eq_true rfl) rfl (fun ls hl => ?_)
        refine lv_iconst hx hb dX11_run_37 zc_i0 ?_
        refine lv_istore (lv' := [(5, .int 0), (4, .int ((-4))), (3, .int 0), (0, .ref (zad w 0)), (1, .int a1), (2, .int a2)]) hx hb dX11_run_38 hl (Nat.le_of_ble_eq_true rfl) rfl (fun ls hl => ?_)
        refine lv_iconst hx hb dX11_run_40 zc_i0 ?_
        refine lv_istore (lv' := [(6, .int 0), (5, .int 0), (4, .int ((-4))), (3, .int 0), (0, .ref (zad w 0)), (1, .int a1), (2, .int a2)]) hx hb dX11_run_41 hl (Nat.le_of_ble_eq_true rfl) rfl (fun ls hl => ?_)
        obtain ⟨n, h⟩ := h
        refine zL_43 ((-4)) 0 _ (fun zx14 zm13 H locs ls hW hl h => ?_) n 0 0 zm7 H locs ls hW (lv_sub hl [4, 6, 3, 2, 1, 0] rfl) h
        · skip
          refine lv_iconst hx hb dX11_run_69 zc_i0 ?_
          refine lv_istore (lv' := [(6, .int 0), (0, .ref (zad w 0)), (2, .int a2), (3, .int zx14), (4, .int ((-4))), (5, .int 0)]) hx hb dX11_run_70 hl (Nat.le_of_ble_eq_true rfl) rfl (fun ls hl => ?_)
          obtain ⟨n, h⟩ := h
          refine zL_72 zx14 _ (fun zx19 zm18 H locs ls hW hl h => ?_) n ((-4)) 0 0 zm13 H locs ls hW (lv_sub hl [1, 2, 3, 4, 5, 0] rfl) h
          · skip
            refine lv_iload_n hx hb dX11_run_136 rfl (lv_at hl 1 rfl) ?_
            refine lv_iconst hx hb dX11_run_137 zc_i4 ?_
            refine lv_icmp_ge (tgt := 150) hx hb dX11_run_138 rfl (fun c => ?_) (fun c => ?_)
            · replace h := h.1 c
              refine lv_iload_n hx hb dX11_run_150 rfl (lv_at hl 1 rfl) ?_
              refine lv_iconst hx hb dX11_run_151 zc_i4 ?_
              refine lv_icmp_ne (tgt := 159) hx hb dX11_run_152 rfl (fun c => ?_) (fun c => ?_)
              · replace h := h.1 c
                refine lv_iload hx hb dX11_run_159 (lv_at hl 3 rfl) ?_
                exact zreti X hr hlk hW h dX11_run_161
              · replace h := h.2 c
                refine lv_iload_n hx hb dX11_run_155 rfl (lv_at hl 2 rfl) ?_
                refine lv_goto (tgt := 161) hx hb dX11_run_156 rfl ?_
                exact zreti X hr hlk hW h dX11_run_161
            · replace h := h.2 c
              refine lv_aload_n hx hb dX11_run_141 rfl (lv_at hl 0 rfl) ?_
              refine lv_iconst hx hb dX11_run_142 zc_i1 ?_
              refine lv_iload_n hx hb dX11_run_143 rfl (lv_at hl 1 rfl) ?_
              refine zcalli (zrunV (As := [.int 1, .int a2]) (rest := []) X hml hl hW h0.1 rfl zk_Model_218 (c_Model_of h0 h) rfl ⟨Nat.le_of_ble_eq_true rfl, Nat.le_of_ble_eq_true rfl⟩ ⟨Nat.le_refl 0, Nat.le_refl 0⟩ rfl (Nat.le_of_ble_eq_true rfl) dX11_run_144) hW (fun zr21 zm20 H locs h hW => ?_)
              refine lv_goto (tgt := 161) hx hb dX11_run_147 rfl ?_
              exact zreti X hr hlk hW h dX11_run_161
      · replace h := h.2 c
        refine lv_iconst hx hb dX11_run_19 zc_im1 ?_
        exact zreti X hr hlk hW h dX11_run_20
  exact zMain s.heap [] ls hW hl
def wp_Model_waits (a1 : Int32) (a2 : Int32) (M : zMem) (Q : Int32 → zMem → Prop) : Prop :=
  wp_Model_isRun a1 M (fun zr2 zm1 => (zr2 = 0 → Q ((-1)) zm1) ∧ (¬ zr2 = 0 → wp_Model_isHand a2 zm1 (fun zr4 zm3 => (¬ zr4 = 0 → wp_Model_asNumbered zm3 (fun zm5 => wp_Model_runs a1 0 zm5 (fun zm7 => wp_Model_at 1 a2 5 zm7 (fun zr10 zm9 => Q zr10 zm9)))) ∧ (zr4 = 0 → Q ((-1)) zm3))))
set_option maxHeartbeats 4000000 in
set_option maxRecDepth 20000 in
theorem c_Model_waits {l : Launch} {w : zWd} {a1 : Int32} {a2 : Int32} {M : zMem} {post : Int32 → zMem → Prop} (h0 : zI_Model w) (h : wp_Model_waits a1 a2 M post) : zMi l ⟨"HandToHandModel", "waits", "(II)I"⟩ prog_13_method_65_code 3 (Option.some .int) 8 190 w [.ref (zad w 0), .int a1, .int a2] M post := by
  refine zMet (by decide) (Nat.le_of_ble_eq_true rfl) ?_
  intro p e s m below meth c X hr hlk hml hW ls hl
  have hx := X.1
  have hb := X.2.1
  have hl : lv_has ls 3 [(0, .ref (zad w 0)), (1, .int a1), (2, .int a2)] := hl
  unfold wp_Model_waits at h
  have zMain : ∀ (H : Heap) (locs : List Loc) (ls : Array Slot), zWo w s.heap M H locs → lv_has ls 3 [(0, .ref (zad w 0)), (1, .int a1), (2, .int a2)] → W p l e (zRm 8 190) s m ([.ref (zad w 0), .int a1, .int a2] : List Value).toArray below meth c H locs 0 0 (MQ below (va_Qi post (zB w) (zA w)) ([.ref (zad w 0), .int a1, .int a2] : List Value).toArray s 0 0 (zA w)) (F0 m 0 ls []) := by
    intro H locs ls hW hl
    refine lv_iload_n hx hb dX11_waits_0 rfl (lv_at hl 1 rfl) ?_
    refine zcalli (zrunS (As := [.int a1]) (rest := []) X hml hl hW zk_Model_279 (c_Model_isRun  h) rfl ⟨Nat.le_of_ble_eq_true rfl, Nat.le_of_ble_eq_true rfl⟩ ⟨Nat.le_refl 0, Nat.le_refl 0⟩ rfl (Nat.le_of_ble_eq_true rfl) dX11_waits_1) hW (fun zr2 zm1 H locs h hW => ?_)
    refine lv_if_eq (tgt := 15) hx hb dX11_waits_4 rfl (fun c => ?_) (fun c => ?_)
    · replace h := h.1 c
      refine lv_iconst hx hb dX11_waits_15 zc_im1 ?_
      exact zreti X hr hlk hW h dX11_waits_16
    · replace h := h.2 c
      refine lv_aload_n hx hb dX11_waits_7 rfl (lv_at hl 0 rfl) ?_
      refine lv_iload_n hx hb dX11_waits_8 rfl (lv_at hl 2 rfl) ?_
      refine zcalli (zrunV (As := [.int a2]) (rest := []) X hml hl hW h0.1 rfl zk_Model_166 (c_Model_isHand h0 h) rfl ⟨Nat.le_of_ble_eq_true rfl, Nat.le_of_ble_eq_true rfl⟩ ⟨Nat.le_refl 0, Nat.le_refl 0⟩ rfl (Nat.le_of_ble_eq_true rfl) dX11_waits_9) hW (fun zr4 zm3 H locs h hW => ?_)
      refine lv_if_ne (tgt := 17) hx hb dX11_waits_12 rfl (fun c => ?_) (fun c => ?_)
      · replace h := h.1 c
        refine lv_aload_n hx hb dX11_waits_17 rfl (lv_at hl 0 rfl) ?_
        refine zcallv (zrunV (As := []) (rest := []) X hml hl hW h0.1 rfl zk_Model_243 (c_Model_asNumbered h0 h) rfl ⟨Nat.le_of_ble_eq_true rfl, Nat.le_of_ble_eq_true rfl⟩ ⟨Nat.le_refl 0, Nat.le_refl 0⟩ rfl (Nat.le_of_ble_eq_true rfl) dX11_waits_18) hW (fun zm5 H locs h hW => ?_)
        refine lv_aload_n hx hb dX11_waits_21 rfl (lv_at hl 0 rfl) ?_
        refine lv_iload_n hx hb dX11_waits_22 rfl (lv_at hl 1 rfl) ?_
        refine lv_iconst hx hb dX11_waits_23 zc_i0 ?_
        refine zcallv (zrunV (As := [.int a1, .int 0]) (rest := []) X hml hl hW h0.1 rfl zk_Model_282 (c_Model_runs h0 h) rfl ⟨Nat.le_of_ble_eq_true rfl, Nat.le_of_ble_eq_true rfl⟩ ⟨Nat.le_refl 0, Nat.le_refl 0⟩ rfl (Nat.le_of_ble_eq_true rfl) dX11_waits_24) hW (fun zm7 H locs h hW => ?_)
        refine lv_aload_n hx hb dX11_waits_27 rfl (lv_at hl 0 rfl) ?_
        refine lv_iconst hx hb dX11_waits_28 zc_i1 ?_
        refine lv_iload_n hx hb dX11_waits_29 rfl (lv_at hl 2 rfl) ?_
        refine lv_iconst hx hb dX11_waits_30 zc_i5 ?_
        refine zcalli (zrunV (As := [.int 1, .int a2, .int 5]) (rest := []) X hml hl hW h0.1 rfl zk_Model_195 (c_Model_at h0 h) rfl ⟨Nat.le_of_ble_eq_true rfl, Nat.le_of_ble_eq_true rfl⟩ ⟨Nat.le_refl 0, Nat.le_refl 0⟩ rfl (Nat.le_of_ble_eq_true rfl) dX11_waits_31) hW (fun zr10 zm9 H locs h hW => ?_)
        exact zreti X hr hlk hW h dX11_waits_34
      · replace h := h.2 c
        refine lv_iconst hx hb dX11_waits_15 zc_im1 ?_
        exact zreti X hr hlk hW h dX11_waits_16
  exact zMain s.heap [] ls hW hl
def wp_Model_oversKept  (M : zMem) (Q : Int32 → zMem → Prop) : Prop :=
  wp_Model_of 1 2 M (fun zr2 zm1 => (600 ≤ zr2 → Q 600 zm1) ∧ (¬ 600 ≤ zr2 → wp_Model_of 1 2 zm1 (fun zr4 zm3 => Q zr4 zm3)))
set_option maxHeartbeats 4000000 in
set_option maxRecDepth 20000 in
theorem c_Model_oversKept {l : Launch} {w : zWd} {M : zMem} {post : Int32 → zMem → Prop} (h0 : zI_Model w) (h : wp_Model_oversKept  M post) : zMi l ⟨"HandToHandModel", "oversKept", "()I"⟩ prog_13_method_66_code 1 (Option.some .int) 1 22 w [.ref (zad w 0)] M post := by
  refine zMet (by decide) (Nat.le_of_ble_eq_true rfl) ?_
  intro p e s m below meth c X hr hlk hml hW ls hl
  have hx := X.1
  have hb := X.2.1
  have hl : lv_has ls 1 [(0, .ref (zad w 0))] := hl
  unfold wp_Model_oversKept at h
  have zMain : ∀ (H : Heap) (locs : List Loc) (ls : Array Slot), zWo w s.heap M H locs → lv_has ls 1 [(0, .ref (zad w 0))] → W p l e (zRm 1 22) s m ([.ref (zad w 0)] : List Value).toArray below meth c H locs 0 0 (MQ below (va_Qi post (zB w) (zA w)) ([.ref (zad w 0)] : List Value).toArray s 0 0 (zA w)) (F0 m 0 ls []) := by
    intro H locs ls hW hl
    refine lv_aload_n hx hb dX11_oversKept_0 rfl (lv_at hl 0 rfl) ?_
    refine lv_iconst hx hb dX11_oversKept_1 zc_i1 ?_
    refine lv_iconst hx hb dX11_oversKept_2 zc_i2 ?_
    refine zcalli (zrunV (As := [.int 1, .int 2]) (rest := []) X hml hl hW h0.1 rfl zk_Model_218 (c_Model_of h0 h) rfl ⟨Nat.le_of_ble_eq_true rfl, Nat.le_of_ble_eq_true rfl⟩ ⟨Nat.le_refl 0, Nat.le_refl 0⟩ rfl (Nat.le_of_ble_eq_true rfl) dX11_oversKept_3) hW (fun zr2 zm1 H locs h hW => ?_)
    refine lv_sipush hx hb dX11_oversKept_6 zc_s600 ?_
    refine lv_icmp_ge (tgt := 21) hx hb dX11_oversKept_9 rfl (fun c => ?_) (fun c => ?_)
    · replace h := h.1 c
      refine lv_sipush hx hb dX11_oversKept_21 zc_s600 ?_
      exact zreti X hr hlk hW h dX11_oversKept_24
    · replace h := h.2 c
      refine lv_aload_n hx hb dX11_oversKept_12 rfl (lv_at hl 0 rfl) ?_
      refine lv_iconst hx hb dX11_oversKept_13 zc_i1 ?_
      refine lv_iconst hx hb dX11_oversKept_14 zc_i2 ?_
      refine zcalli (zrunV (As := [.int 1, .int 2]) (rest := []) X hml hl hW h0.1 rfl zk_Model_218 (c_Model_of h0 h) rfl ⟨Nat.le_of_ble_eq_true rfl, Nat.le_of_ble_eq_true rfl⟩ ⟨Nat.le_refl 0, Nat.le_refl 0⟩ rfl (Nat.le_of_ble_eq_true rfl) dX11_oversKept_15) hW (fun zr4 zm3 H locs h hW => ?_)
      refine lv_goto (tgt := 24) hx hb dX11_oversKept_18 rfl ?_
      exact zreti X hr hlk hW h dX11_oversKept_24
  exact zMain s.heap [] ls hW hl
def wp_Model_over (a1 : Int32) (a2 : Int32) (a3 : Int32) (M : zMem) (Q : Int32 → zMem → Prop) : Prop :=
  wp_Model_isRun a1 M (fun zr2 zm1 => (zr2 = 0 → Q ((-1)) zm1) ∧ (¬ zr2 = 0 → (a2 < 0 → Q ((-1)) zm1) ∧ (¬ a2 < 0 → wp_Model_in a3.toInt64 0 4 zm1 (fun zr4 zm3 => (¬ zr4 = 0 → wp_Model_asNumbered zm3 (fun zm5 => wp_Model_runs a1 0 zm5 (fun zm7 => wp_Model_oversKept zm7 (fun zr10 zm9 => (zr10 ≤ a2 → Q ((-1)) zm9) ∧ (¬ zr10 ≤ a2 → vp_in ((5 * a2) + a3) 3000 ∧ Q (zm9 10 (ix ((5 * a2) + a3))) zm9))))) ∧ (zr4 = 0 → Q ((-1)) zm3)))))
set_option maxHeartbeats 4000000 in
set_option maxRecDepth 20000 in
theorem c_Model_over {l : Launch} {w : zWd} {a1 : Int32} {a2 : Int32} {a3 : Int32} {M : zMem} {post : Int32 → zMem → Prop} (h0 : zI_Model w) (h : wp_Model_over a1 a2 a3 M post) : zMi l ⟨"HandToHandModel", "over", "(III)I"⟩ prog_13_method_67_code 4 (Option.some .int) 8 190 w [.ref (zad w 0), .int a1, .int a2, .int a3] M post := by
  refine zMet (by decide) (Nat.le_of_ble_eq_true rfl) ?_
  intro p e s m below meth c X hr hlk hml hW ls hl
  have hx := X.1
  have hb := X.2.1
  have hl : lv_has ls 4 [(0, .ref (zad w 0)), (1, .int a1), (2, .int a2), (3, .int a3)] := hl
  unfold wp_Model_over at h
  have zMain : ∀ (H : Heap) (locs : List Loc) (ls : Array Slot), zWo w s.heap M H locs → lv_has ls 4 [(0, .ref (zad w 0)), (1, .int a1), (2, .int a2), (3, .int a3)] → W p l e (zRm 8 190) s m ([.ref (zad w 0), .int a1, .int a2, .int a3] : List Value).toArray below meth c H locs 0 0 (MQ below (va_Qi post (zB w) (zA w)) ([.ref (zad w 0), .int a1, .int a2, .int a3] : List Value).toArray s 0 0 (zA w)) (F0 m 0 ls []) := by
    intro H locs ls hW hl
    refine lv_iload_n hx hb dX11_over_0 rfl (lv_at hl 1 rfl) ?_
    refine zcalli (zrunS (As := [.int a1]) (rest := []) X hml hl hW zk_Model_279 (c_Model_isRun  h) rfl ⟨Nat.le_of_ble_eq_true rfl, Nat.le_of_ble_eq_true rfl⟩ ⟨Nat.le_refl 0, Nat.le_refl 0⟩ rfl (Nat.le_of_ble_eq_true rfl) dX11_over_1) hW (fun zr2 zm1 H locs h hW => ?_)
    refine lv_if_eq (tgt := 23) hx hb dX11_over_4 rfl (fun c => ?_) (fun c => ?_)
    · replace h := h.1 c
      refine lv_iconst hx hb dX11_over_23 zc_im1 ?_
      exact zreti X hr hlk hW h dX11_over_24
    · replace h := h.2 c
      refine lv_iload_n hx hb dX11_over_7 rfl (lv_at hl 2 rfl) ?_
      refine lv_if_lt (tgt := 23) hx hb dX11_over_8 rfl (fun c => ?_) (fun c => ?_)
      · replace h := h.1 c
        refine lv_iconst hx hb dX11_over_23 zc_im1 ?_
        exact zreti X hr hlk hW h dX11_over_24
      · replace h := h.2 c
        refine lv_iload_n hx hb dX11_over_11 rfl (lv_at hl 3 rfl) ?_
        refine lv_i2l hx hb dX11_over_12 rfl ?_
        refine lv_lconst hx hb dX11_over_13 zc_l0 ?_
        refine lv_ldc2 hx hb X.2.2.1 (X.2.2.2.1 _ zu_1249) dX11_over_14 ?_
        refine zcalli (zrunS (As := [.long a3.toInt64, .long 0, .long 4]) (rest := []) X hml hl hW zk_Model_69 (c_Model_in  h) rfl ⟨Nat.le_of_ble_eq_true rfl, Nat.le_of_ble_eq_true rfl⟩ ⟨Nat.le_refl 0, Nat.le_refl 0⟩ rfl (Nat.le_of_ble_eq_true rfl) dX11_over_17) hW (fun zr4 zm3 H locs h hW => ?_)
        refine lv_if_ne (tgt := 25) hx hb dX11_over_20 rfl (fun c => ?_) (fun c => ?_)
        · replace h := h.1 c
          refine lv_aload_n hx hb dX11_over_25 rfl (lv_at hl 0 rfl) ?_
          refine zcallv (zrunV (As := []) (rest := []) X hml hl hW h0.1 rfl zk_Model_243 (c_Model_asNumbered h0 h) rfl ⟨Nat.le_of_ble_eq_true rfl, Nat.le_of_ble_eq_true rfl⟩ ⟨Nat.le_refl 0, Nat.le_refl 0⟩ rfl (Nat.le_of_ble_eq_true rfl) dX11_over_26) hW (fun zm5 H locs h hW => ?_)
          refine lv_aload_n hx hb dX11_over_29 rfl (lv_at hl 0 rfl) ?_
          refine lv_iload_n hx hb dX11_over_30 rfl (lv_at hl 1 rfl) ?_
          refine lv_iconst hx hb dX11_over_31 zc_i0 ?_
          refine zcallv (zrunV (As := [.int a1, .int 0]) (rest := []) X hml hl hW h0.1 rfl zk_Model_282 (c_Model_runs h0 h) rfl ⟨Nat.le_of_ble_eq_true rfl, Nat.le_of_ble_eq_true rfl⟩ ⟨Nat.le_refl 0, Nat.le_refl 0⟩ rfl (Nat.le_of_ble_eq_true rfl) dX11_over_32) hW (fun zm7 H locs h hW => ?_)
          refine lv_iload_n hx hb dX11_over_35 rfl (lv_at hl 2 rfl) ?_
          refine lv_aload_n hx hb dX11_over_36 rfl (lv_at hl 0 rfl) ?_
          refine zcalli (zrunV (As := []) (rest := [.int a2]) X hml hl hW h0.1 rfl zk_Model_286 (c_Model_oversKept h0 h) rfl ⟨Nat.le_of_ble_eq_true rfl, Nat.le_of_ble_eq_true rfl⟩ ⟨Nat.le_refl 0, Nat.le_refl 0⟩ rfl (Nat.le_of_ble_eq_true rfl) dX11_over_37) hW (fun zr10 zm9 H locs h hW => ?_)
          refine lv_icmp_ge (tgt := 56) hx hb dX11_over_40 rfl (fun c => ?_) (fun c => ?_)
          · replace h := h.1 c
            refine lv_iconst hx hb dX11_over_56 zc_im1 ?_
            exact zreti X hr hlk hW h dX11_over_57
          · replace h := h.2 c
            refine lv_aload_n hx hb dX11_over_43 rfl (lv_at hl 0 rfl) ?_
            refine zg_Model_overs X hW h0 zu_1042 dX11_over_44 ?_
            refine lv_iconst hx hb dX11_over_47 zc_i5 ?_
            refine lv_iload_n hx hb dX11_over_48 rfl (lv_at hl 2 rfl) ?_
            refine lv_imul hx hb dX11_over_49 ?_
            refine lv_iload_n hx hb dX11_over_50 rfl (lv_at hl 3 rfl) ?_
            refine lv_iadd hx hb dX11_over_51 ?_
            obtain ⟨g, h⟩ := h
            refine ziald X hW h0.2.2.2.2.2.2.2.2.2.1 g dX11_over_52 ?_
            refine lv_goto (tgt := 57) hx hb dX11_over_53 rfl ?_
            exact zreti X hr hlk hW h dX11_over_57
        · replace h := h.2 c
          refine lv_iconst hx hb dX11_over_23 zc_im1 ?_
          exact zreti X hr hlk hW h dX11_over_24
  exact zMain s.heap [] ls hW hl
