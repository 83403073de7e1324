def wpJ_Model_least_45 (a1 : Int32)  (J : Int32 → Int32 → zMem → Prop) (Q : Int32 → zMem → Prop) (x_2 : Int32) (x_3 : Int32) (s_0 : Int32) (M : zMem) : Prop :=
  (s_0 ≤ 0 → ∀ zx5 : Int32, zx5 = x_3 + 1 → J x_2 zx5 M) ∧ (¬ s_0 ≤ 0 → (x_2 = 0 → ∀ zx6 : Int32, zx6 = x_3 + 1 → J s_0 zx6 M) ∧ (¬ x_2 = 0 → (x_2 ≤ s_0 → ∀ zx7 : Int32, zx7 = x_3 + 1 → J x_2 zx7 M) ∧ (¬ x_2 ≤ s_0 → ∀ zx8 : Int32, zx8 = x_3 + 1 → J s_0 zx8 M)))
def wpJ_Model_least_34 (a1 : Int32)  (J : Int32 → Int32 → zMem → Prop) (Q : Int32 → zMem → Prop) (x_2 : Int32) (x_3 : Int32)  (M : zMem) : Prop :=
  wp_Model_at a1 x_3 1 M (fun zr4 zm3 => wpJ_Model_least_45 a1 J Q x_2 x_3 zr4 zm3)
def wpB_Model_least_4 (a1 : Int32)   (Q : Int32 → zMem → Prop) (J : Int32 → Int32 → zMem → Prop) (x_2 : Int32) (x_3 : Int32) (M : zMem) : Prop :=
  ((M 0 18) ≤ x_3 → Q x_2 M) ∧ (¬ (M 0 18) ≤ x_3 → wp_Model_at a1 x_3 0 M (fun zr2 zm1 => (zr2 = 3 → wpJ_Model_least_34 a1 J Q x_2 x_3 zm1) ∧ (¬ zr2 = 3 → wp_Model_at a1 x_3 0 zm1 (fun zr10 zm9 => (¬ zr10 = 1 → wpJ_Model_least_45 a1 J Q x_2 x_3 0 zm9) ∧ (zr10 = 1 → wpJ_Model_least_34 a1 J Q x_2 x_3 zm9)))))
def wp_Model_least (a1 : Int32) (M : zMem) (Q : Int32 → zMem → Prop) : Prop :=
  ∃ n : Nat, zlp2 (wpB_Model_least_4 a1   Q) n 0 0 M
set_option maxHeartbeats 4000000 in
set_option maxRecDepth 20000 in
theorem c_Model_least {l : Launch} {w : zWd} {a1 : Int32} {M : zMem} {post : Int32 → zMem → Prop} (h0 : zI_Model w) (h : wp_Model_least a1 M post) : zMi l ⟨"HandToHandModel", "least", "(I)I"⟩ prog_13_method_46_code 5 (Option.some .int) 2 48 w [.ref (zad w 0), .int a1] M post := by
  refine zMet (by decide) (Nat.le_of_ble_eq_true rfl) ?_
  intro p e s m below meth c X hr hlk hml hW ls hl
  have hx := X.1
  have hb := X.2.1
  have hl : lv_has ls 5 [(0, .ref (zad w 0)), (1, .int a1)] := hl
  have zJ_45 : ∀ (x_2 : Int32) (x_3 : Int32) (s_0 : Int32) (J : Int32 → Int32 → zMem → Prop) (zJ : ∀ (y_2 : Int32) (y_3 : Int32) (M : zMem) (H : Heap) (locs : List Loc) (ls : Array Slot), zWo w s.heap M H locs → lv_has ls 5 [(0, .ref (zad w 0)), (1, .int a1), (2, .int y_2), (3, .int y_3)] → J y_2 y_3 M → W p l e (zRm 2 48) s m ([.ref (zad w 0), .int a1] : List Value).toArray below meth c H locs 0 0 (MQ below (va_Qi post (zB w) (zA w)) ([.ref (zad w 0), .int a1] : List Value).toArray s 0 0 (zA w)) (F0 m 4 ls [])) (M : zMem) (H : Heap) (locs : List Loc) (ls : Array Slot), zWo w s.heap M H locs → lv_has ls 5 [(0, .ref (zad w 0)), (1, .int a1), (2, .int x_2), (3, .int x_3)] → wpJ_Model_least_45 a1 J post x_2 x_3 s_0 M → W p l e (zRm 2 48) s m ([.ref (zad w 0), .int a1] : List Value).toArray below meth c H locs 0 0 (MQ below (va_Qi post (zB w) (zA w)) ([.ref (zad w 0), .int a1] : List Value).toArray s 0 0 (zA w)) (F0 m 45 ls [.int s_0]) := by
    intro x_2 x_3 s_0 J zJ M H locs ls hW hl h
    unfold wpJ_Model_least_45 at h
    refine lv_istore (lv' := [(4, .int s_0), (0, .ref (zad w 0)), (1, .int a1), (2, .int x_2), (3, .int x_3)]) hx hb dX11_least_45 hl (Nat.le_of_ble_eq_true rfl) rfl (fun ls hl => ?_)
    refine lv_iload hx hb dX11_least_47 (lv_at hl 0 rfl) ?_
    refine lv_if_le (tgt := 67) hx hb dX11_least_49 rfl (fun c => ?_) (fun c => ?_)
    · replace h := h.1 c
      refine lv_iload_n hx hb dX11_least_67 rfl (lv_at hl 3 rfl) ?_
      refine lv_istore_n (lv' := [(2, .int x_2), (4, .int s_0), (0, .ref (zad w 0)), (1, .int a1), (3, .int x_3)]) hx hb dX11_least_68 rfl hl (Nat.le_of_ble_eq_true rfl) rfl (fun ls hl => ?_)
      obtain ⟨zx5, ezx5⟩ : ∃ y : Int32, y = x_3 + 1 := ⟨_, rfl⟩
      replace h := h zx5 ezx5
      refine lv_iinc (v := zx5) (lv' := [(3, .int zx5), (2, .int x_2), (4, .int s_0), (0, .ref (zad w 0)), (1, .int a1)]) hx hb dX11_least_69 hl (k := 4) rfl (by rw [ezx5, zc_i1]) (Nat.le_of_ble_eq_true rfl) rfl (fun ls hl => ?_)
      refine lv_goto (tgt := 4) hx hb dX11_least_72 rfl ?_
      exact zJ x_2 zx5 M H locs ls hW (lv_sub hl [3, 4, 1, 0] rfl) h
    · replace h := h.2 c
      refine lv_iload_n hx hb dX11_least_52 rfl (lv_at hl 3 rfl) ?_
      refine lv_if_eq (tgt := 62) hx hb dX11_least_53 rfl (fun c => ?_) (fun c => ?_)
      · replace h := h.1 c
        refine lv_iload hx hb dX11_least_62 (lv_at hl 0 rfl) ?_
        refine lv_goto (tgt := 68) hx hb dX11_least_64 rfl ?_
        refine lv_istore_n (lv' := [(2, .int s_0), (4, .int s_0), (0, .ref (zad w 0)), (1, .int a1), (3, .int x_3)]) hx hb dX11_least_68 rfl hl (Nat.le_of_ble_eq_true rfl) rfl (fun ls hl => ?_)
        obtain ⟨zx6, ezx6⟩ : ∃ y : Int32, y = x_3 + 1 := ⟨_, rfl⟩
        replace h := h zx6 ezx6
        refine lv_iinc (v := zx6) (lv' := [(3, .int zx6), (2, .int s_0), (4, .int s_0), (0, .ref (zad w 0)), (1, .int a1)]) hx hb dX11_least_69 hl (k := 4) rfl (by rw [ezx6, zc_i1]) (Nat.le_of_ble_eq_true rfl) rfl (fun ls hl => ?_)
        refine lv_goto (tgt := 4) hx hb dX11_least_72 rfl ?_
        exact zJ s_0 zx6 M H locs ls hW (lv_sub hl [3, 4, 1, 0] rfl) h
      · replace h := h.2 c
        refine lv_iload hx hb dX11_least_56 (lv_at hl 0 rfl) ?_
        refine lv_iload_n hx hb dX11_least_58 rfl (lv_at hl 3 rfl) ?_
        refine lv_icmp_ge (tgt := 67) hx hb dX11_least_59 rfl (fun c => ?_) (fun c => ?_)
        · replace h := h.1 c
          refine lv_iload_n hx hb dX11_least_67 rfl (lv_at hl 3 rfl) ?_
          refine lv_istore_n (lv' := [(2, .int x_2), (4, .int s_0), (0, .ref (zad w 0)), (1, .int a1), (3, .int x_3)]) hx hb dX11_least_68 rfl hl (Nat.le_of_ble_eq_true rfl) rfl (fun ls hl => ?_)
          obtain ⟨zx7, ezx7⟩ : ∃ y : Int32, y = x_3 + 1 := ⟨_, rfl⟩
          replace h := h zx7 ezx7
          refine lv_iinc (v := zx7) (lv' := [(3, .int zx7), (2, .int x_2), (4, .int s_0), (0, .ref (zad w 0)), (1, .int a1)]) hx hb dX11_least_69 hl (k := 4) rfl (by rw [ezx7, zc_i1]) (Nat.le_of_ble_eq_true rfl) rfl (fun ls hl => ?_)
          refine lv_goto (tgt := 4) hx hb dX11_least_72 rfl ?_
          exact zJ x_2 zx7 M H locs ls hW (lv_sub hl [3, 4, 1, 0] rfl) h
        · replace h := h.2 c
          refine lv_iload hx hb dX11_least_62 (lv_at hl 0 rfl) ?_
          refine lv_goto (tgt := 68) hx hb dX11_least_64 rfl ?_
          refine lv_istore_n (lv' := [(2, .int s_0), (4, .int s_0), (0, .ref (zad w 0)), (1, .int a1), (3, .int x_3)]) hx hb dX11_least_68 rfl hl (Nat.le_of_ble_eq_true rfl) rfl (fun ls hl => ?_)
          obtain ⟨zx8, ezx8⟩ : ∃ y : Int32, y = x_3 + 1 := ⟨_, rfl⟩
          replace h := h zx8 ezx8
          refine lv_iinc (v := zx8) (lv' := [(3, .int zx8), (2, .int s_0), (4, .int s_0), (0, .ref (zad w 0)), (1, .int a1)]) hx hb dX11_least_69 hl (k := 4) rfl (by rw [ezx8, zc_i1]) (Nat.le_of_ble_eq_true rfl) rfl (fun ls hl => ?_)
          refine lv_goto (tgt := 4) hx hb dX11_least_72 rfl ?_
          exact zJ s_0 zx8 M H locs ls hW (lv_sub hl [3, 4, 1, 0] rfl) h
  have zJ_34 : ∀ (x_2 : Int32) (x_3 : Int32) (J : Int32 → Int32 → zMem → Prop) (zJ : ∀ (y_2 : Int32) (y_3 : Int32) (M : zMem) (H : Heap) (locs : List Loc) (ls : Array Slot), zWo w s.heap M H locs → lv_has ls 5 [(0, .ref (zad w 0)), (1, .int a1), (2, .int y_2), (3, .int y_3)] → J y_2 y_3 M → W p l e (zRm 2 48) s m ([.ref (zad w 0), .int a1] : List Value).toArray below meth c H locs 0 0 (MQ below (va_Qi post (zB w) (zA w)) ([.ref (zad w 0), .int a1] : List Value).toArray s 0 0 (zA w)) (F0 m 4 ls [])) (M : zMem) (H : Heap) (locs : List Loc) (ls : Array Slot), zWo w s.heap M H locs → lv_has ls 5 [(0, .ref (zad w 0)), (1, .int a1), (2, .int x_2), (3, .int x_3)] → wpJ_Model_least_34 a1 J post x_2 x_3 M → W p l e (zRm 2 48) s m ([.ref (zad w 0), .int a1] : List Value).toArray below meth c H locs 0 0 (MQ below (va_Qi post (zB w) (zA w)) ([.ref (zad w 0), .int a1] : List Value).toArray s 0 0 (zA w)) (F0 m 34 ls []) := by
    intro x_2 x_3 J zJ M H locs ls hW hl h
    unfold wpJ_Model_least_34 at h
    refine lv_aload_n hx hb dX11_least_34 rfl (lv_at hl 0 rfl) ?_
    refine lv_iload_n hx hb dX11_least_35 rfl (lv_at hl 1 rfl) ?_
    refine lv_iload_n hx hb dX11_least_36 rfl (lv_at hl 3 rfl) ?_
    refine lv_iconst hx hb dX11_least_37 zc_i1 ?_
    refine zcalli (zrunV (As := [.int a1, .int x_3, .int 1]) (rest := []) X hml hl hW h0.1 rfl zk_Model_195 (c_Model_at h0 h) rfl ⟨Nat.le_of_ble_eq_true rfl, Nat.le_of_ble_eq_true rfl⟩ ⟨Nat.le_refl 0, Nat.le_refl 0⟩ rfl (Nat.le_of_ble_eq_true rfl) dX11_least_38) hW (fun zr4 zm3 H locs h hW => ?_)
    refine lv_goto (tgt := 45) hx hb dX11_least_41 rfl ?_
    exact zJ_45 x_2 x_3 zr4 _ zJ zm3 H locs ls hW (lv_sub hl [0, 1, 2, 3] rfl) h
  have zL_4 :  ∀ (n : Nat) (x_2 : Int32) (x_3 : Int32) (M : zMem) (H : Heap) (locs : List Loc) (ls : Array Slot), zWo w s.heap M H locs → lv_has ls 5 [(0, .ref (zad w 0)), (1, .int a1), (2, .int x_2), (3, .int x_3)] → zlp2 (wpB_Model_least_4 a1   post) n x_2 x_3 M → W p l e (zRm 2 48) s m ([.ref (zad w 0), .int a1] : List Value).toArray below meth c H locs 0 0 (MQ below (va_Qi post (zB w) (zA w)) ([.ref (zad w 0), .int a1] : List Value).toArray s 0 0 (zA w)) (F0 m 4 ls []) := by
    intro n
    induction n with
    | zero => intro x_2 x_3 M H locs ls hW hl h; exact h.elim
    | succ n zJ =>
      intro x_2 x_3 M H locs ls hW hl h
      have h : wpB_Model_least_4 a1   post (zlp2 (wpB_Model_least_4 a1   post) n) x_2 x_3 M := h
      unfold wpB_Model_least_4 at h
      refine lv_iload_n hx hb dX11_least_4 rfl (lv_at hl 3 rfl) ?_
      refine lv_aload_n hx hb dX11_least_5 rfl (lv_at hl 0 rfl) ?_
      refine zg_Model_many X hW h0 zu_1038 dX11_least_6 ?_
      refine lv_icmp_ge (tgt := 75) hx hb dX11_least_9 rfl (fun c => ?_) (fun c => ?_)
      · replace h := h.1 c
        refine lv_iload_n hx hb dX11_least_75 rfl (lv_at hl 2 rfl) ?_
        exact zreti X hr hlk hW h dX11_least_76
      · replace h := h.2 c
        refine lv_aload_n hx hb dX11_least_12 rfl (lv_at hl 0 rfl) ?_
        refine lv_iload_n hx hb dX11_least_13 rfl (lv_at hl 1 rfl) ?_
        refine lv_iload_n hx hb dX11_least_14 rfl (lv_at hl 3 rfl) ?_
        refine lv_iconst hx hb dX11_least_15 zc_i0 ?_
        refine zcalli (zrunV (As := [.int a1, .int x_3, .int 0]) (rest := []) X hml hl hW h0.1 rfl zk_Model_195 (c_Model_at h0 h) rfl ⟨Nat.le_of_ble_eq_true rfl, Nat.le_of_ble_eq_true rfl⟩ ⟨Nat.le_refl 0, Nat.le_refl 0⟩ rfl (Nat.le_of_ble_eq_true rfl) dX11_least_16) hW (fun zr2 zm1 H locs h hW => ?_)
        refine lv_iconst hx hb dX11_least_19 zc_i3 ?_
        refine lv_icmp_eq (tgt := 34) hx hb dX11_least_20 rfl (fun c => ?_) (fun c => ?_)
        · replace h := h.1 c
          exact zJ_34 x_2 x_3 _ zJ zm1 H locs ls hW (lv_sub hl [0, 1, 2, 3] rfl) h
        · replace h := h.2 c
          refine lv_aload_n hx hb dX11_least_23 rfl (lv_at hl 0 rfl) ?_
          refine lv_iload_n hx hb dX11_least_24 rfl (lv_at hl 1 rfl) ?_
          refine lv_iload_n hx hb dX11_least_25 rfl (lv_at hl 3 rfl) ?_
          refine lv_iconst hx hb dX11_least_26 zc_i0 ?_
          refine zcalli (zrunV (As := [.int a1, .int x_3, .int 0]) (rest := []) X hml hl hW h0.1 rfl zk_Model_195 (c_Model_at h0 h) rfl ⟨Nat.le_of_ble_eq_true rfl, Nat.le_of_ble_eq_true rfl⟩ ⟨Nat.le_refl 0, Nat.le_refl 0⟩ rfl (Nat.le_of_ble_eq_true rfl) dX11_least_27) hW (fun zr10 zm9 H locs h hW => ?_)
          refine lv_iconst hx hb dX11_least_30 zc_i1 ?_
          refine lv_icmp_ne (tgt := 44) hx hb dX11_least_31 rfl (fun c => ?_) (fun c => ?_)
          · replace h := h.1 c
            refine lv_iconst hx hb dX11_least_44 zc_i0 ?_
            exact zJ_45 x_2 x_3 0 _ zJ zm9 H locs ls hW (lv_sub hl [0, 1, 2, 3] rfl) h
          · replace h := h.2 c
            exact zJ_34 x_2 x_3 _ zJ zm9 H locs ls hW (lv_sub hl [0, 1, 2, 3] rfl) h
  unfold wp_Model_least at h
  have zMain : ∀ (H : Heap) (locs : List Loc) (ls : Array Slot), zWo w s.heap M H locs → lv_has ls 5 [(0, .ref (zad w 0)), (1, .int a1)] → W p l e (zRm 2 48) s m ([.ref (zad w 0), .int a1] : List Value).toArray below meth c H locs 0 0 (MQ below (va_Qi post (zB w) (zA w)) ([.ref (zad w 0), .int a1] : List Value).toArray s 0 0 (zA w)) (F0 m 0 ls []) := by
    intro H locs ls hW hl
    refine lv_iconst hx hb dX11_least_0 zc_i0 ?_
    refine lv_istore_n (lv' := [(2, .int 0), (0, .ref (zad w 0)), (1, .int a1)]) hx hb dX11_least_1 rfl hl (Nat.le_of_ble_eq_true rfl) rfl (fun ls hl => ?_)
    refine lv_iconst hx hb dX11_least_2 zc_i0 ?_
    refine lv_istore_n (lv' := [(3, .int 0), (2, .int 0), (0, .ref (zad w 0)), (1, .int a1)]) hx hb dX11_least_3 rfl hl (Nat.le_of_ble_eq_true rfl) rfl (fun ls hl => ?_)
    obtain ⟨n, h⟩ := h
    refine zL_4   n 0 0 M H locs ls hW (lv_sub hl [2, 3, 1, 0] rfl) h
  exact zMain s.heap [] ls hW hl
def wpB_Model_settle_15 (a1 : Int32)  (K44 : Int32 → zMem → Prop) (Q : zMem → Prop) (J : Int32 → Int32 → zMem → Prop) (x_2 : Int32) (x_3 : Int32) (M : zMem) : Prop :=
  (x_3 < 0 → K44 x_2 M) ∧ (¬ x_3 < 0 → wp_Model_does a1 x_3 M (fun zr3 zm2 => (¬ zr3 = 0 → ∀ zx4 : Int32, zx4 = x_3 + (-1) → J 1 zx4 zm2) ∧ (zr3 = 0 → (x_2 = 0 → ∀ zx5 : Int32, zx5 = x_3 + (-1) → J 0 zx5 zm2) ∧ (¬ x_2 = 0 → ∀ zx6 : Int32, zx6 = x_3 + (-1) → J 1 zx6 zm2))))
def wpB_Model_settle_2 (a1 : Int32)  (K47 : zMem → Prop) (Q : zMem → Prop) (J : Int32 → zMem → Prop) (x_2 : Int32) (M : zMem) : Prop :=
  (x_2 = 0 → K47 M) ∧ (¬ x_2 = 0 → ∀ zx1 : Int32, zx1 = (M 0 18) - 1 → ∃ n : Nat, zlp2 (wpB_Model_settle_15 a1  (fun (zx8 : Int32) (zm7 : zMem) => J zx8 zm7) Q) n 0 zx1 M)
def wp_Model_settle (a1 : Int32) (M : zMem) (Q : zMem → Prop) : Prop :=
  ∃ n : Nat, zlp1 (wpB_Model_settle_2 a1  (fun (zm9 : zMem) => wp_Model_least a1 zm9 (fun zr11 zm10 => (¬ zr11 = 0 → vp_in ((96 * a1) + 3) 384 ∧ ∀ zm12 : zMem, zm12 = zup zm10 6 (ix ((96 * a1) + 3)) 0 → Q zm12) ∧ (zr11 = 0 → vp_in ((96 * a1) + 3) 384 ∧ ∀ zm13 : zMem, zm13 = zup zm10 6 (ix ((96 * a1) + 3)) 1 → Q zm13))) Q) n 1 M
set_option maxHeartbeats 4000000 in
set_option maxRecDepth 20000 in
theorem c_Model_settle {l : Launch} {w : zWd} {a1 : Int32} {M : zMem} {post : zMem → Prop} (h0 : zI_Model w) (h : wp_Model_settle a1 M post) : zMv l ⟨"HandToHandModel", "settle", "(I)V"⟩ prog_13_method_45_code 4 none 6 144 w [.ref (zad w 0), .int a1] M post := by
  refine zMet (by decide) (Nat.le_of_ble_eq_true rfl) ?_
  intro p e s m below meth c X hr hlk hml hW ls hl
  have hx := X.1
  have hb := X.2.1
  have hl : lv_has ls 4 [(0, .ref (zad w 0)), (1, .int a1)] := hl
  have zL_15 : ∀ (K44 : Int32 → zMem → Prop) (zK44 : ∀ (y_2 : Int32) (M : zMem) (H : Heap) (locs : List Loc) (ls : Array Slot), zWo w s.heap M H locs → lv_has ls 4 [(0, .ref (zad w 0)), (1, .int a1), (2, .int y_2)] → K44 y_2 M → W p l e (zRm 6 144) s m ([.ref (zad w 0), .int a1] : List Value).toArray below meth c H locs 0 0 (MQ below (va_Qv post (zB w) (zA w)) ([.ref (zad w 0), .int a1] : List Value).toArray s 0 0 (zA w)) (F0 m 44 ls [])), ∀ (n : Nat) (x_2 : Int32) (x_3 : Int32) (M : zMem) (H : Heap) (locs : List Loc) (ls : Array Slot), zWo w s.heap M H locs → lv_has ls 4 [(0, .ref (zad w 0)), (1, .int a1), (2, .int x_2), (3, .int x_3)] → zlp2 (wpB_Model_settle_15 a1  K44 post) n x_2 x_3 M → W p l e (zRm 6 144) s m ([.ref (zad w 0), .int a1] : List Value).toArray below meth c H locs 0 0 (MQ below (va_Qv post (zB w) (zA w)) ([.ref (zad w 0), .int a1] : List Value).toArray s 0 0 (zA w)) (F0 m 15 ls []) := by
    intro K44 zK44 n
    induction n with
    | zero => intro x_2 x_3 M H locs ls hW hl h; exact h.elim
    | succ n zJ =>
      intro x_2 x_3 M H locs ls hW hl h
      have h : wpB_Model_settle_15 a1  K44 post (zlp2 (wpB_Model_settle_15 a1  K44 post) n) x_2 x_3 M := h
      unfold wpB_Model_settle_15 at h
      refine lv_iload_n hx hb dX11_settle_15 rfl (lv_at hl 3 rfl) ?_
      refine lv_if_lt (tgt := 44) hx hb dX11_settle_16 rfl (fun c => ?_) (fun c => ?_)
      · replace h := h.1 c
        exact zK44 x_2 M H locs ls hW (lv_sub hl [0, 1, 2] rfl) h
      · replace h := h.2 c
        refine lv_aload_n hx hb dX11_settle_19 rfl (lv_at hl 0 rfl) ?_
        refine lv_iload_n hx hb dX11_settle_20 rfl (lv_at hl 1 rfl) ?_
        refine lv_iload_n hx hb dX11_settle_21 rfl (lv_at hl 3 rfl) ?_
        refine zcalli (zrunV (As := [.int a1, .int x_3]) (rest := []) X hml hl hW h0.1 rfl zk_Model_234 (c_Model_does h0 h) rfl ⟨Nat.le_of_ble_eq_true rfl, Nat.le_of_ble_eq_true rfl⟩ ⟨Nat.le_refl 0, Nat.le_refl 0⟩ rfl (Nat.le_of_ble_eq_true rfl) dX11_settle_22) hW (fun zr3 zm2 H locs h hW => ?_)
        refine lv_if_ne (tgt := 32) hx hb dX11_settle_25 rfl (fun c => ?_) (fun c => ?_)
        · replace h := h.1 c
          refine lv_iconst hx hb dX11_settle_32 zc_i1 ?_
          refine lv_goto (tgt := 37) hx hb dX11_settle_33 rfl ?_
          refine lv_istore_n (lv' := [(2, .int 1), (0, .ref (zad w 0)), (1, .int a1), (3, .int x_3)]) hx hb dX11_settle_37 rfl hl (Nat.le_of_ble_eq_true rfl) rfl (fun ls hl => ?_)
          obtain ⟨zx4, ezx4⟩ : ∃ y : Int32, y = x_3 + (-1) := ⟨_, rfl⟩
          replace h := h zx4 ezx4
          refine lv_iinc (v := zx4) (lv' := [(3, .int zx4), (2, .int 1), (0, .ref (zad w 0)), (1, .int a1)]) hx hb dX11_settle_38 hl (k := 3) rfl (by rw [ezx4, zc_im1]) (Nat.le_of_ble_eq_true rfl) rfl (fun ls hl => ?_)
          refine lv_goto (tgt := 15) hx hb dX11_settle_41 rfl ?_
          exact zJ 1 zx4 zm2 H locs ls hW (lv_sub hl [2, 3, 1, 0] rfl) h
        · replace h := h.2 c
          refine lv_iload_n hx hb dX11_settle_28 rfl (lv_at hl 2 rfl) ?_
          refine lv_if_eq (tgt := 36) hx hb dX11_settle_29 rfl (fun c => ?_) (fun c => ?_)
          · replace h := h.1 c
            refine lv_iconst hx hb dX11_settle_36 zc_i0 ?_
            refine lv_istore_n (lv' := [(2, .int 0), (0, .ref (zad w 0)), (1, .int a1), (3, .int x_3)]) hx hb dX11_settle_37 rfl hl (Nat.le_of_ble_eq_true rfl) rfl (fun ls hl => ?_)
            obtain ⟨zx5, ezx5⟩ : ∃ y : Int32, y = x_3 + (-1) := ⟨_, rfl⟩
            replace h := h zx5 ezx5
            refine lv_iinc (v := zx5) (lv' := [(3, .int zx5), (2, .int 0), (0, .ref (zad w 0)), (1, .int a1)]) hx hb dX11_settle_38 hl (k := 3) rfl (by rw [ezx5, zc_im1]) (Nat.le_of_ble_eq_true rfl) rfl (fun ls hl => ?_)
            refine lv_goto (tgt := 15) hx hb dX11_settle_41 rfl ?_
            exact zJ 0 zx5 zm2 H locs ls hW (lv_sub hl [2, 3, 1, 0] rfl) h
          · replace h := h.2 c
            refine lv_iconst hx hb dX11_settle_32 zc_i1 ?_
            refine lv_goto (tgt := 37) hx hb dX11_settle_33 rfl ?_
            refine lv_istore_n (lv' := [(2, .int 1), (0, .ref (zad w 0)), (1, .int a1), (3, .int x_3)]) hx hb dX11_settle_37 rfl hl (Nat.le_of_ble_eq_true rfl) rfl (fun ls hl => ?_)
            obtain ⟨zx6, ezx6⟩ : ∃ y : Int32, y = x_3 + (-1) := ⟨_, rfl⟩
            replace h := h zx6 ezx6
            refine lv_iinc (v := zx6) (lv' := [(3, .int zx6), (2, .int 1), (0, .ref (zad w 0)), (1, .int a1)]) hx hb dX11_settle_38 hl (k := 3) rfl (by rw [ezx6, zc_im1]) (Nat.le_of_ble_eq_true rfl) rfl (fun ls hl => ?_)
            refine lv_goto (tgt := 15) hx hb dX11_settle_41 rfl ?_
            exact zJ 1 zx6 zm2 H locs ls hW (lv_sub hl [2, 3, 1, 0] rfl) h
  have zL_2 : ∀ (K47 : zMem → Prop) (zK47 : ∀ (M : zMem) (H : Heap) (locs : List Loc) (ls : Array Slot), zWo w s.heap M H locs → lv_has ls 4 [(0, .ref (zad w 0)), (1, .int a1)] → K47 M → W p l e (zRm 6 144) s m ([.ref (zad w 0), .int a1] : List Value).toArray below meth c H locs 0 0 (MQ below (va_Qv post (zB w) (zA w)) ([.ref (zad w 0), .int a1] : List Value).toArray s 0 0 (zA w)) (F0 m 47 ls [])), ∀ (n : Nat) (x_2 : Int32) (M : zMem) (H : Heap) (locs : List Loc) (ls : Array Slot), zWo w s.heap M H locs → lv_has ls 4 [(0, .ref (zad w 0)), (1, .int a1), (2, .int x_2)] → zlp1 (wpB_Model_settle_2 a1  K47 post) n x_2 M → W p l e (zRm 6 144) s m ([.ref (zad w 0), .int a1] : List Value).toArray below meth c H locs 0 0 (MQ below (va_Qv post (zB w) (zA w)) ([.ref (zad w 0), .int a1] : List Value).toArray s 0 0 (zA w)) (F0 m 2 ls []) := by
    intro K47 zK47 n
    induction n with
    | zero => intro x_2 M H locs ls hW hl h; exact h.elim
    | succ n zJ =>
      intro x_2 M H locs ls hW hl h
      have h : wpB_Model_settle_2 a1  K47 post (zlp1 (wpB_Model_settle_2 a1  K47 post) n) x_2 M := h
      unfold wpB_Model_settle_2 at h
      refine lv_iload_n hx hb dX11_settle_2 rfl (lv_at hl 2 rfl) ?_
      refine lv_if_eq (tgt := 47) hx hb dX11_settle_3 rfl (fun c => ?_) (fun c => ?_)
      · replace h := h.1 c
        exact zK47 M H locs ls hW (lv_sub hl [0, 1] rfl) h
      · replace h := h.2 c
        refine lv_iconst hx hb dX11_settle_6 zc_i0 ?_
        refine lv_istore_n (lv' := [(2, .int 0), (0, .ref (zad w 0)), (1, .int a1)]) hx hb dX11_settle_7 rfl hl (Nat.le_of_ble_eq_true rfl) rfl (fun ls hl => ?_)
        refine lv_aload_n hx hb dX11_settle_8 rfl (lv_at hl 1 rfl) ?_
        refine zg_Model_many X hW h0 zu_1038 dX11_settle_9 ?_
        refine lv_iconst hx hb dX11_settle_12 zc_i1 ?_
        refine lv_isub hx hb dX11_settle_13 ?_
        refine lv_topi (fun zx1 ezx1 => ?_)
        replace h := h zx1 ezx1
        refine lv_istore_n (lv' := [(3, .int zx1), (2, .int 0), (0, .ref (zad w 0)), (1, .int a1)]) hx hb dX11_settle_14 rfl hl (Nat.le_of_ble_eq_true rfl) rfl (fun ls hl => ?_)
        obtain ⟨n, h⟩ := h
        refine zL_15  _ (fun zx8 zm7 H locs ls hW hl h => ?_) n 0 zx1 M H locs ls hW (lv_sub hl [2, 3, 1, 0] rfl) h
        · skip
          refine lv_goto (tgt := 2) hx hb dX11_settle_44 rfl ?_
          exact zJ zx8 zm7 H locs ls hW (lv_sub hl [0, 1, 2] rfl) h
  unfold wp_Model_settle at h
  have zMain : ∀ (H : Heap) (locs : List Loc) (ls : Array Slot), zWo w s.heap M H locs → lv_has ls 4 [(0, .ref (zad w 0)), (1, .int a1)] → W p l e (zRm 6 144) s m ([.ref (zad w 0), .int a1] : List Value).toArray below meth c H locs 0 0 (MQ below (va_Qv post (zB w) (zA w)) ([.ref (zad w 0), .int a1] : List Value).toArray s 0 0 (zA w)) (F0 m 0 ls []) := by
    intro H locs ls hW hl
    refine lv_iconst hx hb dX11_settle_0 zc_i1 ?_
    refine lv_istore_n (lv' := [(2, .int 1), (0, .ref (zad w 0)), (1, .int a1)]) hx hb dX11_settle_1 rfl hl (Nat.le_of_ble_eq_true rfl) rfl (fun ls hl => ?_)
    obtain ⟨n, h⟩ := h
    refine zL_2  _ (fun  zm9 H locs ls hW hl h => ?_) n 1 M H locs ls hW (lv_sub hl [1, 2, 0] rfl) h
    · skip
      refine lv_aload_n hx hb dX11_settle_47 rfl (lv_at hl 0 rfl) ?_
      refine zg_Model_bench X hW h0 zu_1036 dX11_settle_48 ?_
      refine lv_bipush hx hb dX11_settle_51 zc_b96 ?_
      refine lv_iload_n hx hb dX11_settle_53 rfl (lv_at hl 1 rfl) ?_
      refine lv_imul hx hb dX11_settle_54 ?_
      refine lv_iconst hx hb dX11_settle_55 zc_i3 ?_
      refine lv_iadd hx hb dX11_settle_56 ?_
      refine lv_aload_n hx hb dX11_settle_57 rfl (lv_at hl 0 rfl) ?_
      refine lv_iload_n hx hb dX11_settle_58 rfl (lv_at hl 1 rfl) ?_
      refine zcalli (zrunV (As := [.int a1]) (rest := [.int ((96 * a1) + 3), .ref (zad w 6)]) X hml hl hW h0.1 rfl zk_Model_237 (c_Model_least h0 h) rfl ⟨Nat.le_of_ble_eq_true rfl, Nat.le_of_ble_eq_true rfl⟩ ⟨Nat.le_refl 0, Nat.le_refl 0⟩ rfl (Nat.le_of_ble_eq_true rfl) dX11_settle_59) hW (fun zr11 zm10 H locs h hW => ?_)
      refine lv_if_ne (tgt := 69) hx hb dX11_settle_62 rfl (fun c => ?_) (fun c => ?_)
      · replace h := h.1 c
        refine lv_iconst hx hb dX11_settle_69 zc_i0 ?_
        obtain ⟨g, h⟩ := h
        refine ziast X hW h0.2.2.2.2.2.2.1 g dX11_settle_70 (fun H locs zm12 ezm12 hW => ?_)
        replace h := h zm12 ezm12
        exact zretv X hr hlk hW h dX11_settle_71
      · replace h := h.2 c
        refine lv_iconst hx hb dX11_settle_65 zc_i1 ?_
        refine lv_goto (tgt := 70) hx hb dX11_settle_66 rfl ?_
        obtain ⟨g, h⟩ := h
        refine ziast X hW h0.2.2.2.2.2.2.1 g dX11_settle_70 (fun H locs zm13 ezm13 hW => ?_)
        replace h := h zm13 ezm13
        exact zretv X hr hlk hW h dX11_settle_71
  exact zMain s.heap [] ls hW hl
def wp_Model_awake  (M : zMem) (Q : zMem → Prop) : Prop :=
  (¬ (M 0 24) = 0 → Q M) ∧ ((M 0 24) = 0 → wp_Model_asNumbered M (fun zm1 => wp_Model_settle 0 zm1 (fun zm3 => ∀ zm5 : zMem, zm5 = zup zm3 0 24 1 → Q zm5)))
set_option maxHeartbeats 4000000 in
set_option maxRecDepth 20000 in
theorem c_Model_awake {l : Launch} {w : zWd} {M : zMem} {post : zMem → Prop} (h0 : zI_Model w) (h : wp_Model_awake  M post) : zMv l ⟨"HandToHandModel", "awake", "()V"⟩ prog_13_method_48_code 1 none 7 167 w [.ref (zad w 0)] M post := by
  refine zMet (by decide) (Nat.le_of_ble_eq_true rfl) ?_
  intro p e s m below meth c X hr hlk hml hW ls hl
  have hx := X.1
  have hb := X.2.1
  have hl : lv_has ls 1 [(0, .ref (zad w 0))] := hl
  unfold wp_Model_awake at h
  have zMain : ∀ (H : Heap) (locs : List Loc) (ls : Array Slot), zWo w s.heap M H locs → lv_has ls 1 [(0, .ref (zad w 0))] → W p l e (zRm 7 167) s m ([.ref (zad w 0)] : List Value).toArray below meth c H locs 0 0 (MQ below (va_Qv post (zB w) (zA w)) ([.ref (zad w 0)] : List Value).toArray s 0 0 (zA w)) (F0 m 0 ls []) := by
    intro H locs ls hW hl
    refine lv_aload_n hx hb dX11_awake_0 rfl (lv_at hl 0 rfl) ?_
    refine zg_Model_isAwake X hW h0 zu_1044 dX11_awake_1 ?_
    refine lv_if_ne (tgt := 21) hx hb dX11_awake_4 rfl (fun c => ?_) (fun c => ?_)
    · replace h := h.1 c
      exact zretv X hr hlk hW h dX11_awake_21
    · replace h := h.2 c
      refine lv_aload_n hx hb dX11_awake_7 rfl (lv_at hl 0 rfl) ?_
      refine zcallv (zrunV (As := []) (rest := []) X hml hl hW h0.1 rfl zk_Model_243 (c_Model_asNumbered h0 h) rfl ⟨Nat.le_of_ble_eq_true rfl, Nat.le_of_ble_eq_true rfl⟩ ⟨Nat.le_refl 0, Nat.le_refl 0⟩ rfl (Nat.le_of_ble_eq_true rfl) dX11_awake_8) hW (fun zm1 H locs h hW => ?_)
      refine lv_aload_n hx hb dX11_awake_11 rfl (lv_at hl 0 rfl) ?_
      refine lv_iconst hx hb dX11_awake_12 zc_i0 ?_
      refine zcallv (zrunV (As := [.int 0]) (rest := []) X hml hl hW h0.1 rfl zk_Model_246 (c_Model_settle h0 h) rfl ⟨Nat.le_of_ble_eq_true rfl, Nat.le_of_ble_eq_true rfl⟩ ⟨Nat.le_refl 0, Nat.le_refl 0⟩ rfl (Nat.le_of_ble_eq_true rfl) dX11_awake_13) hW (fun zm3 H locs h hW => ?_)
      refine lv_aload_n hx hb dX11_awake_16 rfl (lv_at hl 0 rfl) ?_
      refine lv_iconst hx hb dX11_awake_17 zc_i1 ?_
      refine zp_Model_isAwake X hW h0 zbo_1 zu_1044 dX11_awake_18 (fun H locs zm5 ezm5 hW => ?_)
      replace h := h zm5 ezm5
      exact zretv X hr hlk hW h dX11_awake_21
  exact zMain s.heap [] ls hW hl
def wp_Model_beginAnew  (M : zMem) (Q : zMem → Prop) : Prop :=
  wp_Model_clear 0 M (fun zm1 => ∀ zm3 : zMem, zm3 = zup zm1 0 24 0 → wp_Model_awake zm3 (fun zm4 => Q zm4))
set_option maxHeartbeats 4000000 in
set_option maxRecDepth 20000 in
theorem c_Model_beginAnew {l : Launch} {w : zWd} {M : zMem} {post : zMem → Prop} (h0 : zI_Model w) (h : wp_Model_beginAnew  M post) : zMv l ⟨"HandToHandModel", "beginAnew", "()V"⟩ prog_13_method_49_code 1 none 8 187 w [.ref (zad w 0)] M post := by
  refine zMet (by decide) (Nat.le_of_ble_eq_true rfl) ?_
  intro p e s m below meth c X hr hlk hml hW ls hl
  have hx := X.1
  have hb := X.2.1
  have hl : lv_has ls 1 [(0, .ref (zad w 0))] := hl
  unfold wp_Model_beginAnew at h
  have zMain : ∀ (H : Heap) (locs : List Loc) (ls : Array Slot), zWo w s.heap M H locs → lv_has ls 1 [(0, .ref (zad w 0))] → W p l e (zRm 8 187) s m ([.ref (zad w 0)] : List Value).toArray below meth c H locs 0 0 (MQ below (va_Qv post (zB w) (zA w)) ([.ref (zad w 0)] : List Value).toArray s 0 0 (zA w)) (F0 m 0 ls []) := by
    intro H locs ls hW hl
    refine lv_aload_n hx hb dX11_beginAnew_0 rfl (lv_at hl 0 rfl) ?_
    refine lv_iconst hx hb dX11_beginAnew_1 zc_i0 ?_
    refine zcallv (zrunV (As := [.int 0]) (rest := []) X hml hl hW h0.1 rfl zk_Model_249 (c_Model_clear h0 h) rfl ⟨Nat.le_of_ble_eq_true rfl, Nat.le_of_ble_eq_true rfl⟩ ⟨Nat.le_refl 0, Nat.le_refl 0⟩ rfl (Nat.le_of_ble_eq_true rfl) dX11_beginAnew_2) hW (fun zm1 H locs h hW => ?_)
    refine lv_aload_n hx hb dX11_beginAnew_5 rfl (lv_at hl 0 rfl) ?_
    refine lv_iconst hx hb dX11_beginAnew_6 zc_i0 ?_
    refine zp_Model_isAwake X hW h0 zbo_0 zu_1044 dX11_beginAnew_7 (fun H locs zm3 ezm3 hW => ?_)
    replace h := h zm3 ezm3
    refine lv_aload_n hx hb dX11_beginAnew_10 rfl (lv_at hl 0 rfl) ?_
    refine zcallv (zrunV (As := []) (rest := []) X hml hl hW h0.1 rfl zk_Model_180 (c_Model_awake h0 h) rfl ⟨Nat.le_of_ble_eq_true rfl, Nat.le_of_ble_eq_true rfl⟩ ⟨Nat.le_refl 0, Nat.le_refl 0⟩ rfl (Nat.le_of_ble_eq_true rfl) dX11_beginAnew_11) hW (fun zm4 H locs h hW => ?_)
    exact zretv X hr hlk hW h dX11_beginAnew_14
  exact zMain s.heap [] ls hW hl
def wpB_Model_text_29  (x_1 : Int32) (K58 : zMem → Prop) (Q : Int32 → zMem → Prop) (J : Int32 → zMem → Prop) (x_2 : Int32) (M : zMem) : Prop :=
  (100 ≤ x_2 → K58 M) ∧ (¬ 100 ≤ x_2 → (¬ x_2 = 6 → vp_in x_2 100 ∧ ∀ zm6 : zMem, zm6 = zup M 5 (ix x_2) 0 → ∀ zx7 : Int32, zx7 = x_2 + 1 → J zx7 zm6) ∧ (x_2 = 6 → vp_in x_2 100 ∧ ∀ zm8 : zMem, zm8 = zup M 5 (ix x_2) 1 → ∀ zx9 : Int32, zx9 = x_2 + 1 → J zx9 zm8))
def wpB_Model_text_62   (K86 : Int32 → zMem → Prop) (Q : Int32 → zMem → Prop) (J : Int32 → zMem → Prop) (x_1 : Int32) (M : zMem) : Prop :=
  (¬ (M 0 3) = 0 → K86 x_1 M) ∧ ((M 0 3) = 0 → ((M 0 7) = 0 → K86 x_1 M) ∧ (¬ (M 0 7) = 0 → wp_Model_readLine M (fun zm13 => ∀ zx15 : Int32, zx15 = x_1 + 1 → J zx15 zm13)))
def wpB_Model_text_145  (x_1 : Int32) (K169 : zMem → Prop) (Q : Int32 → zMem → Prop) (J : Int32 → zMem → Prop) (x_2 : Int32) (M : zMem) : Prop :=
  (100 ≤ x_2 → K169 M) ∧ (¬ 100 ≤ x_2 → vp_in x_2 100 ∧ vp_in x_2 100 ∧ ∀ zm20 : zMem, zm20 = zup M 4 (ix x_2) (M 5 (ix x_2)) → ∀ zx21 : Int32, zx21 = x_2 + 1 → J zx21 zm20)
def wpJ_Model_text_115   (Q : Int32 → zMem → Prop) (x_1 : Int32)  (M : zMem) : Prop :=
  ∀ zm18 : zMem, zm18 = zup M 0 1 0 → ∀ zm19 : zMem, zm19 = zup zm18 0 2 (zm18 0 3) → ((zm19 0 3) ≤ 0 → ∃ n : Nat, zlp1 (wpB_Model_text_145  x_1 (fun (zm22 : zMem) => wp_Model_beginAnew zm22 (fun zm23 => vp_in 0 2 ∧ ∀ zm25 : zMem, zm25 = zup zm23 7 (ix 0) (vp_nar .boolean 0) → vp_in 1 2 ∧ ∀ zm26 : zMem, zm26 = zup zm25 7 (ix 1) (vp_nar .boolean 0) → Q x_1 zm26)) Q) n 0 zm19) ∧ (¬ (zm19 0 3) ≤ 0 → Q (((-10)) - (zm19 0 4)) zm19)
def wpJ_Model_text_86   (Q : Int32 → zMem → Prop) (x_1 : Int32)  (M : zMem) : Prop :=
  (¬ (M 0 3) = 0 → wpJ_Model_text_115  Q x_1 M) ∧ ((M 0 3) = 0 → ∀ zm27 : zMem, zm27 = zup M 0 6 (M 0 1) → wp_Model_wholeFault zm27 (fun zr29 zm28 => (zr29 ≤ 0 → wpJ_Model_text_115  Q x_1 zm28) ∧ (¬ zr29 ≤ 0 → wp_Model_fails zr29 zm28 (fun zm30 => wpJ_Model_text_115  Q x_1 zm30))))
def wp_Model_text  (M : zMem) (Q : Int32 → zMem → Prop) : Prop :=
  ∀ zm1 : zMem, zm1 = zup M 0 3 0 → ∀ zm2 : zMem, zm2 = zup zm1 0 5 0 → ∀ zm3 : zMem, zm3 = zup zm2 0 13 0 → ∀ zm4 : zMem, zm4 = zup zm3 0 14 0 → ∀ zm5 : zMem, zm5 = zup zm4 0 15 0 → ∃ n : Nat, zlp1 (wpB_Model_text_29  0 (fun (zm10 : zMem) => wp_Model_next zm10 (fun zm11 => ∃ n : Nat, zlp1 (wpB_Model_text_62   (fun (zx17 : Int32) (zm16 : zMem) => wpJ_Model_text_86  Q zx17 zm16) Q) n 0 zm11)) Q) n 0 zm5
set_option maxHeartbeats 4000000 in
set_option maxRecDepth 20000 in
theorem c_Model_text {l : Launch} {w : zWd} {M : zMem} {post : Int32 → zMem → Prop} (h0 : zI_Model w) (h : wp_Model_text  M post) : zMi l ⟨"HandToHandModel", "text", "()I"⟩ prog_13_method_20_code 3 (Option.some .int) 9 207 w [.ref (zad w 0)] M post := by
  refine zMet (by decide) (Nat.le_of_ble_eq_true rfl) ?_
  intro p e s m below meth c X hr hlk hml hW ls hl
  have hx := X.1
  have hb := X.2.1
  have hl : lv_has ls 3 [(0, .ref (zad w 0))] := hl
  have zL_29 : ∀ (x_1 : Int32) (K58 : zMem → Prop) (zK58 : ∀ (M : zMem) (H : Heap) (locs : List Loc) (ls : Array Slot), zWo w s.heap M H locs → lv_has ls 3 [(0, .ref (zad w 0)), (1, .int x_1)] → K58 M → W p l e (zRm 9 207) s m ([.ref (zad w 0)] : List Value).toArray below meth c H locs 0 0 (MQ below (va_Qi post (zB w) (zA w)) ([.ref (zad w 0)] : List Value).toArray s 0 0 (zA w)) (F0 m 58 ls [])), ∀ (n : Nat) (x_2 : Int32) (M : zMem) (H : Heap) (locs : List Loc) (ls : Array Slot), zWo w s.heap M H locs → lv_has ls 3 [(0, .ref (zad w 0)), (1, .int x_1), (2, .int x_2)] → zlp1 (wpB_Model_text_29  x_1 K58 post) n x_2 M → W p l e (zRm 9 207) s m ([.ref (zad w 0)] : List Value).toArray below meth c H locs 0 0 (MQ below (va_Qi post (zB w) (zA w)) ([.ref (zad w 0)] : List Value).toArray s 0 0 (zA w)) (F0 m 29 ls []) := by
    intro x_1 K58 zK58 n
    induction n with
    | zero => intro x_2 M H locs ls hW hl h; exact h.elim
    | succ n zJ =>
      intro x_2 M H locs ls hW hl h
      have h : wpB_Model_text_29  x_1 K58 post (zlp1 (wpB_Model_text_29  x_1 K58 post) n) x_2 M := h
      unfold wpB_Model_text_29 at h
      refine lv_iload_n hx hb dX11_text_29 rfl (lv_at hl 2 rfl) ?_
      refine lv_bipush hx hb dX11_text_30 zc_b100 ?_
      refine lv_icmp_ge (tgt := 58) hx hb dX11_text_32 rfl (fun c => ?_) (fun c => ?_)
      · replace h := h.1 c
        exact zK58 M H locs ls hW (lv_sub hl [0, 1] rfl) h
      · replace h := h.2 c
        refine lv_aload_n hx hb dX11_text_35 rfl (lv_at hl 0 rfl) ?_
        refine zg_Model_reads X hW h0 zu_1032 dX11_text_36 ?_
        refine lv_iload_n hx hb dX11_text_39 rfl (lv_at hl 2 rfl) ?_
        refine lv_iload_n hx hb dX11_text_40 rfl (lv_at hl 2 rfl) ?_
        refine lv_bipush hx hb dX11_text_41 zc_b6 ?_
        refine lv_icmp_ne (tgt := 50) hx hb dX11_text_43 rfl (fun c => ?_) (fun c => ?_)
        · replace h := h.1 c
          refine lv_iconst hx hb dX11_text_50 zc_i0 ?_
          obtain ⟨g, h⟩ := h
          refine ziast X hW h0.2.2.2.2.2.1 g dX11_text_51 (fun H locs zm6 ezm6 hW => ?_)
          replace h := h zm6 ezm6
          obtain ⟨zx7, ezx7⟩ : ∃ y : Int32, y = x_2 + 1 := ⟨_, rfl⟩
          replace h := h zx7 ezx7
          refine lv_iinc (v := zx7) (lv' := [(2, .int zx7), (0, .ref (zad w 0)), (1, .int x_1)]) hx hb dX11_text_52 hl (k := 2) rfl (by rw [ezx7, zc_i1]) (Nat.le_of_ble_eq_true rfl) rfl (fun ls hl => ?_)
          refine lv_goto (tgt := 29) hx hb dX11_text_55 rfl ?_
          exact zJ zx7 zm6 H locs ls hW (lv_sub hl [1, 2, 0] rfl) h
        · replace h := h.2 c
          refine lv_iconst hx hb dX11_text_46 zc_i1 ?_
          refine lv_goto (tgt := 51) hx hb dX11_text_47 rfl ?_
          obtain ⟨g, h⟩ := h
          refine ziast X hW h0.2.2.2.2.2.1 g dX11_text_51 (fun H locs zm8 ezm8 hW => ?_)
          replace h := h zm8 ezm8
          obtain ⟨zx9, ezx9⟩ : ∃ y : Int32, y = x_2 + 1 := ⟨_, rfl⟩
          replace h := h zx9 ezx9
          refine lv_iinc (v := zx9) (lv' := [(2, .int zx9), (0, .ref (zad w 0)), (1, .int x_1)]) hx hb dX11_text_52 hl (k := 2) rfl (by rw [ezx9, zc_i1]) (Nat.le_of_ble_eq_true rfl) rfl (fun ls hl => ?_)
          refine lv_goto (tgt := 29) hx hb dX11_text_55 rfl ?_
          exact zJ zx9 zm8 H locs ls hW (lv_sub hl [1, 2, 0] rfl) h
  have zL_62 : ∀ (K86 : Int32 → zMem → Prop) (zK86 : ∀ (y_1 : Int32) (M : zMem) (H : Heap) (locs : List Loc) (ls : Array Slot), zWo w s.heap M H locs → lv_has ls 3 [(0, .ref (zad w 0)), (1, .int y_1)] → K86 y_1 M → W p l e (zRm 9 207) s m ([.ref (zad w 0)] : List Value).toArray below meth c H locs 0 0 (MQ below (va_Qi post (zB w) (zA w)) ([.ref (zad w 0)] : List Value).toArray s 0 0 (zA w)) (F0 m 86 ls [])), ∀ (n : Nat) (x_1 : Int32) (M : zMem) (H : Heap) (locs : List Loc) (ls : Array Slot), zWo w s.heap M H locs → lv_has ls 3 [(0, .ref (zad w 0)), (1, .int x_1)] → zlp1 (wpB_Model_text_62   K86 post) n x_1 M → W p l e (zRm 9 207) s m ([.ref (zad w 0)] : List Value).toArray below meth c H locs 0 0 (MQ below (va_Qi post (zB w) (zA w)) ([.ref (zad w 0)] : List Value).toArray s 0 0 (zA w)) (F0 m 62 ls []) := by
    intro K86 zK86 n
    induction n with
    | zero => intro x_1 M H locs ls hW hl h; exact h.elim
    | succ n zJ =>
      intro x_1 M H locs ls hW hl h
      have h : wpB_Model_text_62   K86 post (zlp1 (wpB_Model_text_62   K86 post) n) x_1 M := h
      unfold wpB_Model_text_62 at h
      refine lv_aload_n hx hb dX11_text_62 rfl (lv_at hl 0 rfl) ?_
      refine zg_Model_wrong X hW h0 zu_1023 dX11_text_63 ?_
      refine lv_if_ne (tgt := 86) hx hb dX11_text_66 rfl (fun c => ?_) (fun c => ?_)
      · replace h := h.1 c
        exact zK86 x_1 M H locs ls hW (lv_sub hl [0, 1] rfl) h
      · replace h := h.2 c
        refine lv_aload_n hx hb dX11_text_69 rfl (lv_at hl 0 rfl) ?_
        refine zg_Model_token X hW h0 zu_1027 dX11_text_70 ?_
        refine lv_if_eq (tgt := 86) hx hb dX11_text_73 rfl (fun c => ?_) (fun c => ?_)
        · replace h := h.1 c
          exact zK86 x_1 M H locs ls hW (lv_sub hl [0, 1] rfl) h
        · replace h := h.2 c
          refine lv_aload_n hx hb dX11_text_76 rfl (lv_at hl 0 rfl) ?_
          refine zcallv (zrunV (As := []) (rest := []) X hml hl hW h0.1 rfl zk_Model_149 (c_Model_readLine h0 h) rfl ⟨Nat.le_of_ble_eq_true rfl, Nat.le_of_ble_eq_true rfl⟩ ⟨Nat.le_refl 0, Nat.le_refl 0⟩ rfl (Nat.le_of_ble_eq_true rfl) dX11_text_77) hW (fun zm13 H locs h hW => ?_)
          obtain ⟨zx15, ezx15⟩ : ∃ y : Int32, y = x_1 + 1 := ⟨_, rfl⟩
          replace h := h zx15 ezx15
          refine lv_iinc (v := zx15) (lv' := [(1, .int zx15), (0, .ref (zad w 0))]) hx hb dX11_text_80 hl (k := 1) rfl (by rw [ezx15, zc_i1]) (Nat.le_of_ble_eq_true rfl) rfl (fun ls hl => ?_)
          refine lv_goto (tgt := 62) hx hb dX11_text_83 rfl ?_
          exact zJ zx15 zm13 H locs ls hW (lv_sub hl [1, 0] rfl) h
  have zL_145 : ∀ (x_1 : Int32) (K169 : zMem → Prop) (zK169 : ∀ (M : zMem) (H : Heap) (locs : List Loc) (ls : Array Slot), zWo w s.heap M H locs → lv_has ls 3 [(0, .ref (zad w 0)), (1, .int x_1)] → K169 M → W p l e (zRm 9 207) s m ([.ref (zad w 0)] : List Value).toArray below meth c H locs 0 0 (MQ below (va_Qi post (zB w) (zA w)) ([.ref (zad w 0)] : List Value).toArray s 0 0 (zA w)) (F0 m 169 ls [])), ∀ (n : Nat) (x_2 : Int32) (M : zMem) (H : Heap) (locs : List Loc) (ls : Array Slot), zWo w s.heap M H locs → lv_has ls 3 [(0, .ref (zad w 0)), (1, .int x_1), (2, .int x_2)] → zlp1 (wpB_Model_text_145  x_1 K169 post) n x_2 M → W p l e (zRm 9 207) s m ([.ref (zad w 0)] : List Value).toArray below meth c H locs 0 0 (MQ below (va_Qi post (zB w) (zA w)) ([.ref (zad w 0)] : List Value).toArray s 0 0 (zA w)) (F0 m 145 ls []) := by
    intro x_1 K169 zK169 n
    induction n with
    | zero => intro x_2 M H locs ls hW hl h; exact h.elim
    | succ n zJ =>
      intro x_2 M H locs ls hW hl h
      have h : wpB_Model_text_145  x_1 K169 post (zlp1 (wpB_Model_text_145  x_1 K169 post) n) x_2 M := h
      unfold wpB_Model_text_145 at h
      refine lv_iload_n hx hb dX11_text_145 rfl (lv_at hl 2 rfl) ?_
      refine lv_bipush hx hb dX11_text_146 zc_b100 ?_
      refine lv_icmp_ge (tgt := 169) hx hb dX11_text_148 rfl (fun c => ?_) (fun c => ?_)
      · replace h := h.1 c
        exact zK169 M H locs ls hW (lv_sub hl [0, 1] rfl) h
      · replace h := h.2 c
        refine lv_aload_n hx hb dX11_text_151 rfl (lv_at hl 0 rfl) ?_
        refine zg_Model_holds X hW h0 zu_1031 dX11_text_152 ?_
        refine lv_iload_n hx hb dX11_text_155 rfl (lv_at hl 2 rfl) ?_
        refine lv_aload_n hx hb dX11_text_156 rfl (lv_at hl 0 rfl) ?_
        refine zg_Model_reads X hW h0 zu_1032 dX11_text_157 ?_
        refine lv_iload_n hx hb dX11_text_160 rfl (lv_at hl 2 rfl) ?_
        obtain ⟨g, h⟩ := h
        refine ziald X hW h0.2.2.2.2.2.1 g dX11_text_161 ?_
        obtain ⟨g, h⟩ := h
        refine ziast X hW h0.2.2.2.2.1 g dX11_text_162 (fun H locs zm20 ezm20 hW => ?_)
        replace h := h zm20 ezm20
        obtain ⟨zx21, ezx21⟩ : ∃ y : Int32, y = x_2 + 1 := ⟨_, rfl⟩
        replace h := h zx21 ezx21
        refine lv_iinc (v := zx21) (lv' := [(2, .int zx21), (0, .ref (zad w 0)), (1, .int x_1)]) hx hb dX11_text_163 hl (k := 2) rfl (by rw [ezx21, zc_i1]) (Nat.le_of_ble_eq_true rfl) rfl (fun ls hl => ?_)
        refine lv_goto (tgt := 145) hx hb dX11_text_166 rfl ?_
        exact zJ zx21 zm20 H locs ls hW (lv_sub hl [1, 2, 0] rfl) h
  have zJ_115 : ∀ (x_1 : Int32) (M : zMem) (H : Heap) (locs : List Loc) (ls : Array Slot), zWo w s.heap M H locs → lv_has ls 3 [(0, .ref (zad w 0)), (1, .int x_1)] → wpJ_Model_text_115  post x_1 M → W p l e (zRm 9 207) s m ([.ref (zad w 0)] : List Value).toArray below meth c H locs 0 0 (MQ below (va_Qi post (zB w) (zA w)) ([.ref (zad w 0)] : List Value).toArray s 0 0 (zA w)) (F0 m 115 ls []) := by
    intro x_1 M H locs ls hW hl h
    unfold wpJ_Model_text_115 at h
    refine lv_aload_n hx hb dX11_text_115 rfl (lv_at hl 0 rfl) ?_
    refine lv_iconst hx hb dX11_text_116 zc_i0 ?_
    refine zp_Model_taped X hW h0 zu_1021 dX11_text_117 (fun H locs zm18 ezm18 hW => ?_)
    replace h := h zm18 ezm18
    refine lv_aload_n hx hb dX11_text_120 rfl (lv_at hl 0 rfl) ?_
    refine lv_aload_n hx hb dX11_text_121 rfl (lv_at hl 0 rfl) ?_
    refine zg_Model_wrong X hW h0 zu_1023 dX11_text_122 ?_
    refine zp_Model_fault X hW h0 zu_1022 dX11_text_125 (fun H locs zm19 ezm19 hW => ?_)
    replace h := h zm19 ezm19
    refine lv_aload_n hx hb dX11_text_128 rfl (lv_at hl 0 rfl) ?_
    refine zg_Model_wrong X hW h0 zu_1023 dX11_text_129 ?_
    refine lv_if_le (tgt := 143) hx hb dX11_text_132 rfl (fun c => ?_) (fun c => ?_)
    · replace h := h.1 c
      refine lv_iconst hx hb dX11_text_143 zc_i0 ?_
      refine lv_istore_n (lv' := [(2, .int 0), (0, .ref (zad w 0)), (1, .int x_1)]) hx hb dX11_text_144 rfl hl (Nat.le_of_ble_eq_true rfl) rfl (fun ls hl => ?_)
      obtain ⟨n, h⟩ := h
      refine zL_145 x_1 _ (fun  zm22 H locs ls hW hl h => ?_) n 0 zm19 H locs ls hW (lv_sub hl [1, 2, 0] rfl) h
      · skip
        refine lv_aload_n hx hb dX11_text_169 rfl (lv_at hl 0 rfl) ?_
        refine zcallv (zrunV (As := []) (rest := []) X hml hl hW h0.1 rfl zk_Model_159 (c_Model_beginAnew h0 h) rfl ⟨Nat.le_of_ble_eq_true rfl, Nat.le_of_ble_eq_true rfl⟩ ⟨Nat.le_refl 0, Nat.le_refl 0⟩ rfl (Nat.le_of_ble_eq_true rfl) dX11_text_170) hW (fun zm23 H locs h hW => ?_)
        refine lv_aload_n hx hb dX11_text_173 rfl (lv_at hl 0 rfl) ?_
        refine zg_Model_isKept X hW h0 zu_1037 dX11_text_174 ?_
        refine lv_iconst hx hb dX11_text_177 zc_i0 ?_
        refine lv_iconst hx hb dX11_text_178 zc_i0 ?_
        obtain ⟨g, h⟩ := h
        refine zzast X hW h0.2.2.2.2.2.2.2.2.2.2.2.2.2.2.2.2.2.2 g dX11_text_179 (fun H locs zm25 ezm25 hW => ?_)
        replace h := h zm25 ezm25
        refine lv_aload_n hx hb dX11_text_180 rfl (lv_at hl 0 rfl) ?_
        refine zg_Model_isKept X hW h0 zu_1037 dX11_text_181 ?_
        refine lv_iconst hx hb dX11_text_184 zc_i1 ?_
        refine lv_iconst hx hb dX11_text_185 zc_i0 ?_
        obtain ⟨g, h⟩ := h
        refine zzast X hW h0.2.2.2.2.2.2.2.2.2.2.2.2.2.2.2.2.2.2 g dX11_text_186 (fun H locs zm26 ezm26 hW => ?_)
        replace h := h zm26 ezm26
        refine lv_iload_n hx hb dX11_text_187 rfl (lv_at hl 1 rfl) ?_
        exact zreti X hr hlk hW h dX11_text_188
    · replace h := h.2 c
      refine lv_bipush hx hb dX11_text_135 zc_bm10 ?_
      refine lv_aload_n hx hb dX11_text_137 rfl (lv_at hl 0 rfl) ?_
      refine zg_Model_wrongAt X hW h0 zu_1024 dX11_text_138 ?_
      refine lv_isub hx hb dX11_text_141 ?_
      exact zreti X hr hlk hW h dX11_text_142
  have zJ_86 : ∀ (x_1 : Int32) (M : zMem) (H : Heap) (locs : List Loc) (ls : Array Slot), zWo w s.heap M H locs → lv_has ls 3 [(0, .ref (zad w 0)), (1, .int x_1)] → wpJ_Model_text_86  post x_1 M → W p l e (zRm 9 207) s m ([.ref (zad w 0)] : List Value).toArray below meth c H locs 0 0 (MQ below (va_Qi post (zB w) (zA w)) ([.ref (zad w 0)] : List Value).toArray s 0 0 (zA w)) (F0 m 86 ls []) := by
    intro x_1 M H locs ls hW hl h
    unfold wpJ_Model_text_86 at h
    refine lv_aload_n hx hb dX11_text_86 rfl (lv_at hl 0 rfl) ?_
    refine zg_Model_wrong X hW h0 zu_1023 dX11_text_87 ?_
    refine lv_if_ne (tgt := 115) hx hb dX11_text_90 rfl (fun c => ?_) (fun c => ?_)
    · replace h := h.1 c
      exact zJ_115 x_1 M H locs ls hW (lv_sub hl [0, 1] rfl) h
    · replace h := h.2 c
      refine lv_aload_n hx hb dX11_text_93 rfl (lv_at hl 0 rfl) ?_
      refine lv_aload_n hx hb dX11_text_94 rfl (lv_at hl 0 rfl) ?_
      refine zg_Model_taped X hW h0 zu_1021 dX11_text_95 ?_
      refine zp_Model_place X hW h0 zu_1026 dX11_text_98 (fun H locs zm27 ezm27 hW => ?_)
      replace h := h zm27 ezm27
      refine lv_aload_n hx hb dX11_text_101 rfl (lv_at hl 0 rfl) ?_
      refine zcalli (zrunV (As := []) (rest := []) X hml hl hW h0.1 rfl zk_Model_152 (c_Model_wholeFault h0 h) rfl ⟨Nat.le_of_ble_eq_true rfl, Nat.le_of_ble_eq_true rfl⟩ ⟨Nat.le_refl 0, Nat.le_refl 0⟩ rfl (Nat.le_of_ble_eq_true rfl) dX11_text_102) hW (fun zr29 zm28 H locs h hW => ?_)
      refine lv_istore_n (lv' := [(2, .int zr29), (0, .ref (zad w 0)), (1, .int x_1)]) hx hb dX11_text_105 rfl hl (Nat.le_of_ble_eq_true rfl) rfl (fun ls hl => ?_)
      refine lv_iload_n hx hb dX11_text_106 rfl (lv_at hl 0 rfl) ?_
      refine lv_if_le (tgt := 115) hx hb dX11_text_107 rfl (fun c => ?_) (fun c => ?_)
      · replace h := h.1 c
        exact zJ_115 x_1 zm28 H locs ls hW (lv_sub hl [1, 2] rfl) h
      · replace h := h.2 c
        refine lv_aload_n hx hb dX11_text_110 rfl (lv_at hl 1 rfl) ?_
        refine lv_iload_n hx hb dX11_text_111 rfl (lv_at hl 0 rfl) ?_
        refine zcallv (zrunV (As := [.int zr29]) (rest := []) X hml hl hW h0.1 rfl zk_Model_103 (c_Model_fails h0 h) rfl ⟨Nat.le_of_ble_eq_true rfl, Nat.le_of_ble_eq_true rfl⟩ ⟨Nat.le_refl 0, Nat.le_refl 0⟩ rfl (Nat.le_of_ble_eq_true rfl) dX11_text_112) hW (fun zm30 H locs h hW => ?_)
        exact zJ_115 x_1 zm30 H locs ls hW (lv_sub hl [1, 2] rfl) h
  unfold wp_Model_text at h
  have zMain : ∀ (H : Heap) (locs : List Loc) (ls : Array Slot), zWo w s.heap M H locs → lv_has ls 3 [(0, .ref (zad w 0))] → W p l e (zRm 9 207) s m ([.ref (zad w 0)] : List Value).toArray below meth c H locs 0 0 (MQ below (va_Qi post (zB w) (zA w)) ([.ref (zad w 0)] : List Value).toArray s 0 0 (zA w)) (F0 m 0 ls []) := by
    intro H locs ls hW hl
    refine lv_aload_n hx hb dX11_text_0 rfl (lv_at hl 0 rfl) ?_
    refine lv_iconst hx hb dX11_text_1 zc_i0 ?_
    refine zp_Model_wrong X hW h0 zu_1023 dX11_text_2 (fun H locs zm1 ezm1 hW => ?_)
    replace h := h zm1 ezm1
    refine lv_aload_n hx hb dX11_text_5 rfl (lv_at hl 0 rfl) ?_
    refine lv_iconst hx hb dX11_text_6 zc_i0 ?_
    refine zp_Model_spot X hW h0 zu_1025 dX11_text_7 (fun H locs zm2 ezm2 hW => ?_)
    replace h := h zm2 ezm2
    refine lv_aload_n hx hb dX11_text_10 rfl (lv_at hl 0 rfl) ?_
    refine lv_iconst hx hb dX11_text_11 zc_i0 ?_
    refine zp_Model_toldOnes X hW h0 zu_1033 dX11_text_12 (fun H locs zm3 ezm3 hW => ?_)
    replace h := h zm3 ezm3
    refine lv_aload_n hx hb dX11_text_15 rfl (lv_at hl 0 rfl) ?_
    refine lv_iconst hx hb dX11_text_16 zc_i0 ?_
    refine zp_Model_toldSorts X hW h0 zu_1034 dX11_text_17 (fun H locs zm4 ezm4 hW => ?_)
    replace h := h zm4 ezm4
    refine lv_aload_n hx hb dX11_text_20 rfl (lv_at hl 0 rfl) ?_
    refine lv_iconst hx hb dX11_text_21 zc_i0 ?_
    refine zp_Model_hasEnds X hW h0 zbo_0 zu_1035 dX11_text_22 (fun H locs zm5 ezm5 hW => ?_)
    replace h := h zm5 ezm5
    refine lv_iconst hx hb dX11_text_25 zc_i0 ?_
    refine lv_istore_n (lv' := [(1, .int 0), (0, .ref (zad w 0))]) hx hb dX11_text_26 rfl hl (Nat.le_of_ble_eq_true rfl) rfl (fun ls hl => ?_)
    refine lv_iconst hx hb dX11_text_27 zc_i0 ?_
    refine lv_istore_n (lv' := [(2, .int 0), (1, .int 0), (0, .ref (zad w 0))]) hx hb dX11_text_28 rfl hl (Nat.le_of_ble_eq_true rfl) rfl (fun ls hl => ?_)
    obtain ⟨n, h⟩ := h
    refine zL_29 0 _ (fun  zm10 H locs ls hW hl h => ?_) n 0 zm5 H locs ls hW (lv_sub hl [2, 1, 0] rfl) h
    · skip
      refine lv_aload_n hx hb dX11_text_58 rfl (lv_at hl 0 rfl) ?_
      refine zcallv (zrunV (As := []) (rest := []) X hml hl hW h0.1 rfl zk_Model_114 (c_Model_next h0 h) rfl ⟨Nat.le_of_ble_eq_true rfl, Nat.le_of_ble_eq_true rfl⟩ ⟨Nat.le_refl 0, Nat.le_refl 0⟩ rfl (Nat.le_of_ble_eq_true rfl) dX11_text_59) hW (fun zm11 H locs h hW => ?_)
      obtain ⟨n, h⟩ := h
      refine zL_62  _ (fun zx17 zm16 H locs ls hW hl h => ?_) n 0 zm11 H locs ls hW (lv_sub hl [0, 1] rfl) h
      · skip
        exact zJ_86 zx17 zm16 H locs ls hW (lv_sub hl [0, 1] rfl) h
  exact zMain s.heap [] ls hW hl
def wp_Model_fault  (M : zMem) (Q : Int32 → zMem → Prop) : Prop :=
  Q (M 0 2) M
set_option maxHeartbeats 4000000 in
set_option maxRecDepth 20000 in
theorem c_Model_fault {l : Launch} {w : zWd} {M : zMem} {post : Int32 → zMem → Prop} (h0 : zI_Model w) (h : wp_Model_fault  M post) : zMi l ⟨"HandToHandModel", "fault", "()I"⟩ prog_13_method_21_code 1 (Option.some .int) 0 0 w [.ref (zad w 0)] M post := by
  refine zMet (by decide) (Nat.le_of_ble_eq_true rfl) ?_
  intro p e s m below meth c X hr hlk hml hW ls hl
  have hx := X.1
  have hb := X.2.1
  have hl : lv_has ls 1 [(0, .ref (zad w 0))] := hl
  unfold wp_Model_fault at h
  have zMain : ∀ (H : Heap) (locs : List Loc) (ls : Array Slot), zWo w s.heap M H locs → lv_has ls 1 [(0, .ref (zad w 0))] → W p l e (zRm 0 0) s m ([.ref (zad w 0)] : List Value).toArray below meth c H locs 0 0 (MQ below (va_Qi post (zB w) (zA w)) ([.ref (zad w 0)] : List Value).toArray s 0 0 (zA w)) (F0 m 0 ls []) := by
    intro H locs ls hW hl
    refine lv_aload_n hx hb dX11_fault_0 rfl (lv_at hl 0 rfl) ?_
    refine zg_Model_fault X hW h0 zu_1022 dX11_fault_1 ?_
    exact zreti X hr hlk hW h dX11_fault_4
  exact zMain s.heap [] ls hW hl
def wp_Model_isPiece (a1 : Int32) (M : zMem) (Q : Int32 → zMem → Prop) : Prop :=
  vp_in 0 100 ∧ wp_Model_in a1.toInt64 0 (((M 4 (ix 0)) - 1).toInt64) M (fun zr2 zm1 => zbo zr2 ∧ Q zr2 zm1)
set_option maxHeartbeats 4000000 in
set_option maxRecDepth 20000 in
theorem c_Model_isPiece {l : Launch} {w : zWd} {a1 : Int32} {M : zMem} {post : Int32 → zMem → Prop} (h0 : zI_Model w) (h : wp_Model_isPiece a1 M post) : zMi l ⟨"HandToHandModel", "isPiece", "(I)Z"⟩ prog_13_method_22_code 2 (Option.some .boolean) 1 25 w [.ref (zad w 0), .int a1] M post := by
  refine zMet (by decide) (Nat.le_of_ble_eq_true rfl) ?_
  intro p e s m below meth c X hr hlk hml hW ls hl
  have hx := X.1
  have hb := X.2.1
  have hl : lv_has ls 2 [(0, .ref (zad w 0)), (1, .int a1)] := hl
  unfold wp_Model_isPiece at h
  have zMain : ∀ (H : Heap) (locs : List Loc) (ls : Array Slot), zWo w s.heap M H locs → lv_has ls 2 [(0, .ref (zad w 0)), (1, .int a1)] → W p l e (zRm 1 25) s m ([.ref (zad w 0), .int a1] : List Value).toArray below meth c H locs 0 0 (MQ below (va_Qi post (zB w) (zA w)) ([.ref (zad w 0), .int a1] : List Value).toArray s 0 0 (zA w)) (F0 m 0 ls []) := by
    intro H locs ls hW hl
    refine lv_iload_n hx hb dX11_isPiece_0 rfl (lv_at hl 1 rfl) ?_
    refine lv_i2l hx hb dX11_isPiece_1 rfl ?_
    refine lv_lconst hx hb dX11_isPiece_2 zc_l0 ?_
    refine lv_aload_n hx hb dX11_isPiece_3 rfl (lv_at hl 0 rfl) ?_
    refine zg_Model_holds X hW h0 zu_1031 dX11_isPiece_4 ?_
    refine lv_iconst hx hb dX11_isPiece_7 zc_i0 ?_
    obtain ⟨g, h⟩ := h
    refine ziald X hW h0.2.2.2.2.1 g dX11_isPiece_8 ?_
    refine lv_iconst hx hb dX11_isPiece_9 zc_i1 ?_
    refine lv_isub hx hb dX11_isPiece_10 ?_
    refine lv_i2l hx hb dX11_isPiece_11 rfl ?_
    refine zcalli (zrunS (As := [.long a1.toInt64, .long 0, .long (((M 4 (ix 0)) - 1).toInt64)]) (rest := []) X hml hl hW zk_Model_69 (c_Model_in  h) rfl ⟨Nat.le_of_ble_eq_true rfl, Nat.le_of_ble_eq_true rfl⟩ ⟨Nat.le_refl 0, Nat.le_refl 0⟩ rfl (Nat.le_of_ble_eq_true rfl) dX11_isPiece_12) hW (fun zr2 zm1 H locs h hW => ?_)
    exact zretz X hr hlk hW (zbo_n h.1) h.2 dX11_isPiece_15
  exact zMain s.heap [] ls hW hl
def wp_Model_isHand (a1 : Int32) (M : zMem) (Q : Int32 → zMem → Prop) : Prop :=
  vp_in 1 100 ∧ wp_Model_in a1.toInt64 0 (((M 4 (ix 1)) - 1).toInt64) M (fun zr2 zm1 => zbo zr2 ∧ Q zr2 zm1)
set_option maxHeartbeats 4000000 in
set_option maxRecDepth 20000 in
theorem c_Model_isHand {l : Launch} {w : zWd} {a1 : Int32} {M : zMem} {post : Int32 → zMem → Prop} (h0 : zI_Model w) (h : wp_Model_isHand a1 M post) : zMi l ⟨"HandToHandModel", "isHand", "(I)Z"⟩ prog_13_method_23_code 2 (Option.some .boolean) 1 25 w [.ref (zad w 0), .int a1] M post := by
  refine zMet (by decide) (Nat.le_of_ble_eq_true rfl) ?_
  intro p e s m below meth c X hr hlk hml hW ls hl
  have hx := X.1
  have hb := X.2.1
  have hl : lv_has ls 2 [(0, .ref (zad w 0)), (1, .int a1)] := hl
  unfold wp_Model_isHand at h
  have zMain : ∀ (H : Heap) (locs : List Loc) (ls : Array Slot), zWo w s.heap M H locs → lv_has ls 2 [(0, .ref (zad w 0)), (1, .int a1)] → W p l e (zRm 1 25) s m ([.ref (zad w 0), .int a1] : List Value).toArray below meth c H locs 0 0 (MQ below (va_Qi post (zB w) (zA w)) ([.ref (zad w 0), .int a1] : List Value).toArray s 0 0 (zA w)) (F0 m 0 ls []) := by
    intro H locs ls hW hl
    refine lv_iload_n hx hb dX11_isHand_0 rfl (lv_at hl 1 rfl) ?_
    refine lv_i2l hx hb dX11_isHand_1 rfl ?_
    refine lv_lconst hx hb dX11_isHand_2 zc_l0 ?_
    refine lv_aload_n hx hb dX11_isHand_3 rfl (lv_at hl 0 rfl) ?_
    refine zg_Model_holds X hW h0 zu_1031 dX11_isHand_4 ?_
    refine lv_iconst hx hb dX11_isHand_7 zc_i1 ?_
    obtain ⟨g, h⟩ := h
    refine ziald X hW h0.2.2.2.2.1 g dX11_isHand_8 ?_
    refine lv_iconst hx hb dX11_isHand_9 zc_i1 ?_
    refine lv_isub hx hb dX11_isHand_10 ?_
    refine lv_i2l hx hb dX11_isHand_11 rfl ?_
    refine zcalli (zrunS (As := [.long a1.toInt64, .long 0, .long (((M 4 (ix 1)) - 1).toInt64)]) (rest := []) X hml hl hW zk_Model_69 (c_Model_in  h) rfl ⟨Nat.le_of_ble_eq_true rfl, Nat.le_of_ble_eq_true rfl⟩ ⟨Nat.le_refl 0, Nat.le_refl 0⟩ rfl (Nat.le_of_ble_eq_true rfl) dX11_isHand_12) hW (fun zr2 zm1 H locs h hW => ?_)
    exact zretz X hr hlk hW (zbo_n h.1) h.2 dX11_isHand_15
  exact zMain s.heap [] ls hW hl
def wp_Model_rule (a1 : Int32) (M : zMem) (Q : Int32 → zMem → Prop) : Prop :=
  wp_Model_in a1.toInt64 0 6 M (fun zr2 zm1 => (zr2 = 0 → vp_in 6 100 ∧ wp_Model_in a1.toInt64 10 (((10 + (zm1 4 (ix 6))) - 1).toInt64) zm1 (fun zr4 zm3 => (zr4 = 0 → (a1 < 20 → Q ((-1)) zm3) ∧ (¬ a1 < 20 → wp_Model_isHand (a1 - 20) zm3 (fun zr6 zm5 => (zr6 = 0 → Q ((-1)) zm5) ∧ (¬ zr6 = 0 → wp_Model_endOf (a1 - 20) zm5 (fun zr8 zm7 => Q zr8 zm7))))) ∧ (¬ zr4 = 0 → vp_in a1 100 ∧ Q (zm3 4 (ix a1)) zm3))) ∧ (¬ zr2 = 0 → vp_in a1 100 ∧ Q (zm1 4 (ix a1)) zm1))
set_option maxHeartbeats 4000000 in
set_option maxRecDepth 20000 in
theorem c_Model_rule {l : Launch} {w : zWd} {a1 : Int32} {M : zMem} {post : Int32 → zMem → Prop} (h0 : zI_Model w) (h : wp_Model_rule a1 M post) : zMi l ⟨"HandToHandModel", "rule", "(I)I"⟩ prog_13_method_25_code 2 (Option.some .int) 2 46 w [.ref (zad w 0), .int a1] M post := by
  refine zMet (by decide) (Nat.le_of_ble_eq_true rfl) ?_
  intro p e s m below meth c X hr hlk hml hW ls hl
  have hx := X.1
  have hb := X.2.1
  have hl : lv_has ls 2 [(0, .ref (zad w 0)), (1, .int a1)] := hl
  unfold wp_Model_rule at h
  have zMain : ∀ (H : Heap) (locs : List Loc) (ls : Array Slot), zWo w s.heap M H locs → lv_has ls 2 [(0, .ref (zad w 0)), (1, .int a1)] → W p l e (zRm 2 46) s m ([.ref (zad w 0), .int a1] : List Value).toArray below meth c H locs 0 0 (MQ below (va_Qi post (zB w) (zA w)) ([.ref (zad w 0), .int a1] : List Value).toArray s 0 0 (zA w)) (F0 m 0 ls []) := by
    intro H locs ls hW hl
    refine lv_iload_n hx hb dX11_rule_0 rfl (lv_at hl 1 rfl) ?_
    refine lv_i2l hx hb dX11_rule_1 rfl ?_
    refine lv_lconst hx hb dX11_rule_2 zc_l0 ?_
    refine lv_ldc2 hx hb X.2.2.1 (X.2.2.2.1 _ zu_1310) dX11_rule_3 ?_
    refine zcalli (zrunS (As := [.long a1.toInt64, .long 0, .long 6]) (rest := []) X hml hl hW zk_Model_69 (c_Model_in  h) rfl ⟨Nat.le_of_ble_eq_true rfl, Nat.le_of_ble_eq_true rfl⟩ ⟨Nat.le_refl 0, Nat.le_refl 0⟩ rfl (Nat.le_of_ble_eq_true rfl) dX11_rule_6) hW (fun zr2 zm1 H locs h hW => ?_)
    refine lv_if_eq (tgt := 19) hx hb dX11_rule_9 rfl (fun c => ?_) (fun c => ?_)
    · replace h := h.1 c
      refine lv_iload_n hx hb dX11_rule_19 rfl (lv_at hl 1 rfl) ?_
      refine lv_i2l hx hb dX11_rule_20 rfl ?_
      refine lv_ldc2 hx hb X.2.2.1 (X.2.2.2.1 _ zu_1311) dX11_rule_21 ?_
      refine lv_bipush hx hb dX11_rule_24 zc_b10 ?_
      refine lv_aload_n hx hb dX11_rule_26 rfl (lv_at hl 0 rfl) ?_
      refine zg_Model_holds X hW h0 zu_1031 dX11_rule_27 ?_
      refine lv_bipush hx hb dX11_rule_30 zc_b6 ?_
      obtain ⟨g, h⟩ := h
      refine ziald X hW h0.2.2.2.2.1 g dX11_rule_32 ?_
      refine lv_iadd hx hb dX11_rule_33 ?_
      refine lv_iconst hx hb dX11_rule_34 zc_i1 ?_
      refine lv_isub hx hb dX11_rule_35 ?_
      refine lv_i2l hx hb dX11_rule_36 rfl ?_
      refine zcalli (zrunS (As := [.long a1.toInt64, .long 10, .long (((10 + (zm1 4 (ix 6))) - 1).toInt64)]) (rest := []) X hml hl hW zk_Model_69 (c_Model_in  h) rfl ⟨Nat.le_of_ble_eq_true rfl, Nat.le_of_ble_eq_true rfl⟩ ⟨Nat.le_refl 0, Nat.le_refl 0⟩ rfl (Nat.le_of_ble_eq_true rfl) dX11_rule_37) hW (fun zr4 zm3 H locs h hW => ?_)
      refine lv_if_eq (tgt := 50) hx hb dX11_rule_40 rfl (fun c => ?_) (fun c => ?_)
      · replace h := h.1 c
        refine lv_iload_n hx hb dX11_rule_50 rfl (lv_at hl 1 rfl) ?_
        refine lv_bipush hx hb dX11_rule_51 zc_b20 ?_
        refine lv_icmp_lt (tgt := 78) hx hb dX11_rule_53 rfl (fun c => ?_) (fun c => ?_)
        · replace h := h.1 c
          refine lv_iconst hx hb dX11_rule_78 zc_im1 ?_
          exact zreti X hr hlk hW h dX11_rule_79
        · replace h := h.2 c
          refine lv_aload_n hx hb dX11_rule_56 rfl (lv_at hl 0 rfl) ?_
          refine lv_iload_n hx hb dX11_rule_57 rfl (lv_at hl 1 rfl) ?_
          refine lv_bipush hx hb dX11_rule_58 zc_b20 ?_
          refine lv_isub hx hb dX11_rule_60 ?_
          refine zcalli (zrunV (As := [.int (a1 - 20)]) (rest := []) X hml hl hW h0.1 rfl zk_Model_166 (c_Model_isHand h0 h) rfl ⟨Nat.le_of_ble_eq_true rfl, Nat.le_of_ble_eq_true rfl⟩ ⟨Nat.le_refl 0, Nat.le_refl 0⟩ rfl (Nat.le_of_ble_eq_true rfl) dX11_rule_61) hW (fun zr6 zm5 H locs h hW => ?_)
          refine lv_if_eq (tgt := 78) hx hb dX11_rule_64 rfl (fun c => ?_) (fun c => ?_)
          · replace h := h.1 c
            refine lv_iconst hx hb dX11_rule_78 zc_im1 ?_
            exact zreti X hr hlk hW h dX11_rule_79
          · replace h := h.2 c
            refine lv_aload_n hx hb dX11_rule_67 rfl (lv_at hl 0 rfl) ?_
            refine lv_iload_n hx hb dX11_rule_68 rfl (lv_at hl 1 rfl) ?_
            refine lv_bipush hx hb dX11_rule_69 zc_b20 ?_
            refine lv_isub hx hb dX11_rule_71 ?_
            refine zcalli (zrunV (As := [.int (a1 - 20)]) (rest := []) X hml hl hW h0.1 rfl zk_Model_170 (c_Model_endOf h0 h) rfl ⟨Nat.le_of_ble_eq_true rfl, Nat.le_of_ble_eq_true rfl⟩ ⟨Nat.le_refl 0, Nat.le_refl 0⟩ rfl (Nat.le_of_ble_eq_true rfl) dX11_rule_72) hW (fun zr8 zm7 H locs h hW => ?_)
            refine lv_goto (tgt := 79) hx hb dX11_rule_75 rfl ?_
            exact zreti X hr hlk hW h dX11_rule_79
      · replace h := h.2 c
        refine lv_aload_n hx hb dX11_rule_43 rfl (lv_at hl 0 rfl) ?_
        refine zg_Model_holds X hW h0 zu_1031 dX11_rule_44 ?_
        refine lv_iload_n hx hb dX11_rule_47 rfl (lv_at hl 1 rfl) ?_
        obtain ⟨g, h⟩ := h
        refine ziald X hW h0.2.2.2.2.1 g dX11_rule_48 ?_
        exact zreti X hr hlk hW h dX11_rule_49
    · replace h := h.2 c
      refine lv_aload_n hx hb dX11_rule_12 rfl (lv_at hl 0 rfl) ?_
      refine zg_Model_holds X hW h0 zu_1031 dX11_rule_13 ?_
      refine lv_iload_n hx hb dX11_rule_16 rfl (lv_at hl 1 rfl) ?_
      obtain ⟨g, h⟩ := h
      refine ziald X hW h0.2.2.2.2.1 g dX11_rule_17 ?_
      exact zreti X hr hlk hW h dX11_rule_18
  exact zMain s.heap [] ls hW hl
