def wpJ_Model_least_45 (a1 : Int32)  (J : Int32 → Int32 → zMem → Prop) (Q : Int32 → zMem → Prop) (x_2 : Int32) (x_3 : Int32) (s_0 : Int32) (M : zMem) : Prop :=
  (s_0 ≤ 0 → ∀ zx5 : Int32, zx5 = x_3 + 1 → J x_2 zx5 M) ∧ (¬ s_0 ≤ 0 → (x_2 = 0 → ∀ zx6 : Int32, zx6 = x_3 + 1 → J s_0 zx6 M) ∧ (¬ x_2 = 0 → (x_2 ≤ s_0 → ∀ zx7 : Int32, zx7 = x_3 + 1 → J x_2 zx7 M) ∧ (¬ x_2 ≤ s_0 → ∀ zx8 : Int32, zx8 = x_3 + 1 → J s_0 zx8 M)))
def wpJ_Model_least_34 (a1 : Int32)  (J : Int32 → Int32 → zMem → Prop) (Q : Int32 → zMem → Prop) (x_2 : Int32) (x_3 : Int32)  (M : zMem) : Prop :=
  wp_Model_at a1 x_3 1 M (fun zr4 zm3 => wpJ_Model_least_45 a1 J Q x_2 x_3 zr4 zm3)
def wpB_Model_least_4 (a1 : Int32)   (Q : Int32 → zMem → Prop) (J : Int32 → Int32 → zMem → Prop) (x_2 : Int32) (x_3 : Int32) (M : zMem) : Prop :=
  ((M 0 18) ≤ x_3 → Q x_2 M) ∧ (¬ (M 0 18) ≤ x_3 → wp_Model_at a1 x_3 0 M (fun zr2 zm1 => (zr2 = 3 → wpJ_Model_least_34 a1 J Q x_2 x_3 zm1) ∧ (¬ zr2 = 3 → wp_Model_at a1 x_3 0 zm1 (fun zr10 zm9 => (¬ zr10 = 1 → wpJ_Model_least_45 a1 J Q x_2 x_3 0 zm9) ∧ (zr10 = 1 → wpJ_Model_least_34 a1 J Q x_2 x_3 zm9)))))
def wp_Model_least (a1 : Int32) (M : zMem) (Q : Int32 → zMem → Prop) : Prop :=
  ∃ n : Nat, zlp2 (wpB_Model_least_4 a1   Q) n 0 0 M
set_option maxHeartbeats 4000000 in
set_option maxRecDepth 20000 in
theorem c_Model_least {l : Launch} {w : zWd} {a1 : Int32} {M : zMem} {post : Int32 → zMem → Prop} (h0 : zI_Model w) (h : wp_Model_least a1 M post) : zMi l ⟨"HandToHandModel", "least", "(I)I"⟩ prog_13_method_46_code 5 (Option.some .int) 2 48 w [.ref (zad w 0), .int a1] M post := by
  refine zMet (by decide) (Nat.le_of_ble_eq_true rfl) ?_
  intro p e s m below meth c X hr hlk hml hW ls hl
  have hx := X.1
  have hb := X.2.1
  have hl : lv_has ls 5 [(0, .ref (zad w 0)), (1, .int a1)] := hl
  have zJ_45 : ∀ (x_2 : Int32) (x_3 : Int32) (s_0 : Int32) (J : Int32 → Int32 → zMem → Prop) (zJ : ∀ (y_2 : Int32) (y_3 : Int32) (M : zMem) (H : Heap) (locs : List Loc) (ls : Array Slot), zWo w s.heap M H locs → lv_has ls 5 [(0, .ref (zad w 0)), (1, .int a1), (2, .int y_2), (3, .int y_3)] → J y_2 y_3 M → W p l e (zRm 2 48) s m ([.ref (zad w 0), .int a1] : List Value).toArray below meth c H locs 0 0 (MQ below (va_Qi post (zB w) (zA w)) ([.ref (zad w 0), .int a1] : List Value).toArray s 0 0 (zA w)) (F0 m 4 ls [])) (M : zMem) (H : Heap) (locs : List Loc) (ls : Array Slot), zWo w s.heap M H locs → lv_has ls 5 [(0, .ref (zad w 0)), (1, .int a1), (2, .int x_2), (3, .int x_3)] → wpJ_Model_least_45 a1 J post x_2 x_3 s_0 M → W p l e (zRm 2 48) s m ([.ref (zad w 0), .int a1] : List Value).toArray below meth c H locs 0 0 (MQ below (va_Qi post (zB w) (zA w)) ([.ref (zad w 0), .int a1] : List Value).toArray s 0 0 (zA w)) (F0 m 45 ls [.int s_0]) := by
    intro x_2 x_3 s_0 J zJ M H locs ls hW hl h
    unfold wpJ_Model_least_45 at h
    refine lv_istore (lv' := [(4, .int s_0), (0, .ref (zad w 0)), (1, .int a1), (2, .int x_2), (3, .int x_3)]) hx hb dX11_least_45 hl (Nat.le_of_ble_eq_true rfl) rfl (fun ls hl => ?_)
    refine lv_iload hx hb dX11_least_47 (lv_at hl 0 rfl) ?_
    refine lv_if_le (tgt := 67) hx hb dX11_least_49 rfl (fun c => ?_) (fun c => ?_)
    · replace h := h.1 c
      refine lv_iload_n hx hb dX11_least_67 rfl (lv_at hl 3 rfl) ?_
      refine lv_istore_n (lv' := [(2, .int x_2), (4, .int s_0), (0, .ref (zad w 0)), (1, .int a1), (3, .int x_3)]) hx hb dX11_least_68 rfl hl (Nat.le_of_ble_eq_true rfl) rfl (fun ls hl => ?_)
      obtain ⟨zx5, ezx5⟩ : ∃ y : Int32, y = x_3 + 1 := ⟨_, rfl⟩
      replace h := h zx5 ezx5
      refine lv_iinc (v := zx5) (lv' := [(3, .int zx5), (2, .int x_2), (4, .int s_0), (0, .ref (zad w 0)), (1, .int a1)]) hx hb dX11_least_69 hl (k := 4) rfl (by rw [ezx5, zc_i1]) (Nat.le_of_ble_eq_true rfl) rfl (fun ls hl => ?_)
      refine lv_goto (tgt := 4) hx hb dX11_least_72 rfl ?_
      exact zJ x_2 zx5 M H locs ls hW (lv_sub hl [3, 4, 1, 0] rfl) h
    · replace h := h.2 c
      refine lv_iload_n hx hb dX11_least_52 rfl (lv_at hl 3 rfl) ?_
      refine lv_if_eq (tgt := 62) hx hb dX11_least_53 rfl (fun c => ?_) (fun c => ?_)
      · replace h := h.1 c
        refine lv_iload hx hb dX11_least_62 (lv_at hl 0 rfl) ?_
        refine lv_goto (tgt := 68) hx hb dX11_least_64 rfl ?_
        refine lv_istore_n (lv' := [(2, .int s_0), (4, .int s_0), (0, .ref (zad w 0)), (1, .int a1), (3, .int x_3)]) hx hb dX11_least_68 rfl hl (Nat.le_of_ble_eq_true rfl) rfl (fun ls hl => ?_)
        obtain ⟨zx6, ezx6⟩ : ∃ y : Int32, y = x_3 + 1 := ⟨_, rfl⟩
        replace h := h zx6 ezx6
        refine lv_iinc (v := zx6) (lv' := [(3, .int zx6), (2, .int s_0), (4, .int s_0), (0, .ref (zad w 0)), (1, .int a1)]) hx hb dX11_least_69 hl (k := 4) rfl (by rw [ezx6, zc_i1]) (Nat.le_of_ble_eq_true rfl) rfl (fun ls hl => ?_)
        refine lv_goto (tgt := 4) hx hb dX11_least_72 rfl ?_
        exact zJ s_0 zx6 M H locs ls hW (lv_sub hl [3, 4, 1, 0] rfl) h
      · replace h := h.2 c
        refine lv_iload hx hb dX11_least_56 (lv_at hl 0 rfl) ?_
        refine lv_iload_n hx hb dX11_least_58 rfl (lv_at hl 3 rfl) ?_
        refine lv_icmp_ge (tgt := 67) hx hb dX11_least_59 rfl (fun c => ?_) (fun c => ?_)
        · replace h := h.1 c
          refine lv_iload_n hx hb dX11_least_67 rfl (lv_at hl 3 rfl) ?_
          refine lv_istore_n (lv' := [(2, .int x_2), (4, .int s_0), (0, .ref (zad w 0)), (1, .int a1), (3, .int x_3)]) hx hb dX11_least_68 rfl hl (Nat.le_of_ble_eq_true rfl) rfl (fun ls hl => ?_)
          obtain ⟨zx7, ezx7⟩ : ∃ y : Int32, y = x_3 + 1 := ⟨_, rfl⟩
          replace h := h zx7 ezx7
          refine lv_iinc (v := zx7) (lv' := [(3, .int zx7), (2, .int x_2), (4, .int s_0), (0, .ref (zad w 0)), (1, .int a1)]) hx hb dX11_least_69 hl (k := 4) rfl (by rw [ezx7, zc_i1]) (Nat.le_of_ble_eq_true rfl) rfl (fun ls hl => ?_)
          refine lv_goto (tgt := 4) hx hb dX11_least_72 rfl ?_
          exact zJ x_2 zx7 M H locs ls hW (lv_sub hl [3, 4, 1, 0] rfl) h
        · replace h := h.2 c
          refine lv_iload hx hb dX11_least_62 (lv_at hl 0 rfl) ?_
          refine lv_goto (tgt := 68) hx hb dX11_least_64 rfl ?_
          refine lv_istore_n (lv' := [(2, .int s_0), (4, .int s_0), (0, .ref (zad w 0)), (1, .int a1), (3, .int x_3)]) hx hb dX11_least_68 rfl hl (Nat.le_of_ble_eq_true rfl) rfl (fun ls hl => ?_)
          obtain ⟨zx8, ezx8⟩ : ∃ y : Int32, y = x_3 + 1 := ⟨_, rfl⟩
          replace h := h zx8 ezx8
          refine lv_iinc (v := zx8) (lv' := [(3, .int zx8), (2, .int s_0), (4, .int s_0), (0, .ref (zad w 0)), (1, .int a1)]) hx hb dX11_least_69 hl (k := 4) rfl (by rw [ezx8, zc_i1]) (Nat.le_of_ble_eq_true rfl) rfl (fun ls hl => ?_)
          refine lv_goto (tgt := 4) hx hb dX11_least_72 rfl ?_
          exact zJ s_0 zx8 M H locs ls hW (lv_sub hl [3, 4, 1, 0] rfl) h
  have zJ_34 : ∀ (x_2 : Int32) (x_3 : Int32) (J : Int32 → Int32 → zMem → Prop) (zJ : ∀ (y_2 : Int32) (y_3 : Int32) (M : zMem) (H : Heap) (locs : List Loc) (ls : Array Slot), zWo w s.heap M H locs → lv_has ls 5 [(0, .ref (zad w 0)), (1, .int a1), (2, .int y_2), (3, .int y_3)] → J y_2 y_3 M → W p l e (zRm 2 48) s m ([.ref (zad w 0), .int a1] : List Value).toArray below meth c H locs 0 0 (MQ below (va_Qi post (zB w) (zA w)) ([.ref (zad w 0), .int a1] : List Value).toArray s 0 0 (zA w)) (F0 m 4 ls [])) (M : zMem) (H : Heap) (locs : List Loc) (ls : Array Slot), zWo w s.heap M H locs → lv_has ls 5 [(0, .ref (zad w 0)), (1, .int a1), (2, .int x_2), (3, .int x_3)] → wpJ_Model_least_34 a1 J post x_2 x_3 M → W p l e (zRm 2 48) s m ([.ref (zad w 0), .int a1] : List Value).toArray below meth c H locs 0 0 (MQ below (va_Qi post (zB w) (zA w)) ([.ref (zad w 0), .int a1] : List Value).toArray s 0 0 (zA w)) (F0 m 34 ls []) := by
    intro x_2 x_3 J zJ M H locs ls hW hl h
    unfold wpJ_Model_least_34 at h
    refine lv_aload_n hx hb dX11_least_34 rfl (lv_at hl 0 rfl) ?_
    refine lv_iload_n hx hb dX11_least_35 rfl (lv_at hl 1 rfl) ?_
    refine lv_iload_n hx hb dX11_least_36 rfl (lv_at hl 3 rfl) ?_
    refine lv_iconst hx hb dX11_least_37 zc_i1 ?_
    refine zcalli (zrunV (As := [.int a1, .int x_3, .int 1]) (rest := []) X hml hl hW h0.1 rfl zk_Model_195 (c_Model_at h0 h) rfl ⟨Nat.le_of_ble_eq_true rfl, Nat.le_of_ble_eq_true rfl⟩ ⟨Nat.le_refl 0, Nat.le_refl 0⟩ rfl (Nat.le_of_ble_eq_true rfl) dX11_least_38) hW (fun zr4 zm3 H locs h hW => ?_)
    refine lv_goto (tgt := 45) hx hb dX11_least_41 rfl ?_
    exact zJ_45 x_2 x_3 zr4 _ zJ zm3 H locs ls hW (lv_sub hl [0, 1, 2, 3] rfl) h
  have zL_4 :  ∀ (n : Nat) (x_2 : Int32) (x_3 : Int32) (M : zMem) (H : Heap) (locs : List Loc) (ls : Array Slot), zWo w s.heap M H locs → lv_has ls 5 [(0, .ref (zad w 0)), (1, .int a1), (2, .int x_2), (3, .int x_3)] → zlp2 (wpB_Model_least_4 a1   post) n x_2 x_3 M → W p l e (zRm 2 48) s m ([.ref (zad w 0), .int a1] : List Value).toArray below meth c H locs 0 0 (MQ below (va_Qi post (zB w) (zA w)) ([.ref (zad w 0), .int a1] : List Value).toArray s 0 0 (zA w)) (F0 m 4 ls []) := by
    intro n
    induction n with
    | zero => intro x_2 x_3 M H locs ls hW hl h; exact h.elim
    | succ n zJ =>
      intro x_2 x_3 M H locs ls hW hl h
      have h : wpB_Model_least_4 a1   post (zlp2 (wpB_Model_least_4 a1   post) n) x_2 x_3 M := h
      unfold wpB_Model_least_4 at h
      refine lv_iload_n hx hb dX11_least_4 rfl (lv_at hl 3 rfl) ?_
      refine lv_aload_n hx hb dX11_least_5 rfl (lv_at hl 0 rfl) ?_
      refine zg_Model_many X hW h0 zu_1038 dX11_least_6 ?_
      refine lv_icmp_ge (tgt := 75) hx hb dX11_least_9 rfl (fun c => ?_) (fun c => ?_)
      · replace h := h.1 c
        refine lv_iload_n hx hb dX11_least_75 rfl (lv_at hl 2 rfl) ?_
        exact zreti X hr hlk hW h dX11_least_76
      · replace h := h.2 c
        refine lv_aload_n hx hb dX11_least_12 rfl (lv_at hl 0 rfl) ?_
        refine lv_iload_n hx hb dX11_least_13 rfl (lv_at hl 1 rfl) ?_
        refine lv_iload_n hx hb dX11_least_14 rfl (lv_at hl 3 rfl) ?_
        refine lv_iconst hx hb dX11_least_15 zc_i0 ?_
        refine zcalli (zrunV (As := [.int a1, .int x_3, .int 0]) (rest := []) X hml hl hW h0.1 rfl zk_Model_195 (c_Model_at h0 h) rfl ⟨Nat.le_of_ble_eq_true rfl, Nat.le_of_ble_eq_true rfl⟩ ⟨Nat.le_refl 0, Nat.le_refl 0⟩ rfl (Nat.le_of_ble_eq_true rfl) dX11_least_16) hW (fun zr2 zm1 H locs h hW => ?_)
        refine lv_iconst hx hb dX11_least_19 zc_i3 ?_
        refine lv_icmp_eq (tgt := 34) hx hb dX11_least_20 rfl (fun c => ?_) (fun c => ?_)
        · replace h := h.1 c
          exact zJ_34 x_2 x_3 _ zJ zm1 H locs ls hW (lv_sub hl [0, 1, 2, 3] rfl) h
        · replace h := h.2 c
          refine lv_aload_n hx hb dX11_least_23 rfl (lv_at hl 0 rfl) ?_
          refine lv_iload_n hx hb dX11_least_24 rfl (lv_at hl 1 rfl) ?_
          refine lv_iload_n hx hb dX11_least_25 rfl (lv_at hl 3 rfl) ?_
          refine lv_iconst hx hb dX11_least_26 zc_i0 ?_
          refine zcalli (zrunV (As := [.int a1, .int x_3, .int 0]) (rest := []) X hml hl hW h0.1 rfl zk_Model_195 (c_Model_at h0 h) rfl ⟨Nat.le_of_ble_eq_true rfl, Nat.le_of_ble_eq_true rfl⟩ ⟨Nat.le_refl 0, Nat.le_refl 0⟩ rfl (Nat.le_of_ble_eq_true rfl) dX11_least_27) hW (fun zr10 zm9 H locs h hW => ?_)
          refine lv_iconst hx hb dX11_least_30 zc_i1 ?_
          refine lv_icmp_ne (tgt := 44) hx hb dX11_least_31 rfl (fun c => ?_) (fun c => ?_)
          · replace h := h.1 c
            refine lv_iconst hx hb dX11_least_44 zc_i0 ?_
            exact zJ_45 x_2 x_3 0 _ zJ zm9 H locs ls hW (lv_sub hl [0, 1, 2, 3] rfl) h
          · replace h := h.2 c
            exact zJ_34 x_2 x_3 _ zJ zm9 H locs ls hW (lv_sub hl [0, 1, 2, 3] rfl) h
  unfold wp_Model_least at h
  have zMain : ∀ (H : Heap) (locs : List Loc) (ls : Array Slot), zWo w s.heap M H locs → lv_has ls 5 [(0, .ref (zad w 0)), (1, .int a1)] → W p l e (zRm 2 48) s m ([.ref (zad w 0), .int a1] : List Value).toArray below meth c H locs 0 0 (MQ below (va_Qi post (zB w) (zA w)) ([.ref (zad w 0), .int a1] : List Value).toArray s 0 0 (zA w)) (F0 m 0 ls []) := by
    intro H locs ls hW hl
    refine lv_iconst hx hb dX11_least_0 zc_i0 ?_
    refine lv_istore_n (lv' := [(2, .int 0), (0, .ref (zad w 0)), (1, .int a1)]) hx hb dX11_least_1 rfl hl (Nat.le_of_ble_eq_true rfl) rfl (fun ls hl => ?_)
    refine lv_iconst hx hb dX11_least_2 zc_i0 ?_
    refine lv_istore_n (lv' := [(3, .int 0), (2, .int 0), (0, .ref (zad w 0)), (1, .int a1)]) hx hb dX11_least_3 rfl hl (Nat.le_of_ble_eq_true rfl) rfl (fun ls hl => ?_)
    obtain ⟨n, h⟩ := h
    refine zL_4   n 0 0 M H locs ls hW (lv_sub hl [2, 3, 1, 0] rfl) h
  exact zMain s.heap [] ls hW hl
def wpB_Model_settle_15 (a1 : Int32)  (K44 : Int32 → zMem → Prop) (Q : zMem → Prop) (J : Int32 → Int32 → zMem → Prop) (x_2 : Int32) (x_3 : Int32) (M : zMem) : Prop :=
  (x_3 < 0 → K44 x_2 M) ∧ (¬ x_3 < 0 → wp_Model_does a1 x_3 M (fun zr3 zm2 => (¬ zr3 = 0 → ∀ zx4 : Int32, zx4 = x_3 + (-1) → J 1 zx4 zm2) ∧ (zr3 = 0 → (x_2 = 0 → ∀ zx5 : Int32, zx5 = x_3 + (-1) → J 0 zx5 zm2) ∧ (¬ x_2 = 0 → ∀ zx6 : Int32, zx6 = x_3 + (-1) → J 1 zx6 zm2))))
def wpB_Model_settle_2 (a1 : Int32)  (K47 : zMem → Prop) (Q : zMem → Prop) (J : Int32 → zMem → Prop) (x_2 : Int32) (M : zMem) : Prop :=
  (x_2 = 0 → K47 M) ∧ (¬ x_2 = 0 → ∀ zx1 : Int32, zx1 = (M 0 18) - 1 → ∃ n : Nat, zlp2 (wpB_Model_settle_15 a1  (fun (zx8 : Int32) (zm7 : zMem) => J zx8 zm7) Q) n 0 zx1 M)
def wp_Model_settle (a1 : Int32) (M : zMem) (Q : zMem → Prop) : Prop :=
  ∃ n : Nat, zlp1 (wpB_Model_settle_2 a1  (fun (zm9 : zMem) => wp_Model_least a1 zm9 (fun zr11 zm10 => (¬ zr11 = 0 → vp_in ((96 * a1) + 3) 384 ∧ ∀ zm12 : zMem, zm12 = zup zm10 6 (ix ((96 * a1) + 3)) 0 → Q zm12) ∧ (zr11 = 0 → vp_in ((96 * a1) + 3) 384 ∧ ∀ zm13 : zMem, zm13 = zup zm10 6 (ix ((96 * a1) + 3)) 1 → Q zm13))) Q) n 1 M
set_option maxHeartbeats 4000000 in
set_option maxRecDepth 20000 in
theorem c_Model_settle {l : Launch} {w : zWd} {a1 : Int32} {M : zMem} {post : zMem → Prop} (h0 : zI_Model w) (h : wp_Model_settle a1 M post) : zMv l ⟨"HandToHandModel", "settle", "(I)V"⟩ prog_13_method_45_code 4 none 6 144 w [.ref (zad w 0), .int a1] M post := by
  refine zMet (by decide) (Nat.le_of_ble_eq_true rfl) ?_
  intro p e s m below meth c X hr hlk hml hW ls hl
  have hx := X.1
  have hb := X.2.1
  have hl : lv_has ls 4 [(0, .ref (zad w 0)), (1, .int a1)] := hl
  have zL_15 : ∀ (K44 : Int32 → zMem → Prop) (zK44 : ∀ (y_2 : Int32) (M : zMem) (H : Heap) (locs : List Loc) (ls : Array Slot), zWo w s.heap M H locs → lv_has ls 4 [(0, .ref (zad w 0)), (1, .int a1), (2, .int y_2)] → K44 y_2 M → W p l e (zRm 6 144) s m ([.ref (zad w 0), .int a1] : List Value).toArray below meth c H locs 0 0 (MQ below (va_Qv post (zB w) (zA w)) ([.ref (zad w 0), .int a1] : List Value).toArray s 0 0 (zA w)) (F0 m 44 ls [])), ∀ (n : Nat) (x_2 : Int32) (x_3 : Int32) (M : zMem) (H : Heap) (locs : List Loc) (ls : Array Slot), zWo w s.heap M H locs → lv_has ls 4 [(0, .ref (zad w 0)), (1, .int a1), (2, .int x_2), (3, .int x_3)] → zlp2 (wpB_Model_settle_15 a1  K44 post) n x_2 x_3 M → W p l e (zRm 6 144) s m ([.ref (zad w 0), .int a1] : List Value).toArray below meth c H locs 0 0 (MQ below (va_Qv post (zB w) (zA w)) ([.ref (zad w 0), .int a1] : List Value).toArray s 0 0 (zA w)) (F0 m 15 ls []) := by
    intro K44 zK44 n
    induction n with
    | zero => intro x_2 x_3 M H locs ls hW hl h; exact h.elim
    | succ n zJ =>
      intro x_2 x_3 M H locs ls hW hl h
      have h : wpB_Model_settle_15 a1  K44 post (zlp2 (wpB_Model_settle_15 a1  K44 post) n) x_2 x_3 M := h
      unfold wpB_Model_settle_15 at h
      refine lv_iload_n hx hb dX11_settle_15 rfl (lv_at hl 3 rfl) ?_
      refine lv_if_lt (tgt := 44) hx hb dX11_settle_16 rfl (fun c => ?_) (fun c => ?_)
      · replace h := h.1 c
        exact zK44 x_2 M H locs ls hW (lv_sub hl [0, 1, 2] rfl) h
      · replace h := h.2 c
        refine lv_aload_n hx hb dX11_settle_19 rfl (lv_at hl 0 rfl) ?_
        refine lv_iload_n hx hb dX11_settle_20 rfl (lv_at hl 1 rfl) ?_
        refine lv_iload_n hx hb dX11_settle_21 rfl (lv_at hl 3 rfl) ?_
        refine zcalli (zrunV (As := [.int a1, .int x_3]) (rest := []) X hml hl hW h0.1 rfl zk_Model_234 (c_Model_does h0 h) rfl ⟨Nat.le_of_ble_eq_true rfl, Nat.le_of_ble_eq_true rfl⟩ ⟨Nat.le_refl 0, Nat.le_refl 0⟩ rfl (Nat.le_of_ble_eq_true rfl) dX11_settle_22) hW (fun zr3 zm2 H locs h hW => ?_)
        refine lv_if_ne (tgt := 32) hx hb dX11_settle_25 rfl (fun c => ?_) (fun c => ?_)
        · replace h := h.1 c
          refine lv_iconst hx hb dX11_settle_32 zc_i1 ?_
          refine lv_goto (tgt := 37) hx hb dX11_settle_33 rfl ?_
          refine lv_istore_n (lv' := [(2, .int 1), (0, .ref (zad w 0)), (1, .int a1), (3, .int x_3)]) hx hb dX11_settle_37 rfl hl (Nat.le_of_ble_eq_true rfl) rfl (fun ls hl => ?_)
          obtain ⟨zx4, ezx4⟩ : ∃ y : Int32, y = x_3 + (-1) := ⟨_, rfl⟩
          replace h := h zx4 ezx4
          refine lv_iinc (v := zx4) (lv' := [(3, .int zx4), (2, .int 1), (0, .ref (zad w 0)), (1, .int a1)]) hx hb dX11_settle_38 hl (k := 3) rfl (by rw [ezx4, zc_im1]) (Nat.le_of_ble_eq_true rfl) rfl (fun ls hl => ?_)
          refine lv_goto (tgt := 15) hx hb dX11_settle_41 rfl ?_
          exact zJ 1 zx4 zm2 H locs ls hW (lv_sub hl [2, 3, 1, 0] rfl) h
        · replace h := h.2 c
          refine lv_iload_n hx hb dX11_settle_28 rfl (lv_at hl 2 rfl) ?_
          refine lv_if_eq (tgt := 36) hx hb dX11_settle_29 rfl (fun c => ?_) (fun c => ?_)
          · replace h := h.1 c
            refine lv_iconst hx hb dX11_settle_36 zc_i0 ?_
            refine lv_istore_n (lv' := [(2, .int 0), (0, .ref (zad w 0)), (1, .int a1), (3, .int x_3)]) hx hb dX11_settle_37 rfl hl (Nat.le_of_ble_eq_true rfl) rfl (fun ls hl => ?_)
            obtain ⟨zx5, ezx5⟩ : ∃ y : Int32, y = x_3 + (-1) := ⟨_, rfl⟩
            replace h := h zx5 ezx5
            refine lv_iinc (v := zx5) (lv' := [(3, .int zx5), (2, .int 0), (0, .ref (zad w 0)), (1, .int a1)]) hx hb dX11_settle_38 hl (k := 3) rfl (by rw [ezx5, zc_im1]) (Nat.le_of_ble_eq_true rfl) rfl (fun ls hl => ?_)
            refine lv_goto (tgt := 15) hx hb dX11_settle_41 rfl ?_
            exact zJ 0 zx5 zm2 H locs ls hW (lv_sub hl [2, 3, 1, 0] rfl) h
          · replace h := h.2 c
            refine lv_iconst hx hb dX11_settle_32 zc_i1 ?_
            refine lv_goto (tgt := 37) hx hb dX11_settle_33 rfl ?_
            refine lv_istore_n (lv' := [(2, .int 1), (0, .ref (zad w 0)), (1, .int a1), (3, .int x_3)]) hx hb dX11_settle_37 rfl hl (Nat.le_of_ble_eq_true rfl) rfl (fun ls hl => ?_)
            obtain ⟨zx6, ezx6⟩ : ∃ y : Int32, y = x_3 + (-1) := ⟨_, rfl⟩
            replace h := h zx6 ezx6
            refine lv_iinc (v := zx6) (lv' := [(3, .int zx6), (2, .int 1), (0, .ref (zad w 0)), (1, .int a1)]) hx hb dX11_settle_38 hl (k := 3) rfl (by rw [ezx6, zc_im1]) (Nat.le_of_ble_eq_true rfl) rfl (fun ls hl => ?_)
            refine lv_goto (tgt := 15) hx hb dX11_settle_41 rfl ?_
            exact zJ 1 zx6 zm2 H locs ls hW (lv_sub hl [2, 3, 1, 0] rfl) h
  have zL_2 : ∀ (K47 : zMem → Prop) (zK47 : ∀ (M : zMem) (H : Heap) (locs : List Loc) (ls : Array Slot), zWo w s.heap M H locs → lv_has ls 4 [(0, .ref (zad w 0)), (1, .int a1)] → K47 M → W p l e (zRm 6 144) s m ([.ref (zad w 0), .int a1] : List Value).toArray below meth c H locs 0 0 (MQ below (va_Qv post (zB w) (zA w)) ([.ref (zad w 0), .int a1] : List Value).toArray s 0 0 (zA w)) (F0 m 47 ls [])), ∀ (n : Nat) (x_2 : Int32) (M : zMem) (H : Heap) (locs : List Loc) (ls : Array Slot), zWo w s.heap M H locs → lv_has ls 4 [(0, .ref (zad w 0)), (1, .int a1), (2, .int x_2)] → zlp1 (wpB_Model_settle_2 a1  K47 post) n x_2 M → W p l e (zRm 6 144) s m ([.ref (zad w 0), .int a1] : List Value).toArray below meth c H locs 0 0 (MQ below (va_Qv post (zB w) (zA w)) ([.ref (zad w 0), .int a1] : List Value).toArray s 0 0 (zA w)) (F0 m 2 ls []) := by
    intro K47 zK47 n
    induction n with
    | zero => intro x_2 M H locs ls hW hl h; exact h.elim
    | succ n zJ =>
      intro x_2 M H locs ls hW hl h
      have h : wpB_Model_settle_2 a1  K47 post (zlp1 (wpB_Model_settle_2 a1  K47 post) n) x_2 M := h
      unfold wpB_Model_settle_2 at h
      refine lv_iload_n hx hb dX11_settle_2 rfl (lv_at hl 2 rfl) ?_
      refine lv_if_eq (tgt := 47) hx hb dX11_settle_3 rfl (fun c => ?_) (fun c => ?_)
      · replace h := h.1 c
        exact zK47 M H locs ls hW (lv_sub hl [0, 1] rfl) h
      · replace h := h.2 c
        refine lv_iconst hx hb dX11_settle_6 zc_i0 ?_
        refine lv_istore_n (lv' := [(2, .int 0), (0, .ref (zad w 0)), (1, .int a1)]) hx hb dX11_settle_7 rfl hl (Nat.le_of_ble_eq_true rfl) rfl (fun ls hl => ?_)
        refine lv_aload_n hx hb dX11_settle_8 rfl (lv_at hl 1 rfl) ?_
        refine zg_Model_many X hW h0 zu_1038 dX11_settle_9 ?_
        refine lv_iconst hx hb dX11_settle_12 zc_i1 ?_
        refine lv_isub hx hb dX11_settle_13 ?_
        refine lv_topi (fun zx1 ezx1 => ?_)
        replace h := h zx1 ezx1
        refine lv_istore_n (lv' := [(3, .int zx1), (2, .int 0), (0, .ref (zad w 0)), (1, .int a1)]) hx hb dX11_settle_14 rfl hl (Nat.le_of_ble_eq_true rfl) rfl (fun ls hl => ?_)
        obtain ⟨n, h⟩ := h
        refine zL_15  _ (fun zx8 zm7 H locs ls hW hl h => ?_) n 0 zx1 M H locs ls hW (lv_sub hl [2, 3, 1, 0] rfl) h
        · skip
          refine lv_goto (tgt := 2) hx hb dX11_settle_44 rfl ?_
          exact zJ zx8 zm7 H locs ls hW (lv_sub hl [0, 1, 2] rfl) h
  unfold wp_Model_settle at h
  have zMain : ∀ (H : Heap) (locs : List Loc) (ls : Array Slot), zWo w s.heap M H locs → lv_has ls 4 [(0, .ref (zad w 0)), (1, .int a1)] → W p l e (zRm 6 144) s m ([.ref (zad w 0), .int a1] : List Value).toArray below meth c H locs 0 0 (MQ below (va_Qv post (zB w) (zA w)) ([.ref (zad w 0), .int a1] : List Value).toArray s 0 0 (zA w)) (F0 m 0 ls []) := by
    intro H locs ls hW hl
    refine lv_iconst hx hb dX11_settle_0 zc_i1 ?_
    refine lv_istore_n (lv' := [(2, .int 1), (0, .ref (zad w 0)), (1, .int a1)]) hx hb dX11_settle_1 rfl hl (Nat.le_of_ble_eq_true rfl) rfl (fun ls hl => ?_)
    obtain ⟨n, h⟩ := h
    refine zL_2  _ (fun  zm9 H locs ls hW hl h => ?_) n 1 M H locs ls hW (lv_sub hl [1, 2, 0] rfl) h
    · skip
      refine lv_aload_n hx hb dX11_settle_47 rfl (lv_at hl 0 rfl) ?_
      refine zg_Model_bench X hW h0 zu_1036 dX11_settle_48 ?_
      refine lv_bipush hx hb dX11_settle_51 zc_b96 ?_
      refine lv_iload_n hx hb dX11_settle_53 rfl (lv_at hl 1 rfl) ?_
      refine lv_imul hx hb dX11_settle_54 ?_
      refine lv_iconst hx hb dX11_settle_55 zc_i3 ?_
      refine lv_iadd hx hb dX11_settle_56 ?_
      refine lv_aload_n hx hb dX11_settle_57 rfl (lv_at hl 0 rfl) ?_
      refine lv_iload_n hx hb dX11_settle_58 rfl (lv_at hl 1 rfl) ?_
      refine zcalli (zrunV (As := [.int a1]) (rest := [.int ((96 * a1) + 3), .ref (zad w 6)]) X hml hl hW h0.1 rfl zk_Model_237 (c_Model_least h0 h) rfl ⟨Nat.le_of_ble_eq_true rfl, Nat.le_of_ble_eq_true rfl⟩ ⟨Nat.le_refl 0, Nat.le_refl 0⟩ rfl (Nat.le_of_ble_eq_true rfl) dX11_settle_59) hW (fun zr11 zm10 H locs h hW => ?_)
      refine lv_if_ne (tgt := 69) hx hb dX11_settle_62 rfl (fun c => ?_) (fun c => ?_)
      · replace h := h.1 c
        refine lv_iconst hx hb dX11_settle_69 zc_i0 ?_
        obtain ⟨g, h⟩ := h
        refine ziast X hW h0.2.2.2.2.2.2.1 g dX11_settle_70 (fun H locs zm12 ezm12 hW => ?_)
        replace h := h zm12 ezm12
        exact zretv X hr hlk hW h dX11_settle_71
      · replace h := h.2 c
        refine lv_iconst hx hb dX11_settle_65 zc_i1 ?_
        refine lv_goto (tgt := 70) hx hb dX11_settle_66 rfl ?_
        obtain ⟨g, h⟩ := h
        refine ziast X hW h0.2.2.2.2.2.2.1 g dX11_settle_70 (fun H locs zm13 ezm13 hW => ?_)
        replace h := h zm13 ezm13
        exact zretv X hr hlk hW h dX11_settle_71
  exact zMain s.heap [] ls hW hl
def wp_Model_awake  (M : zMem) (Q : zMem → Prop) : Prop :=
  (¬ (M 0 24) = 0 → Q M) ∧ ((M 0 24) = 0 → wp_Model_asNumbered M (fun zm1 => wp_Model_settle 0 zm1 (fun zm3 => ∀ zm5 : zMem, zm5 = zup zm3 0 24 1 → Q zm5)))
set_option maxHeartbeats 4000000 in
set_option maxRecDepth 20000 in
theorem c_Model_awake {l : Launch} {w : zWd} {M : zMem} {post : zMem → Prop} (h0 : zI_Model w) (h : wp_Model_awake  M post) : zMv l ⟨"HandToHandModel", "awake", "()V"⟩ prog_13_method_48_code 1 none 7 167 w [.ref (zad w 0)] M post := by
  refine zMet (by decide) (Nat.le_of_ble_eq_true rfl) ?_
  intro p e s m below meth c X hr hlk hml hW ls hl
  have hx := X.1
  have hb := X.2.1
  have hl : lv_has ls 1 [(0, .ref (zad w 0))] := hl
  unfold wp_Model_awake at h
  have zMain : ∀ (H : Heap) (locs : List Loc) (ls : Array Slot), zWo w s.heap M H locs → lv_has ls 1 [(0, .ref (zad w 0))] → W p l e (zRm 7 167) s m ([.ref (zad w 0)] : List Value).toArray below meth c H locs 0 0 (MQ below (va_Qv post (zB w) (zA w)) ([.ref (zad w 0)] : List Value).toArray s 0 0 (zA w)) (F0 m 0 ls []) := by
    intro H locs ls hW hl
    refine lv_aload_n hx hb dX11_awake_0 rfl (lv_at hl 0 rfl) ?_
    refine zg_Model_isAwake X hW h0 zu_1044 dX11_awake_1 ?_
    refine lv_if_ne (tgt := 21) hx hb dX11_awake_4 rfl (fun c => ?_) (fun c => ?_)
    · replace h := h.1 c
      exact zretv X hr hlk hW h dX11_awake_21
    · replace h := h.2 c
      refine lv_aload_n hx hb dX11_awake_7 rfl (lv_at hl 0 rfl) ?_
      refine zcallv (zrunV (As := []) (rest := []) X hml hl hW h0.1 rfl zk_Model_243 (c_Model_asNumbered h0 h) rfl ⟨Nat.le_of_ble_eq_true rfl, Nat.le_of_ble_eq_true rfl⟩ ⟨Nat.le_refl 0, Nat.le_refl 0⟩ rfl (Nat.le_of_ble_eq_true rfl) dX11_awake_8) hW (fun zm1 H locs h hW => ?_)
      refine lv_aload_n hx hb dX11_awake_11 rfl (lv_at hl 0 rfl) ?_
      refine lv_iconst hx hb dX11_awake_12 zc_i0 ?_
      refine zcallv (zrunV (As := [.int 0]) (rest := []) X hml hl hW h0.1 rfl zk_Model_246 (c_Model_settle h0 h) rfl ⟨Nat.le_of_ble_eq_true rfl, Nat.le_of_ble_eq_true rfl⟩ ⟨Nat.le_refl 0, Nat.le_refl 0⟩ rfl (Nat.le_of_ble_eq_true rfl) dX11_awake_13) hW (fun zm3 H locs h hW => ?_)
      refine lv_aload_n hx hb dX11_awake_16 rfl (lv_at hl 0 rfl) ?_
      refine lv_iconst hx hb dX11_awake_17 zc_i1 ?_
      refine zp_Model_isAwake X hW h0 zbo_1 zu_1044 dX11_awake_18 (fun H locs zm5 ezm5 hW => ?_)
      replace h := h zm5 ezm5
      exact zretv X hr hlk hW h dX11_awake_21
  exact zMain s.heap [] ls hW hl
def wp_Model_beginAnew  (M : zMem) (Q : zMem → Prop) : Prop :=
  wp_Model_clear 0 M (fun zm1 => ∀ zm3 : zMem, zm3 = zup zm1 0 24 0 → wp_Model_awake zm3 (fun zm4 => Q zm4))
set_option maxHeartbeats 4000000 in
set_option maxRecDepth 20000 in
theorem c_Model_beginAnew {l : Launch} {w : zWd} {M : zMem} {post : zMem → Prop} (h0 : zI_Model w) (h : wp_Model_beginAnew  M post) : zMv l ⟨"HandToHandModel", "beginAnew", "()V"⟩ prog_13_method_49_code 1 none 8 187 w [.ref (zad w 0)] M post := by
  refine zMet (by decide) (Nat.le_of_ble_eq_true rfl) ?_
  intro p e s m below meth c X hr hlk hml hW ls hl
  have hx := X.1
  have hb := X.2.1
  have hl : lv_has ls 1 [(0, .ref (zad w 0))] := hl
  unfold wp_Model_beginAnew at h
  have zMain : ∀ (H : Heap) (locs : List Loc) (ls : Array Slot), zWo w s.heap M H locs → lv_has ls 1 [(0, .ref (zad w 0))] → W p l e (zRm 8 187) s m ([.ref (zad w 0)] : List Value).toArray below meth c H locs 0 0 (MQ below (va_Qv post (zB w) (zA w)) ([.ref (zad w 0)] : List Value).toArray s 0 0 (zA w)) (F0 m 0 ls []) := by
    intro H locs ls hW hl
    refine lv_aload_n hx hb dX11_beginAnew_0 rfl (lv_at hl 0 rfl) ?_
    refine lv_iconst hx hb dX11_beginAnew_1 zc_i0 ?_
    refine zcallv (zrunV (As := [.int 0]) (rest := []) X hml hl hW h0.1 rfl zk_Model_249 (c_Model_clear h0 h) rfl ⟨Nat.le_of_ble_eq_true rfl, Nat.le_of_ble_eq_true rfl⟩ ⟨Nat.le_refl 0, Nat.le_refl 0⟩ rfl (Nat.le_of_ble_eq_true rfl) dX11_beginAnew_2) hW (fun zm1 H locs h hW => ?_)
    refine lv_aload_n hx hb dX11_beginAnew_5 rfl (lv_at hl 0 rfl) ?_
    refine lv_iconst hx hb dX11_beginAnew_6 zc_i0 ?_
    refine zp_Model_isAwake X hW h0 zbo_0 zu_1044 dX11_beginAnew_7 (fun H locs zm3 ezm3 hW => ?_)
    replace h := h zm3 ezm3
    refine lv_aload_n hx hb dX11_beginAnew_10 rfl (lv_at hl 0 rfl) ?_
    refine zcallv (zrunV (As := []) (rest := []) X hml hl hW h0.1 rfl zk_Model_180 (c_Model_awake h0 h) rfl ⟨Nat.le_of_ble_eq_true rfl, Nat.le_of_ble_eq_true rfl⟩ ⟨Nat.le_refl 0, Nat.le_refl 0⟩ rfl (Nat.le_of_ble_eq_true rfl) dX11_beginAnew_11) hW (fun zm4 H locs h hW => ?_)
    exact zretv X hr hlk hW h dX11_beginAnew_14
  exact zMain s.heap [] ls hW hl
def wpB_Model_text_29  (x_1 : Int32) (K58 : zMem → Prop) (Q : Int32 → zMem → Prop) (J : Int32 → zMem → Prop) (x_2 : Int32) (M : zMem) : Prop :=
  (100 ≤ x_2 → K58 M) ∧ (¬ 100 ≤ x_2 → (¬ x_2 = 6 → vp_in x_2 100 ∧ ∀ zm6 : zMem, zm6 = zup M 5 (ix x_2) 0 → ∀ zx7 : Int32, zx7 = x_2 + 1 → J zx7 zm6) ∧ (x_2 = 6 → vp_in x_2 100 ∧ ∀ zm8 : zMem, zm8 = zup M 5 (ix x_2) 1 → ∀ zx9 : Int32, zx9 = x_2 + 1 → J zx9 zm8))
def wpB_Model_text_62   (K86 : Int32 → zMem → Prop) (Q : Int32 → zMem → Prop) (J : Int32 → zMem → Prop) (x_1 : Int32) (M : zMem) : Prop :=
  (¬ (M 0 3) = 0 → K86 x_1 M) ∧ ((M 0 3) = 0 → ((M 0 7) = 0 → K86 x_1 M) ∧ (¬ (M 0 7) = 0 → wp_Model_readLine M (fun zm13 => ∀ zx15 : Int32, zx15 = x_1 + 1 → J zx15 zm13)))
def wpB_Model_text_145  (x_1 : Int32) (K169 : zMem → Prop) (Q : Int32 → zMem → Prop) (J : Int32 → zMem → Prop) (x_2 : Int32) (M : zMem) : Prop :=
  (100 ≤ x_2 → K169 M) ∧ (¬ 100 ≤ x_2 → vp_in x_2 100 ∧ vp_in x_2 100 ∧ ∀ zm20 : zMem, zm20 = zup M 4 (ix x_2) (M 5 (ix x_2)) → ∀ zx21 : Int32, zx21 = x_2 + 1 → J zx21 zm20)
def wpJ_Model_text_115   (Q : Int32 → zMem → Prop) (x_1 : Int32)  (M : zMem) : Prop :=
  ∀ zm18 : zMem, zm18 = zup M 0 1 0 → ∀ zm19 : zMem, zm19 = zup zm18 0 2 (zm18 0 3) → ((zm19 0 3) ≤ 0 → ∃ n : Nat, zlp1 (wpB_Model_text_145  x_1 (fun (zm22 : zMem) => wp_Model_beginAnew zm22 (fun zm23 => vp_in 0 2 ∧ ∀ zm25 : zMem, zm25 = zup zm23 7 (ix 0) (vp_nar .boolean 0) → vp_in 1 2 ∧ ∀ zm26 : zMem, zm26 = zup zm25 7 (ix 1) (vp_nar .boolean 0) → Q x_1 zm26)) Q) n 0 zm19) ∧ (¬ (zm19 0 3) ≤ 0 → Q (((-10)) - (zm19 0 4)) zm19)
def wpJ_Model_text_86   (Q : Int32 → zMem → Prop) (x_1 : Int32)  (M : zMem) : Prop :=
  (¬ (M 0 3) = 0 → wpJ_Model_text_115  Q x_1 M) ∧ ((M 0 3) = 0 → ∀ zm27 : zMem, zm27 = zup M 0 6 (M 0 1) → wp_Model_wholeFault zm27 (fun zr29 zm28 => (zr29 ≤ 0 → wpJ_Model_text_115  Q x_1 zm28) ∧ (¬ zr29 ≤ 0 → wp_Model_fails zr29 zm28 (fun zm30 => wpJ_Model_text_115  Q x_1 zm30))))
def wp_Model_text  (M : zMem) (Q : Int32 → zMem → Prop) : Prop :=
  ∀ zm1 : zMem, zm1 = zup M 0 3 0 → ∀ zm2 : zMem, zm2 = zup zm1 0 5 0 → ∀ zm3 : zMem, zm3 = zup zm2 0 13 0 → ∀ zm4 : zMem, zm4 = zup zm3 0 14 0 → ∀ zm5 : zMem, zm5 = zup zm4 0 15 0 → ∃ n : Nat, zlp1 (wpB_Model_text_29  0 (fun (zm10 : zMem) => wp_Model_next zm10 (fun zm11 => ∃ n : Nat, zlp1 (wpB_Model_text_62   (fun (zx17 : Int32) (zm16 : zMem) => wpJ_Model_text_86  Q zx17 zm16) Q) n 0 zm11)) Q) n 0 zm5
set_option maxHeartbeats 4000000 in
set_option maxRecDepth 20000 in
theorem c_Model_text {l : Launch} {w : zWd} {M : zMem} {post : Int32 → zMem → Prop} (h0 : zI_Model w) (h : wp_Model_text  M post) : zMi l ⟨"HandToHandModel", "text", "()I"⟩ prog_13_method_20_code 3 (Option.some .int) 9 207 w [.ref (zad w 0)] M post := by
  refine zMet (by decide) (Nat.le_of_ble_eq_true rfl) ?_
  intro p e s m below meth c X hr hlk hml hW ls hl
  have hx := X.1
  have hb := X.2.1
  have hl : lv_has ls 3 [(0, .ref (zad w 0))] := hl
  have zL_29 : ∀ (x_1 : Int32) (K58 : zMem → Prop) (zK58 : ∀ (M : zMem) (H : Heap) (locs : List Loc) (ls : Array Slot), zWo w s.heap M H locs → lv_has ls 3 [(0, .ref (zad w 0)), (1, .int x_1)] → K58 M → W p l e (zRm 9 207) s m ([.ref (zad w 0)] : List Value).toArray below meth c H locs 0 0 (MQ below (va_Qi post (zB w) (zA w)) ([.ref (zad w 0)] : List Value).toArray s 0 0 (zA w)) (F0 m 58 ls [])), ∀ (n : Nat) (x_2 : Int32) (M : zMem) (H : Heap) (locs : List Loc) (ls : Array Slot), zWo w s.heap M H locs → lv_has ls 3 [(0, .ref (zad w 0)), (1, .int x_1), (2, .int x_2)] → zlp1 (wpB_Model_text_29  x_1 K58 post) n x_2 M → W p l e (zRm 9 207) s m ([.ref (zad w 0)] : List Value).toArray below meth c H locs 0 0 (MQ below (va_Qi post (zB w) (zA w)) ([.ref (zad w 0)] : List Value).toArray s 0 0 (zA w)) (F0 m 29 ls []) := by
    intro x_1 K58 zK58 n
    induction n with
    | zero => intro x_2 M H locs ls hW hl h; exact h.elim
    | succ n zJ =>
      intro x_2 M H locs ls hW hl h
      have h : wpB_Model_text_29  x_1 K58 post (zlp1 (wpB_Model_text_29  x_1 K58 post) n) x_2 M := h
      unfold wpB_Model_text_29 at h
      refine lv_iload_n hx hb dX11_text_29 rfl (lv_at hl 2 rfl) ?_
      refine lv_bipush hx hb dX11_text_30 zc_b100 ?_
      refine lv_icmp_ge (tgt := 58) hx hb dX11_text_32 rfl (fun c => ?_) (fun c => ?_)
      · replace h := h.1 c
        exact zK58 M H locs ls hW (lv_sub hl [0, 1] rfl) h
      · replace h := h.2 c
        refine lv_aload_n hx hb dX11_text_35 rfl (lv_at hl 0 rfl) ?_
        refine zg_Model_reads X hW h0 zu_1032 dX11_text_36 ?_
        refine lv_iload_n hx hb dX11_text_39 rfl (lv_at hl 2 rfl) ?_
        refine lv_iload_n hx hb dX11_text_40 rfl (lv_at hl 2 rfl) ?_
        refine lv_bipush hx hb dX11_text_41 zc_b6 ?_
        refine lv_icmp_ne (tgt := 50) hx hb dX11_text_43 rfl (fun c => ?_) (fun c => ?_)
        · replace h := h.1 c
          refine lv_iconst hx hb dX11_text_50 zc_i0 ?_
          obtain ⟨g, h⟩ := h
          refine ziast X hW h0.2.2.2.2.2.1 g dX11_text_51 (fun H locs zm6 ezm6 hW => ?_)
          replace h := h zm6 ezm6
          obtain ⟨zx7, ezx7⟩ : ∃ y : Int32, y = x_2 + 1 := ⟨_, rfl⟩
          replace h := h zx7 ezx7
          refine lv_iinc (v := zx7) (lv' := [(2, .int zx7), (0, .ref (zad w 0)), (1, .int x_1)]) hx hb dX11_text_52 hl (k := 2) rfl (by rw [ezx7, zc_i1]) (Nat.le_of_ble_eq_true rfl) rfl (fun ls hl => ?_)
          refine lv_goto (tgt := 29) hx hb dX11_text_55 rfl ?_
          exact zJ zx7 zm6 H locs ls hW (lv_sub hl [1, 2, 0] rfl) h
        · replace h := h.2 c
          refine lv_iconst hx hb dX11_text_46 zc_i1 ?_
          refine lv_goto (tgt := 51) hx hb dX11_text_47 rfl ?_
          obtain ⟨g, h⟩ := h
          refine ziast X hW h0.2.2.2.2.2.1 g dX11_text_51 (fun H locs zm8 ezm8 hW => ?_)
          replace h := h zm8 ezm8
          obtain ⟨zx9, ezx9⟩ : ∃ y : Int32, y = x_2 + 1 := ⟨_, rfl⟩
          replace h := h zx9 ezx9
          refine lv_iinc (v := zx9) (lv' := [(2, .int zx9), (0, .ref (zad w 0)), (1, .int x_1)]) hx hb dX11_text_52 hl (k := 2) rfl (by rw [ezx9, zc_i1]) (Nat.le_of_ble_eq_true rfl) rfl (fun ls hl => ?_)
          refine lv_goto (tgt := 29) hx hb dX11_text_55 rfl ?_
          exact zJ zx9 zm8 H locs ls hW (lv_sub hl [1, 2, 0] rfl) h
  have zL_62 : ∀ (K86 : Int32 → zMem → Prop) (zK86 : ∀ (y_1 : Int32) (M : zMem) (H : Heap) (locs : List Loc) (ls : Array Slot), zWo w s.heap M H locs → lv_has ls 3 [(0, .ref (zad w 0)), (1, .int y_1)] → K86 y_1 M → W p l e (zRm 9 207) s m ([.ref (zad w 0)] : List Value).toArray below meth c H locs 0 0 (MQ below (va_Qi post (zB w) (zA w)) ([.ref (zad w 0)] : List Value).toArray s 0 0 (zA w)) (F0 m 86 ls [])), ∀ (n : Nat) (x_1 : Int32) (M : zMem) (H : Heap) (locs : List Loc) (ls : Array Slot), zWo w s.heap M H locs → lv_has ls 3 [(0, .ref (zad w 0)), (1, .int x_1)] → zlp1 (wpB_Model_text_62   K86 post) n x_1 M → W p l e (zRm 9 207) s m ([.ref (zad w 0)] : List Value).toArray below meth c H locs 0 0 (MQ below (va_Qi post (zB w) (zA w)) ([.ref (zad w 0)] : List Value).toArray s 0 0 (zA w)) (F0 m 62 ls []) := by
    intro K86 zK86 n
    induction n with
    | zero => intro x_1 M H locs ls hW hl h; exact h.elim
    | succ n zJ =>
      intro x_1 M H locs ls hW hl h
      have h : wpB_Model_text_62   K86 post (zlp1 (wpB_Model_text_62   K86 post) n) x_1 M := h
      unfold wpB_Model_text_62 at h
      refine lv_aload_n hx hb dX11_text_62 rfl (lv_at hl 0 rfl) ?_
      refine zg_Model_wrong X hW h0 zu_1023 dX11_text_63 ?_
      refine lv_if_ne (tgt := 86) hx hb dX11_text_66 rfl (fun c => ?_) (fun c => ?_)
      · replace h := h.1 c
        exact zK86 x_1 M H locs ls hW (lv_sub hl [0, 1] rfl) h
      · replace h := h.2 c
        refine lv_aload_n hx hb dX11_text_69 rfl (lv_at hl 0 rfl) ?_
        refine zg_Model_token X hW h0 zu_1027 dX11_text_70 ?_
        refine lv_if_eq (tgt := 86) hx hb dX11_text_73 rfl (fun c => ?_) (fun c => ?_)
        · replace h := h.1 c
          exact zK86 x_1 M H locs ls hW (lv_sub hl [0, 1] rfl) h
        · replace h := h.2 c
          refine lv_aload_n hx hb dX11_text_76 rfl (lv_at hl 0 rfl) ?_
          refine zcallv (zrunV (As := []) (rest := []) X hml hl hW h0.1 rfl zk_Model_149 (c_Model_readLine h0 h) rfl ⟨Nat.le_of_ble_eq_true rfl, Nat.le_of_ble_eq_true rfl⟩ ⟨Nat.le_refl 0, Nat.le_refl 0⟩ rfl (Nat.le_of_ble_eq_true rfl) dX11_text_77) hW (fun zm13 H locs h hW => ?_)
          obtain ⟨zx15, ezx15⟩ : ∃ y : Int32, y = x_1 + 1 := ⟨_, rfl⟩
          replace h := h zx15 ezx15
          refine lv_iinc (v := zx15) (lv' := [(1, .int zx15), (0, .ref (zad w 0))]) hx hb dX11_text_80 hl (k := 1) rfl (by rw [ezx15, zc_i1]) (Nat.le_of_ble_eq_true rfl) rfl (fun ls hl => ?_)
          refine lv_goto (tgt := 62) hx hb dX11_text_83 rfl ?_
          exact zJ zx15 zm13 H locs ls hW (lv_sub hl [1, 0] rfl) h
  have zL_145 : ∀ (x_1 : Int32) (K169 : zMem → Prop) (zK169 : ∀ (M : zMem) (H : Heap) (locs : List Loc) (ls : Array Slot), zWo w s.heap M H locs → lv_has ls 3 [(0, .ref (zad w 0)), (1, .int x_1)] → K169 M → W p l e (zRm 9 207) s m ([.ref (zad w 0)] : List Value).toArray below meth c H locs 0 0 (MQ below (va_Qi post (zB w) (zA w)) ([.ref (zad w 0)] : List Value).toArray s 0 0 (zA w)) (F0 m 169 ls [])), ∀ (n : Nat) (x_2 : Int32) (M : zMem) (H : Heap) (locs : List Loc) (ls : Array Slot), zWo w s.heap M H locs → lv_has ls 3 [(0, .ref (zad w 0)), (1, .int x_1), (2, .int x_2)] → zlp1 (wpB_Model_text_145  x_1 K169 post) n x_2 M → W p l e (zRm 9 207) s m ([.ref (zad w 0)] : List Value).toArray below meth c H locs 0 0 (MQ below (va_Qi post (zB w) (zA w)) ([.ref (zad w 0)] : List Value).toArray s 0 0 (zA w)) (F0 m 145 ls []) := by
    intro x_1 K169 zK169 n
    induction n with
    | zero => intro x_2 M H locs ls hW hl h; exact h.elim
    | succ n zJ =>
      intro x_2 M H locs ls hW hl h
      have h : wpB_Model_text_145  x_1 K169 post (zlp1 (wpB_Model_text_145  x_1 K169 post) n) x_2 M := h
      unfold wpB_Model_text_145 at h
      refine lv_iload_n hx hb dX11_text_145 rfl (lv_at hl 2 rfl) ?_
      refine lv_bipush hx hb dX11_text_146 zc_b100 ?_
      refine lv_icmp_ge (tgt := 169) hx hb dX11_text_148 rfl (fun c => ?_) (fun c => ?_)
      · replace h := h.1 c
        exact zK169 M H locs ls hW (lv_sub hl [0, 1] rfl) h
      · replace h := h.2 c
        refine lv_aload_n hx hb dX11_text_151 rfl (lv_at hl 0 rfl) ?_
        refine zg_Model_holds X hW h0 zu_1031 dX11_text_152 ?_
        refine lv_iload_n hx hb dX11_text_155 rfl (lv_at hl 2 rfl) ?_
        refine lv_aload_n hx hb dX11_text_156 rfl (lv_at hl 0 rfl) ?_
        refine zg_Model_reads X hW h0 zu_1032 dX11_text_157 ?_
        refine lv_iload_n hx hb dX11_text_160 rfl (lv_at hl 2 rfl) ?_
        obtain ⟨g, h⟩ := h
        refine ziald X hW h0.2.2.2.2.2.1 g dX11_text_161 ?_
        obtain ⟨g, h⟩ := h
        refine ziast X hW h0.2.2.2.2.1 g dX11_text_162 (fun H locs zm20 ezm20 hW => ?_)
        replace h := h zm20 ezm20
        obtain ⟨zx21, ezx21⟩ : ∃ y : Int32, y = x_2 + 1 := ⟨_, rfl⟩
        replace h := h zx21 ezx21
        refine lv_iinc (v := zx21) (lv' := [(2, .int zx21), (0, .ref (zad w 0)), (1, .int x_1)]) hx hb dX11_text_163 hl (k := 2) rfl (by rw [ezx21, zc_i1]) (Nat.le_of_ble_eq_true rfl) rfl (fun ls hl => ?_)
        refine lv_goto (tgt := 145) hx hb dX11_text_166 rfl ?_
        exact zJ zx21 zm20 H locs ls hW (lv_sub hl [1, 2, 0] rfl) h
  have zJ_115 : ∀ (x_1 : Int32) (M : zMem) (H : Heap) (locs : List Loc) (ls : Array Slot), zWo w s.heap M H locs → lv_has ls 3 [(0, .ref (zad w 0)), (1, .int x_1)] → wpJ_Model_text_115  post x_1 M → W p l e (zRm 9 207) s m ([.ref (zad w 0)] : List Value).toArray below meth c H locs 0 0 (MQ below (va_Qi post (zB w) (zA w)) ([.ref (zad w 0)] : List Value).toArray s 0 0 (zA w)) (F0 m 115 ls []) := by
    intro x_1 M H locs ls hW hl h
    unfold wpJ_Model_text_115 at h
    refine lv_aload_n hx hb dX11_text_115 rfl (lv_at hl 0 rfl) ?_
    refine lv_iconst hx hb dX11_text_116 zc_i0 ?_
    refine zp_Model_taped X hW h0 zu_1021 dX11_text_117 (fun H locs zm18 ezm18 hW => ?_)
    replace h := h zm18 ezm18
    refine lv_aload_n hx hb dX11_text_120 rfl (lv_at hl 0 rfl) ?_
    refine lv_aload_n hx hb dX11_text_121 rfl (lv_at hl 0 rfl) ?_
    refine zg_Model_wrong X hW h0 zu_1023 dX11_text_122 ?_
    refine zp_Model_fault X hW h0 zu_1022 dX11_text_125 (fun H locs zm19 ezm19 hW => ?_)
    replace h := h zm19 ezm19
    refine lv_aload_n hx hb dX11_text_128 rfl (lv_at hl 0 rfl) ?_
    refine zg_Model_wrong X hW h0 zu_1023 dX11_text_129 ?_
    refine lv_if_le (tgt := 143) hx hb dX11_text_132 rfl (fun c => ?_) (fun c => ?_)
    · replace h := h.1 c
      refine lv_iconst hx hb dX11_text_143 zc_i0 ?_
      refine lv_istore_n (lv' := [(2, .int 0), (0, .ref (zad w 0)), (1, .int x_1)]) hx hb dX11_text_144 rfl hl (Nat.le_of_ble_eq_true rfl) rfl (fun ls hl => ?_)
      obtain ⟨n, h⟩ := h
      refine zL_145 x_1 _ (fun  zm22 H locs ls hW hl h => ?_) n 0 zm19 H locs ls hW (lv_sub hl [1, 2, 0] rfl) h
      · skip
        refine lv_aload_n hx hb dX11_text_169 rfl (lv_at hl 0 rfl) ?_
        refine zcallv (zrunV (As := []) (rest := []) X hml hl hW h0.1 rfl zk_Model_159 (c_Model_beginAnew h0 h) rfl ⟨Nat.le_of_ble_eq_true rfl, Nat.le_of_ble_eq_true rfl⟩ ⟨Nat.le_refl 0, Nat.le_refl 0⟩ rfl (Nat.le_of_ble_eq_true rfl) dX11_text_170) hW (fun zm23 H locs h hW => ?_)
        refine lv_aload_n hx hb dX11_text_173 rfl (lv_at hl 0 rfl) ?_
        refine zg_Model_isKept X hW h0 zu_1037 dX11_text_174 ?_
        refine lv_iconst hx hb dX11_text_177 zc_i0 ?_
        refine lv_iconst hx hb dX11_text_178 zc_i0 ?_
        obtain ⟨g, h⟩ := h
        refine zzast X hW h0.2.2.2.2.2.2.2.2.2.2.2.2.2.2.2.2.2.2 g dX11_text_179 (fun H locs zm25 ezm25 hW => ?_)
        replace h := h zm25 ezm25
        refine lv_aload_n hx hb dX11_text_180 rfl (lv_at hl 0 rfl) ?_
        refine zg_Model_isKept X hW h0 zu_1037 dX11_text_181 ?_
        refine lv_iconst hx hb dX11_text_184 zc_i1 ?_
        refine lv_iconst hx hb dX11_text_185 zc_i0 ?_
        obtain ⟨g, h⟩ := h
        refine zzast X hW h0.2.2.2.2.2.2.2.2.2.2.2.2.2.2.2.2.2.2 g dX11_text_186 (fun H locs zm26 ezm26 hW => ?_)
        replace h := h zm26 ezm26
        refine lv_iload_n hx hb dX11_text_187 rfl (lv_at hl 1 rfl) ?_
        exact zreti X hr hlk hW h dX11_text_188
    · replace h := h.2 c
      refine lv_bipush hx hb dX11_text_135 zc_bm10 ?_
      refine lv_aload_n hx hb dX11_text_137 rfl (lv_at hl 0 rfl) ?_
      refine zg_Model_wrongAt X hW h0 zu_1024 dX11_text_138 ?_
      refine lv_isub hx hb dX11_text_141 ?_
      exact zreti X hr hlk hW h dX11_text_142
  have zJ_86 : ∀ (x_1 : Int32) (M : zMem) (H : Heap) (locs : List Loc) (ls : Array Slot), zWo w s.heap M H locs → lv_has ls 3 [(0, .ref (zad w 0)), (1, .int x_1)] → wpJ_Model_text_86  post x_1 M → W p l e (zRm 9 207) s m ([.ref (zad w 0)] : List Value).toArray below meth c H locs 0 0 (MQ below (va_Qi post (zB w) (zA w)) ([.ref (zad w 0)] : List Value).toArray s 0 0 (zA w)) (F0 m 86 ls []) := by
    intro x_1 M H locs ls hW hl h
    unfold wpJ_Model_text_86 at h
    refine lv_aload_n hx hb dX11_text_86 rfl (lv_at hl 0 rfl) ?_
    refine zg_Model_wrong X hW h0 zu_1023 dX11_text_87 ?_
    refine lv_if_ne (tgt := 115) hx hb dX11_text_90 rfl (fun c => ?_) (fun c => ?_)
    · replace h := h.1 c
      exact zJ_115 x_1 M H locs ls hW (lv_sub hl [0, 1] rfl) h
    · replace h := h.2 c
      refine lv_aload_n hx hb dX11_text_93 rfl (lv_at hl 0 rfl) ?_
      refine lv_aload_n hx hb dX11_text_94 rfl (lv_at hl 0 rfl) ?_
      refine zg_Model_taped X hW h0 zu_1021 dX11_text_95 ?_
      refine zp_Model_place X hW h0 zu_1026 dX11_text_98 (fun H locs zm27 ezm27 hW => ?_)
      replace h := h zm27 ezm27
      refine lv_aload_n hx hb dX11_text_101 rfl (lv_at hl 0 rfl) ?_
      refine zcalli (zrunV (As := []) (rest := []) X hml hl hW h0.1 rfl zk_Model_152 (c_Model_wholeFault h0 h) rfl ⟨Nat.le_of_ble_eq_true rfl, Nat.le_of_ble_eq_true rfl⟩ ⟨Nat.le_refl 0, Nat.le_refl 0⟩ rfl (Nat.le_of_ble_eq_true rfl) dX11_text_102) hW (fun zr29 zm28 H locs h hW => ?_)
      refine lv_istore_n (lv' := [(2, .int zr29), (0, .ref (zad w 0)), (1, .int x_1)]) hx hb dX11_text_105 rfl hl (Nat.le_of_ble_eq_true rfl) rfl (fun ls hl => ?_)
      refine lv_iload_n hx hb dX11_text_106 rfl (lv_at hl 0 rfl) ?_
      refine lv_if_le (tgt := 115) hx hb dX11_text_107 rfl (fun c => ?_) (fun c => ?_)
      · replace h := h.1 c
        exact zJ_115 x_1 zm28 H locs ls hW (lv_sub hl [1, 2] rfl) h
      · replace h := h.2 c
        refine lv_aload_n hx hb dX11_text_110 rfl (lv_at hl 1 rfl) ?_
        refine lv_iload_n hx hb dX11_text_111 rfl (lv_at hl 0 rfl) ?_
        refine zcallv (zrunV (As := [.int zr29]) (rest := []) X hml hl hW h0.1 rfl zk_Model_103 (c_Model_fails h0 h) rfl ⟨Nat.le_of_ble_eq_true rfl, Nat.le_of_ble_eq_true rfl⟩ ⟨Nat.le_refl 0, Nat.le_refl 0⟩ rfl (Nat.le_of_ble_eq_true rfl) dX11_text_112) hW (fun zm30 H locs h hW => ?_)
        exact zJ_115 x_1 zm30 H locs ls hW (lv_sub hl [1, 2] rfl) h
  unfold wp_Model_text at h
  have zMain : ∀ (H : Heap) (locs : List Loc) (ls : Array Slot), zWo w s.heap M H locs → lv_has ls 3 [(0, .ref (zad w 0))] → W p l e (zRm 9 207) s m ([.ref (zad w 0)] : List Value).toArray below meth c H locs 0 0 (MQ below (va_Qi post (zB w) (zA w)) ([.ref (zad w 0)] : List Value).toArray s 0 0 (zA w)) (F0 m 0 ls []) := by
    intro H locs ls hW hl
    refine lv_aload_n hx hb dX11_text_0 rfl (lv_at hl 0 rfl) ?_
    refine lv_iconst hx hb dX11_text_1 zc_i0 ?_
    refine zp_Model_wrong X hW h0 zu_1023 dX11_text_2 (fun H locs zm1 ezm1 hW => ?_)
    replace h := h zm1 ezm1
    refine lv_aload_n hx hb dX11_text_5 rfl (lv_at hl 0 rfl) ?_
    refine lv_iconst hx hb dX11_text_6 zc_i0 ?_
    refine zp_Model_spot X hW h0 zu_1025 dX11_text_7 (fun H locs zm2 ezm2 hW => ?_)
    replace h := h zm2 ezm2
    refine lv_aload_n hx hb dX11_text_10 rfl (lv_at hl 0 rfl) ?_
    refine lv_iconst hx hb dX11_text_11 zc_i0 ?_
    refine zp_Model_toldOnes X hW h0 zu_1033 dX11_text_12 (fun H locs zm3 ezm3 hW => ?_)
    replace h := h zm3 ezm3
    refine lv_aload_n hx hb dX11_text_15 rfl (lv_at hl 0 rfl) ?_
    refine lv_iconst hx hb dX11_text_16 zc_i0 ?_
    refine zp_Model_toldSorts X hW h0 zu_1034 dX11_text_17 (fun H locs zm4 ezm4 hW => ?_)
    replace h := h zm4 ezm4
    refine lv_aload_n hx hb dX11_text_20 rfl (lv_at hl 0 rfl) ?_
    refine lv_iconst hx hb dX11_text_21 zc_i0 ?_
    refine zp_Model_hasEnds X hW h0 zbo_0 zu_1035 dX11_text_22 (fun H locs zm5 ezm5 hW => ?_)
    replace h := h zm5 ezm5
    refine lv_iconst hx hb dX11_text_25 zc_i0 ?_
    refine lv_istore_n (lv' := [(1, .int 0), (0, .ref (zad w 0))]) hx hb dX11_text_26 rfl hl (Nat.le_of_ble_eq_true rfl) rfl (fun ls hl => ?_)
    refine lv_iconst hx hb dX11_text_27 zc_i0 ?_
    refine lv_istore_n (lv' := [(2, .int 0), (1, .int 0), (0, .ref (zad w 0))]) hx hb dX11_text_28 rfl hl (Nat.le_of_ble_eq_true rfl) rfl (fun ls hl => ?_)
    obtain ⟨n, h⟩ := h
    refine zL_29 0 _ (fun  zm10 H locs ls hW hl h => ?_) n 0 zm5 H locs ls hW (lv_sub hl [2, 1, 0] rfl) h
    · skip
      refine lv_aload_n hx hb dX11_text_58 rfl (lv_at hl 0 rfl) ?_
      refine zcallv (zrunV (As := []) (rest := []) X hml hl hW h0.1 rfl zk_Model_114 (c_Model_next h0 h) rfl ⟨Nat.le_of_ble_eq_true rfl, Nat.le_of_ble_eq_true rfl⟩ ⟨Nat.le_refl 0, Nat.le_refl 0⟩ rfl (Nat.le_of_ble_eq_true rfl) dX11_text_59) hW (fun zm11 H locs h hW => ?_)
      obtain ⟨n, h⟩ := h
      refine zL_62  _ (fun zx17 zm16 H locs ls hW hl h => ?_) n 0 zm11 H locs ls hW (lv_sub hl [0, 1] rfl) h
      · skip
        exact zJ_86 zx17 zm16 H locs ls hW (lv_sub hl [0, 1] rfl) h
  exact zMain s.heap [] ls hW hl
def wp_Model_fault  (M : zMem) (Q : Int32 → zMem → Prop) : Prop :=
  Q (M 0 2) M
set_option maxHeartbeats 4000000 in
set_option maxRecDepth 20000 in
theorem c_Model_fault {l : Launch} {w : zWd} {M : zMem} {post : Int32 → zMem → Prop} (h0 : zI_Model w) (h : wp_Model_fault  M post) : zMi l ⟨"HandToHandModel", "fault", "()I"⟩ prog_13_method_21_code 1 (Option.some .int) 0 0 w [.ref (zad w 0)] M post := by
  refine zMet (by decide) (Nat.le_of_ble_eq_true rfl) ?_
  intro p e s m below meth c X hr hlk hml hW ls hl
  have hx := X.1
  have hb := X.2.1
  have hl : lv_has ls 1 [(0, .ref (zad w 0))] := hl
  unfold wp_Model_fault at h
  have zMain : ∀ (H : Heap) (locs : List Loc) (ls : Array Slot), zWo w s.heap M H locs → lv_has ls 1 [(0, .ref (zad w 0))] → W p l e (zRm 0 0) s m ([.ref (zad w 0)] : List Value).toArray below meth c H locs 0 0 (MQ below (va_Qi post (zB w) (zA w)) ([.ref (zad w 0)] : List Value).toArray s 0 0 (zA w)) (F0 m 0 ls []) := by
    intro H locs ls hW hl
    refine lv_aload_n hx hb dX11_fault_0 rfl (lv_at hl 0 rfl) ?_
    refine zg_Model_fault X hW h0 zu_1022 dX11_fault_1 ?_
    exact zreti X hr hlk hW h dX11_fault_4
  exact zMain s.heap [] ls hW hl
def wp_Model_isPiece (a1 : Int32) (M : zMem) (Q : Int32 → zMem → Prop) : Prop :=
  vp_in 0 100 ∧ wp_Model_in a1.toInt64 0 (((M 4 (ix 0)) - 1).toInt64) M (fun zr2 zm1 => zbo zr2 ∧ Q zr2 zm1)
set_option maxHeartbeats 4000000 in
set_option maxRecDepth 20000 in
theorem c_Model_isPiece {l : Launch} {w : zWd} {a1 : Int32} {M : zMem} {post : Int32 → zMem → Prop} (h0 : zI_Model w) (h : wp_Model_isPiece a1 M post) : zMi l ⟨"HandToHandModel", "isPiece", "(I)Z"⟩ prog_13_method_22_code 2 (Option.some .boolean) 1 25 w [.ref (zad w 0), .int a1] M post := by
  refine zMet (by decide) (Nat.le_of_ble_eq_true rfl) ?_
  intro p e s m below meth c X hr hlk hml hW ls hl
  have hx := X.1
  have hb := X.2.1
  have hl : lv_has ls 2 [(0, .ref (zad w 0)), (1, .int a1)] := hl
  unfold wp_Model_isPiece at h
  have zMain : ∀ (H : Heap) (locs : List Loc) (ls : Array Slot), zWo w s.heap M H locs → lv_has ls 2 [(0, .ref (zad w 0)), (1, .int a1)] → W p l e (zRm 1 25) s m ([.ref (zad w 0), .int a1] : List Value).toArray below meth c H locs 0 0 (MQ below (va_Qi post (zB w) (zA w)) ([.ref (zad w 0), .int a1] : List Value).toArray s 0 0 (zA w)) (F0 m 0 ls []) := by
    intro H locs ls hW hl
    refine lv_iload_n hx hb dX11_isPiece_0 rfl (lv_at hl 1 rfl) ?_
    refine lv_i2l hx hb dX11_isPiece_1 rfl ?_
    refine lv_lconst hx hb dX11_isPiece_2 zc_l0 ?_
    refine lv_aload_n hx hb dX11_isPiece_3 rfl (lv_at hl 0 rfl) ?_
    refine zg_Model_holds X hW h0 zu_1031 dX11_isPiece_4 ?_
    refine lv_iconst hx hb dX11_isPiece_7 zc_i0 ?_
    obtain ⟨g, h⟩ := h
    refine ziald X hW h0.2.2.2.2.1 g dX11_isPiece_8 ?_
    refine lv_iconst hx hb dX11_isPiece_9 zc_i1 ?_
    refine lv_isub hx hb dX11_isPiece_10 ?_
    refine lv_i2l hx hb dX11_isPiece_11 rfl ?_
    refine zcalli (zrunS (As := [.long a1.toInt64, .long 0, .long (((M 4 (ix 0)) - 1).toInt64)]) (rest := []) X hml hl hW zk_Model_69 (c_Model_in  h) rfl ⟨Nat.le_of_ble_eq_true rfl, Nat.le_of_ble_eq_true rfl⟩ ⟨Nat.le_refl 0, Nat.le_refl 0⟩ rfl (Nat.le_of_ble_eq_true rfl) dX11_isPiece_12) hW (fun zr2 zm1 H locs h hW => ?_)
    exact zretz X hr hlk hW (zbo_n h.1) h.2 dX11_isPiece_15
  exact zMain s.heap [] ls hW hl
def wp_Model_isHand (a1 : Int32) (M : zMem) (Q : Int32 → zMem → Prop) : Prop :=
  vp_in 1 100 ∧ wp_Model_in a1.toInt64 0 (((M 4 (ix 1)) - 1).toInt64) M (fun zr2 zm1 => zbo zr2 ∧ Q zr2 zm1)
set_option maxHeartbeats 4000000 in
set_option maxRecDepth 20000 in
theorem c_Model_isHand {l : Launch} {w : zWd} {a1 : Int32} {M : zMem} {post : Int32 → zMem → Prop} (h0 : zI_Model w) (h : wp_Model_isHand a1 M post) : zMi l ⟨"HandToHandModel", "isHand", "(I)Z"⟩ prog_13_method_23_code 2 (Option.some .boolean) 1 25 w [.ref (zad w 0), .int a1] M post := by
  refine zMet (by decide) (Nat.le_of_ble_eq_true rfl) ?_
  intro p e s m below meth c X hr hlk hml hW ls hl
  have hx := X.1
  have hb := X.2.1
  have hl : lv_has ls 2 [(0, .ref (zad w 0)), (1, .int a1)] := hl
  unfold wp_Model_isHand at h
  have zMain : ∀ (H : Heap) (locs : List Loc) (ls : Array Slot), zWo w s.heap M H locs → lv_has ls 2 [(0, .ref (zad w 0)), (1, .int a1)] → W p l e (zRm 1 25) s m ([.ref (zad w 0), .int a1] : List Value).toArray below meth c H locs 0 0 (MQ below (va_Qi post (zB w) (zA w)) ([.ref (zad w 0), .int a1] : List Value).toArray s 0 0 (zA w)) (F0 m 0 ls []) := by
    intro H locs ls hW hl
    refine lv_iload_n hx hb dX11_isHand_0 rfl (lv_at hl 1 rfl) ?_
    refine lv_i2l hx hb dX11_isHand_1 rfl ?_
    refine lv_lconst hx hb dX11_isHand_2 zc_l0 ?_
    refine lv_aload_n hx hb dX11_isHand_3 rfl (lv_at hl 0 rfl) ?_
    refine zg_Model_holds X hW h0 zu_1031 dX11_isHand_4 ?_
    refine lv_iconst hx hb dX11_isHand_7 zc_i1 ?_
    obtain ⟨g, h⟩ := h
    refine ziald X hW h0.2.2.2.2.1 g dX11_isHand_8 ?_
    refine lv_iconst hx hb dX11_isHand_9 zc_i1 ?_
    refine lv_isub hx hb dX11_isHand_10 ?_
    refine lv_i2l hx hb dX11_isHand_11 rfl ?_
    refine zcalli (zrunS (As := [.long a1.toInt64, .long 0, .long (((M 4 (ix 1)) - 1).toInt64)]) (rest := []) X hml hl hW zk_Model_69 (c_Model_in  h) rfl ⟨Nat.le_of_ble_eq_true rfl, Nat.le_of_ble_eq_true rfl⟩ ⟨Nat.le_refl 0, Nat.le_refl 0⟩ rfl (Nat.le_of_ble_eq_true rfl) dX11_isHand_12) hW (fun zr2 zm1 H locs h hW => ?_)
    exact zretz X hr hlk hW (zbo_n h.1) h.2 dX11_isHand_15
  exact zMain s.heap [] ls hW hl
def wp_Model_rule (a1 : Int32) (M : zMem) (Q : Int32 → zMem → Prop) : Prop :=
  wp_Model_in a1.toInt64 0 6 M (fun zr2 zm1 => (zr2 = 0 → vp_in 6 100 ∧ wp_Model_in a1.toInt64 10 (((10 + (zm1 4 (ix 6))) - 1).toInt64) zm1 (fun zr4 zm3 => (zr4 = 0 → (a1 < 20 → Q ((-1)) zm3) ∧ (¬ a1 < 20 → wp_Model_isHand (a1 - 20) zm3 (fun zr6 zm5 => (zr6 = 0 → Q ((-1)) zm5) ∧ (¬ zr6 = 0 → wp_Model_endOf (a1 - 20) zm5 (fun zr8 zm7 => Q zr8 zm7))))) ∧ (¬ zr4 = 0 → vp_in a1 100 ∧ Q (zm3 4 (ix a1)) zm3))) ∧ (¬ zr2 = 0 → vp_in a1 100 ∧ Q (zm1 4 (ix a1)) zm1))
set_option maxHeartbeats 4000000 in
set_option maxRecDepth 20000 in
theorem c_Model_rule {l : Launch} {w : zWd} {a1 : Int32} {M : zMem} {post : Int32 → zMem → Prop} (h0 : zI_Model w) (h : wp_Model_rule a1 M post) : zMi l ⟨"HandToHandModel", "rule", "(I)I"⟩ prog_13_method_25_code 2 (Option.some .int) 2 46 w [.ref (zad w 0), .int a1] M post := by
  refine zMet (by decide) (Nat.le_of_ble_eq_true rfl) ?_
  intro p e s m below meth c X hr hlk hml hW ls hl
  have hx := X.1
  have hb := X.2.1
  have hl : lv_has ls 2 [(0, .ref (zad w 0)), (1, .int a1)] := hl
  unfold wp_Model_rule at h
  have zMain : ∀ (H : Heap) (locs : List Loc) (ls : Array Slot), zWo w s.heap M H locs → lv_has ls 2 [(0, .ref (zad w 0)), (1, .int a1)] → W p l e (zRm 2 46) s m ([.ref (zad w 0), .int a1] : List Value).toArray below meth c H locs 0 0 (MQ below (va_Qi post (zB w) (zA w)) ([.ref (zad w 0), .int a1] : List Value).toArray s 0 0 (zA w)) (F0 m 0 ls []) := by
    intro H locs ls hW hl
    refine lv_iload_n hx hb dX11_rule_0 rfl (lv_at hl 1 rfl) ?_
    refine lv_i2l hx hb dX11_rule_1 rfl ?_
    refine lv_lconst hx hb dX11_rule_2 zc_l0 ?_
    refine lv_ldc2 hx hb X.2.2.1 (X.2.2.2.1 _ zu_1310) dX11_rule_3 ?_
    refine zcalli (zrunS (As := [.long a1.toInt64, .long 0, .long 6]) (rest := []) X hml hl hW zk_Model_69 (c_Model_in  h) rfl ⟨Nat.le_of_ble_eq_true rfl, Nat.le_of_ble_eq_true rfl⟩ ⟨Nat.le_refl 0, Nat.le_refl 0⟩ rfl (Nat.le_of_ble_eq_true rfl) dX11_rule_6) hW (fun zr2 zm1 H locs h hW => ?_)
    refine lv_if_eq (tgt := 19) hx hb dX11_rule_9 rfl (fun c => ?_) (fun c => ?_)
    · replace h := h.1 c
      refine lv_iload_n hx hb dX11_rule_19 rfl (lv_at hl 1 rfl) ?_
      refine lv_i2l hx hb dX11_rule_20 rfl ?_
      refine lv_ldc2 hx hb X.2.2.1 (X.2.2.2.1 _ zu_1311) dX11_rule_21 ?_
      refine lv_bipush hx hb dX11_rule_24 zc_b10 ?_
      refine lv_aload_n hx hb dX11_rule_26 rfl (lv_at hl 0 rfl) ?_
      refine zg_Model_holds X hW h0 zu_1031 dX11_rule_27 ?_
      refine lv_bipush hx hb dX11_rule_30 zc_b6 ?_
      obtain ⟨g, h⟩ := h
      refine ziald X hW h0.2.2.2.2.1 g dX11_rule_32 ?_
      refine lv_iadd hx hb dX11_rule_33 ?_
      refine lv_iconst hx hb dX11_rule_34 zc_i1 ?_
      refine lv_isub hx hb dX11_rule_35 ?_
      refine lv_i2l hx hb dX11_rule_36 rfl ?_
      refine zcalli (zrunS (As := [.long a1.toInt64, .long 10, .long (((10 + (zm1 4 (ix 6))) - 1).toInt64)]) (rest := []) X hml hl hW zk_Model_69 (c_Model_in  h) rfl ⟨Nat.le_of_ble_eq_true rfl, Nat.le_of_ble_eq_true rfl⟩ ⟨Nat.le_refl 0, Nat.le_refl 0⟩ rfl (Nat.le_of_ble_eq_true rfl) dX11_rule_37) hW (fun zr4 zm3 H locs h hW => ?_)
      refine lv_if_eq (tgt := 50) hx hb dX11_rule_40 rfl (fun c => ?_) (fun c => ?_)
      · replace h := h.1 c
        refine lv_iload_n hx hb dX11_rule_50 rfl (lv_at hl 1 rfl) ?_
        refine lv_bipush hx hb dX11_rule_51 zc_b20 ?_
        refine lv_icmp_lt (tgt := 78) hx hb dX11_rule_53 rfl (fun c => ?_) (fun c => ?_)
        · replace h := h.1 c
          refine lv_iconst hx hb dX11_rule_78 zc_im1 ?_
          exact zreti X hr hlk hW h dX11_rule_79
        · replace h := h.2 c
          refine lv_aload_n hx hb dX11_rule_56 rfl (lv_at hl 0 rfl) ?_
          refine lv_iload_n hx hb dX11_rule_57 rfl (lv_at hl 1 rfl) ?_
          refine lv_bipush hx hb dX11_rule_58 zc_b20 ?_
          refine lv_isub hx hb dX11_rule_60 ?_
          refine zcalli (zrunV (As := [.int (a1 - 20)]) (rest := []) X hml hl hW h0.1 rfl zk_Model_166 (c_Model_isHand h0 h) rfl ⟨Nat.le_of_ble_eq_true rfl, Nat.le_of_ble_eq_true rfl⟩ ⟨Nat.le_refl 0, Nat.le_refl 0⟩ rfl (Nat.le_of_ble_eq_true rfl) dX11_rule_61) hW (fun zr6 zm5 H locs h hW => ?_)
          refine lv_if_eq (tgt := 78) hx hb dX11_rule_64 rfl (fun c => ?_) (fun c => ?_)
          · replace h := h.1 c
            refine lv_iconst hx hb dX11_rule_78 zc_im1 ?_
            exact zreti X hr hlk hW h dX11_rule_79
          · replace h := h.2 c
            refine lv_aload_n hx hb dX11_rule_67 rfl (lv_at hl 0 rfl) ?_
            refine lv_iload_n hx hb dX11_rule_68 rfl (lv_at hl 1 rfl) ?_
            refine lv_bipush hx hb dX11_rule_69 zc_b20 ?_
            refine lv_isub hx hb dX11_rule_71 ?_
            refine zcalli (zrunV (As := [.int (a1 - 20)]) (rest := []) X hml hl hW h0.1 rfl zk_Model_170 (c_Model_endOf h0 h) rfl ⟨Nat.le_of_ble_eq_true rfl, Nat.le_of_ble_eq_true rfl⟩ ⟨Nat.le_refl 0, Nat.le_refl 0⟩ rfl (Nat.le_of_ble_eq_true rfl) dX11_rule_72) hW (fun zr8 zm7 H locs h hW => ?_)
            refine lv_goto (tgt := 79) hx hb dX11_rule_75 rfl ?_
            exact zreti X hr hlk hW h dX11_rule_79
      · replace h := h.2 c
        refine lv_aload_n hx hb dX11_rule_43 rfl (lv_at hl 0 rfl) ?_
        refine zg_Model_holds X hW h0 zu_1031 dX11_rule_44 ?_
        refine lv_iload_n hx hb dX11_rule_47 rfl (lv_at hl 1 rfl) ?_
        obtain ⟨g, h⟩ := h
        refine ziald X hW h0.2.2.2.2.1 g dX11_rule_48 ?_
        exact zreti X hr hlk hW h dX11_rule_49
    · replace h := h.2 c
      refine lv_aload_n hx hb dX11_rule_12 rfl (lv_at hl 0 rfl) ?_
      refine zg_Model_holds X hW h0 zu_1031 dX11_rule_13 ?_
      refine lv_iload_n hx hb dX11_rule_16 rfl (lv_at hl 1 rfl) ?_
      obtain ⟨g, h⟩ := h
      refine ziald X hW h0.2.2.2.2.1 g dX11_rule_17 ?_
      exact zreti X hr hlk hW h dX11_rule_18
  exact zMain s.heap [] ls hW hl
def wp_Model_units (a1 : Int32) (a2 : Int32) (M : zMem) (Q : Int32 → zMem → Prop) : Prop :=
  wp_Model_in a1.toInt64 0 2 M (fun zr2 zm1 => (zr2 = 0 → Q ((-1)) zm1) ∧ (¬ zr2 = 0 → wp_Model_isPiece a2 zm1 (fun zr4 zm3 => (zr4 = 0 → Q ((-1)) zm3) ∧ (¬ zr4 = 0 → vp_in ((30 + (8 * a1)) + a2) 100 ∧ Q (zm3 4 (ix ((30 + (8 * a1)) + a2))) zm3))))
set_option maxHeartbeats 4000000 in
set_option maxRecDepth 20000 in
theorem c_Model_units {l : Launch} {w : zWd} {a1 : Int32} {a2 : Int32} {M : zMem} {post : Int32 → zMem → Prop} (h0 : zI_Model w) (h : wp_Model_units a1 a2 M post) : zMi l ⟨"HandToHandModel", "units", "(II)I"⟩ prog_13_method_26_code 3 (Option.some .int) 2 46 w [.ref (zad w 0), .int a1, .int a2] M post := by
  refine zMet (by decide) (Nat.le_of_ble_eq_true rfl) ?_
  intro p e s m below meth c X hr hlk hml hW ls hl
  have hx := X.1
  have hb := X.2.1
  have hl : lv_has ls 3 [(0, .ref (zad w 0)), (1, .int a1), (2, .int a2)] := hl
  unfold wp_Model_units at h
  have zMain : ∀ (H : Heap) (locs : List Loc) (ls : Array Slot), zWo w s.heap M H locs → lv_has ls 3 [(0, .ref (zad w 0)), (1, .int a1), (2, .int a2)] → W p l e (zRm 2 46) s m ([.ref (zad w 0), .int a1, .int a2] : List Value).toArray below meth c H locs 0 0 (MQ below (va_Qi post (zB w) (zA w)) ([.ref (zad w 0), .int a1, .int a2] : List Value).toArray s 0 0 (zA w)) (F0 m 0 ls []) := by
    intro H locs ls hW hl
    refine lv_iload_n hx hb dX11_units_0 rfl (lv_at hl 1 rfl) ?_
    refine lv_i2l hx hb dX11_units_1 rfl ?_
    refine lv_lconst hx hb dX11_units_2 zc_l0 ?_
    refine lv_ldc2 hx hb X.2.2.1 (X.2.2.2.1 _ zu_1248) dX11_units_3 ?_
    refine zcalli (zrunS (As := [.long a1.toInt64, .long 0, .long 2]) (rest := []) X hml hl hW zk_Model_69 (c_Model_in  h) rfl ⟨Nat.le_of_ble_eq_true rfl, Nat.le_of_ble_eq_true rfl⟩ ⟨Nat.le_refl 0, Nat.le_refl 0⟩ rfl (Nat.le_of_ble_eq_true rfl) dX11_units_6) hW (fun zr2 zm1 H locs h hW => ?_)
    refine lv_if_eq (tgt := 37) hx hb dX11_units_9 rfl (fun c => ?_) (fun c => ?_)
    · replace h := h.1 c
      refine lv_iconst hx hb dX11_units_37 zc_im1 ?_
      exact zreti X hr hlk hW h dX11_units_38
    · replace h := h.2 c
      refine lv_aload_n hx hb dX11_units_12 rfl (lv_at hl 0 rfl) ?_
      refine lv_iload_n hx hb dX11_units_13 rfl (lv_at hl 2 rfl) ?_
      refine zcalli (zrunV (As := [.int a2]) (rest := []) X hml hl hW h0.1 rfl zk_Model_175 (c_Model_isPiece h0 h) rfl ⟨Nat.le_of_ble_eq_true rfl, Nat.le_of_ble_eq_true rfl⟩ ⟨Nat.le_refl 0, Nat.le_refl 0⟩ rfl (Nat.le_of_ble_eq_true rfl) dX11_units_14) hW (fun zr4 zm3 H locs h hW => ?_)
      refine lv_if_eq (tgt := 37) hx hb dX11_units_17 rfl (fun c => ?_) (fun c => ?_)
      · replace h := h.1 c
        refine lv_iconst hx hb dX11_units_37 zc_im1 ?_
        exact zreti X hr hlk hW h dX11_units_38
      · replace h := h.2 c
        refine lv_aload_n hx hb dX11_units_20 rfl (lv_at hl 0 rfl) ?_
        refine zg_Model_holds X hW h0 zu_1031 dX11_units_21 ?_
        refine lv_bipush hx hb dX11_units_24 zc_b30 ?_
        refine lv_bipush hx hb dX11_units_26 zc_b8 ?_
        refine lv_iload_n hx hb dX11_units_28 rfl (lv_at hl 1 rfl) ?_
        refine lv_imul hx hb dX11_units_29 ?_
        refine lv_iadd hx hb dX11_units_30 ?_
        refine lv_iload_n hx hb dX11_units_31 rfl (lv_at hl 2 rfl) ?_
        refine lv_iadd hx hb dX11_units_32 ?_
        obtain ⟨g, h⟩ := h
        refine ziald X hW h0.2.2.2.2.1 g dX11_units_33 ?_
        refine lv_goto (tgt := 38) hx hb dX11_units_34 rfl ?_
        exact zreti X hr hlk hW h dX11_units_38
  exact zMain s.heap [] ls hW hl
def wp_Model_pace (a1 : Int32) (a2 : Int32) (M : zMem) (Q : Int32 → zMem → Prop) : Prop :=
  wp_Model_isHand a1 M (fun zr2 zm1 => (zr2 = 0 → Q ((-1)) zm1) ∧ (¬ zr2 = 0 → wp_Model_isPiece a2 zm1 (fun zr4 zm3 => (zr4 = 0 → Q ((-1)) zm3) ∧ (¬ zr4 = 0 → vp_in ((60 + (8 * a1)) + a2) 100 ∧ Q (zm3 4 (ix ((60 + (8 * a1)) + a2))) zm3))))
set_option maxHeartbeats 4000000 in
set_option maxRecDepth 20000 in
theorem c_Model_pace {l : Launch} {w : zWd} {a1 : Int32} {a2 : Int32} {M : zMem} {post : Int32 → zMem → Prop} (h0 : zI_Model w) (h : wp_Model_pace a1 a2 M post) : zMi l ⟨"HandToHandModel", "pace", "(II)I"⟩ prog_13_method_27_code 3 (Option.some .int) 2 46 w [.ref (zad w 0), .int a1, .int a2] M post := by
  refine zMet (by decide) (Nat.le_of_ble_eq_true rfl) ?_
  intro p e s m below meth c X hr hlk hml hW ls hl
  have hx := X.1
  have hb := X.2.1
  have hl : lv_has ls 3 [(0, .ref (zad w 0)), (1, .int a1), (2, .int a2)] := hl
  unfold wp_Model_pace at h
  have zMain : ∀ (H : Heap) (locs : List Loc) (ls : Array Slot), zWo w s.heap M H locs → lv_has ls 3 [(0, .ref (zad w 0)), (1, .int a1), (2, .int a2)] → W p l e (zRm 2 46) s m ([.ref (zad w 0), .int a1, .int a2] : List Value).toArray below meth c H locs 0 0 (MQ below (va_Qi post (zB w) (zA w)) ([.ref (zad w 0), .int a1, .int a2] : List Value).toArray s 0 0 (zA w)) (F0 m 0 ls []) := by
    intro H locs ls hW hl
    refine lv_aload_n hx hb dX11_pace_0 rfl (lv_at hl 0 rfl) ?_
    refine lv_iload_n hx hb dX11_pace_1 rfl (lv_at hl 1 rfl) ?_
    refine zcalli (zrunV (As := [.int a1]) (rest := []) X hml hl hW h0.1 rfl zk_Model_166 (c_Model_isHand h0 h) rfl ⟨Nat.le_of_ble_eq_true rfl, Nat.le_of_ble_eq_true rfl⟩ ⟨Nat.le_refl 0, Nat.le_refl 0⟩ rfl (Nat.le_of_ble_eq_true rfl) dX11_pace_2) hW (fun zr2 zm1 H locs h hW => ?_)
    refine lv_if_eq (tgt := 33) hx hb dX11_pace_5 rfl (fun c => ?_) (fun c => ?_)
    · replace h := h.1 c
      refine lv_iconst hx hb dX11_pace_33 zc_im1 ?_
      exact zreti X hr hlk hW h dX11_pace_34
    · replace h := h.2 c
      refine lv_aload_n hx hb dX11_pace_8 rfl (lv_at hl 0 rfl) ?_
      refine lv_iload_n hx hb dX11_pace_9 rfl (lv_at hl 2 rfl) ?_
      refine zcalli (zrunV (As := [.int a2]) (rest := []) X hml hl hW h0.1 rfl zk_Model_175 (c_Model_isPiece h0 h) rfl ⟨Nat.le_of_ble_eq_true rfl, Nat.le_of_ble_eq_true rfl⟩ ⟨Nat.le_refl 0, Nat.le_refl 0⟩ rfl (Nat.le_of_ble_eq_true rfl) dX11_pace_10) hW (fun zr4 zm3 H locs h hW => ?_)
      refine lv_if_eq (tgt := 33) hx hb dX11_pace_13 rfl (fun c => ?_) (fun c => ?_)
      · replace h := h.1 c
        refine lv_iconst hx hb dX11_pace_33 zc_im1 ?_
        exact zreti X hr hlk hW h dX11_pace_34
      · replace h := h.2 c
        refine lv_aload_n hx hb dX11_pace_16 rfl (lv_at hl 0 rfl) ?_
        refine zg_Model_holds X hW h0 zu_1031 dX11_pace_17 ?_
        refine lv_bipush hx hb dX11_pace_20 zc_b60 ?_
        refine lv_bipush hx hb dX11_pace_22 zc_b8 ?_
        refine lv_iload_n hx hb dX11_pace_24 rfl (lv_at hl 1 rfl) ?_
        refine lv_imul hx hb dX11_pace_25 ?_
        refine lv_iadd hx hb dX11_pace_26 ?_
        refine lv_iload_n hx hb dX11_pace_27 rfl (lv_at hl 2 rfl) ?_
        refine lv_iadd hx hb dX11_pace_28 ?_
        obtain ⟨g, h⟩ := h
        refine ziald X hW h0.2.2.2.2.1 g dX11_pace_29 ?_
        refine lv_goto (tgt := 34) hx hb dX11_pace_30 rfl ?_
        exact zreti X hr hlk hW h dX11_pace_34
  exact zMain s.heap [] ls hW hl
def wp_Model_setPace (a1 : Int32) (a2 : Int32) (a3 : Int32) (M : zMem) (Q : Int32 → zMem → Prop) : Prop :=
  wp_Model_isHand a1 M (fun zr2 zm1 => (zr2 = 0 → Q ((-1)) zm1) ∧ (¬ zr2 = 0 → wp_Model_isPiece a2 zm1 (fun zr4 zm3 => (zr4 = 0 → Q ((-1)) zm3) ∧ (¬ zr4 = 0 → wp_Model_in a3.toInt64 1 9 zm3 (fun zr6 zm5 => (¬ zr6 = 0 → wp_Model_awake zm5 (fun zm7 => vp_in ((60 + (8 * a1)) + a2) 100 ∧ ∀ zx9 : Int32, zx9 = zm7 4 (ix ((60 + (8 * a1)) + a2)) → vp_in ((60 + (8 * a1)) + a2) 100 ∧ ∀ zm10 : zMem, zm10 = zup zm7 4 (ix ((60 + (8 * a1)) + a2)) a3 → Q zx9 zm10)) ∧ (zr6 = 0 → Q ((-1)) zm5))))))
set_option maxHeartbeats 4000000 in
set_option maxRecDepth 20000 in
theorem c_Model_setPace {l : Launch} {w : zWd} {a1 : Int32} {a2 : Int32} {a3 : Int32} {M : zMem} {post : Int32 → zMem → Prop} (h0 : zI_Model w) (h : wp_Model_setPace a1 a2 a3 M post) : zMi l ⟨"HandToHandModel", "setPace", "(III)I"⟩ prog_13_method_28_code 5 (Option.some .int) 8 187 w [.ref (zad w 0), .int a1, .int a2, .int a3] M post := by
  refine zMet (by decide) (Nat.le_of_ble_eq_true rfl) ?_
  intro p e s m below meth c X hr hlk hml hW ls hl
  have hx := X.1
  have hb := X.2.1
  have hl : lv_has ls 5 [(0, .ref (zad w 0)), (1, .int a1), (2, .int a2), (3, .int a3)] := hl
  unfold wp_Model_setPace at h
  have zMain : ∀ (H : Heap) (locs : List Loc) (ls : Array Slot), zWo w s.heap M H locs → lv_has ls 5 [(0, .ref (zad w 0)), (1, .int a1), (2, .int a2), (3, .int a3)] → W p l e (zRm 8 187) s m ([.ref (zad w 0), .int a1, .int a2, .int a3] : List Value).toArray below meth c H locs 0 0 (MQ below (va_Qi post (zB w) (zA w)) ([.ref (zad w 0), .int a1, .int a2, .int a3] : List Value).toArray s 0 0 (zA w)) (F0 m 0 ls []) := by
    intro H locs ls hW hl
    refine lv_aload_n hx hb dX11_setPace_0 rfl (lv_at hl 0 rfl) ?_
    refine lv_iload_n hx hb dX11_setPace_1 rfl (lv_at hl 1 rfl) ?_
    refine zcalli (zrunV (As := [.int a1]) (rest := []) X hml hl hW h0.1 rfl zk_Model_166 (c_Model_isHand h0 h) rfl ⟨Nat.le_of_ble_eq_true rfl, Nat.le_of_ble_eq_true rfl⟩ ⟨Nat.le_refl 0, Nat.le_refl 0⟩ rfl (Nat.le_of_ble_eq_true rfl) dX11_setPace_2) hW (fun zr2 zm1 H locs h hW => ?_)
    refine lv_if_eq (tgt := 28) hx hb dX11_setPace_5 rfl (fun c => ?_) (fun c => ?_)
    · replace h := h.1 c
      refine lv_iconst hx hb dX11_setPace_28 zc_im1 ?_
      exact zreti X hr hlk hW h dX11_setPace_29
    · replace h := h.2 c
      refine lv_aload_n hx hb dX11_setPace_8 rfl (lv_at hl 0 rfl) ?_
      refine lv_iload_n hx hb dX11_setPace_9 rfl (lv_at hl 2 rfl) ?_
      refine zcalli (zrunV (As := [.int a2]) (rest := []) X hml hl hW h0.1 rfl zk_Model_175 (c_Model_isPiece h0 h) rfl ⟨Nat.le_of_ble_eq_true rfl, Nat.le_of_ble_eq_true rfl⟩ ⟨Nat.le_refl 0, Nat.le_refl 0⟩ rfl (Nat.le_of_ble_eq_true rfl) dX11_setPace_10) hW (fun zr4 zm3 H locs h hW => ?_)
      refine lv_if_eq (tgt := 28) hx hb dX11_setPace_13 rfl (fun c => ?_) (fun c => ?_)
      · replace h := h.1 c
        refine lv_iconst hx hb dX11_setPace_28 zc_im1 ?_
        exact zreti X hr hlk hW h dX11_setPace_29
      · replace h := h.2 c
        refine lv_iload_n hx hb dX11_setPace_16 rfl (lv_at hl 3 rfl) ?_
        refine lv_i2l hx hb dX11_setPace_17 rfl ?_
        refine lv_lconst hx hb dX11_setPace_18 zc_l1 ?_
        refine lv_ldc2 hx hb X.2.2.1 (X.2.2.2.1 _ zu_1332) dX11_setPace_19 ?_
        refine zcalli (zrunS (As := [.long a3.toInt64, .long 1, .long 9]) (rest := []) X hml hl hW zk_Model_69 (c_Model_in  h) rfl ⟨Nat.le_of_ble_eq_true rfl, Nat.le_of_ble_eq_true rfl⟩ ⟨Nat.le_refl 0, Nat.le_refl 0⟩ rfl (Nat.le_of_ble_eq_true rfl) dX11_setPace_22) hW (fun zr6 zm5 H locs h hW => ?_)
        refine lv_if_ne (tgt := 30) hx hb dX11_setPace_25 rfl (fun c => ?_) (fun c => ?_)
        · replace h := h.1 c
          refine lv_aload_n hx hb dX11_setPace_30 rfl (lv_at hl 0 rfl) ?_
          refine zcallv (zrunV (As := []) (rest := []) X hml hl hW h0.1 rfl zk_Model_180 (c_Model_awake h0 h) rfl ⟨Nat.le_of_ble_eq_true rfl, Nat.le_of_ble_eq_true rfl⟩ ⟨Nat.le_refl 0, Nat.le_refl 0⟩ rfl (Nat.le_of_ble_eq_true rfl) dX11_setPace_31) hW (fun zm7 H locs h hW => ?_)
          refine lv_aload_n hx hb dX11_setPace_34 rfl (lv_at hl 0 rfl) ?_
          refine zg_Model_holds X hW h0 zu_1031 dX11_setPace_35 ?_
          refine lv_bipush hx hb dX11_setPace_38 zc_b60 ?_
          refine lv_bipush hx hb dX11_setPace_40 zc_b8 ?_
          refine lv_iload_n hx hb dX11_setPace_42 rfl (lv_at hl 1 rfl) ?_
          refine lv_imul hx hb dX11_setPace_43 ?_
          refine lv_iadd hx hb dX11_setPace_44 ?_
          refine lv_iload_n hx hb dX11_setPace_45 rfl (lv_at hl 2 rfl) ?_
          refine lv_iadd hx hb dX11_setPace_46 ?_
          obtain ⟨g, h⟩ := h
          refine ziald X hW h0.2.2.2.2.1 g dX11_setPace_47 ?_
          refine lv_topi (fun zx9 ezx9 => ?_)
          replace h := h zx9 ezx9
          refine lv_istore (lv' := [(4, .int zx9), (0, .ref (zad w 0)), (1, .int a1), (2, .int a2), (3, .int a3)]) hx hb dX11_setPace_48 hl (Nat.le_of_ble_eq_true rfl) rfl (fun ls hl => ?_)
          refine lv_aload_n hx hb dX11_setPace_50 rfl (lv_at hl 1 rfl) ?_
          refine zg_Model_holds X hW h0 zu_1031 dX11_setPace_51 ?_
          refine lv_bipush hx hb dX11_setPace_54 zc_b60 ?_
          refine lv_bipush hx hb dX11_setPace_56 zc_b8 ?_
          refine lv_iload_n hx hb dX11_setPace_58 rfl (lv_at hl 2 rfl) ?_
          refine lv_imul hx hb dX11_setPace_59 ?_
          refine lv_iadd hx hb dX11_setPace_60 ?_
          refine lv_iload_n hx hb dX11_setPace_61 rfl (lv_at hl 3 rfl) ?_
          refine lv_iadd hx hb dX11_setPace_62 ?_
          refine lv_iload_n hx hb dX11_setPace_63 rfl (lv_at hl 4 rfl) ?_
          obtain ⟨g, h⟩ := h
          refine ziast X hW h0.2.2.2.2.1 g dX11_setPace_64 (fun H locs zm10 ezm10 hW => ?_)
          replace h := h zm10 ezm10
          refine lv_iload hx hb dX11_setPace_65 (lv_at hl 0 rfl) ?_
          exact zreti X hr hlk hW h dX11_setPace_67
        · replace h := h.2 c
          refine lv_iconst hx hb dX11_setPace_28 zc_im1 ?_
          exact zreti X hr hlk hW h dX11_setPace_29
  exact zMain s.heap [] ls hW hl
def wpJ_Model_pass_30 (a1 : Int32) (a2 : Int32)  (J : Int32 → zMem → Prop) (Q : zMem → Prop) (x_3 : Int32) (x_4 : Int32)  (M : zMem) : Prop :=
  wp_Model_at a1 x_3 5 M (fun zr6 zm5 => wp_Model_put a1 x_3 5 (zr6 + a2) zm5 (fun zm7 => (¬ a1 = 1 → ∀ zx9 : Int32, zx9 = x_3 + 1 → J zx9 zm7) ∧ (a1 = 1 → (¬ x_4 = 2 → ∀ zx10 : Int32, zx10 = x_3 + 1 → J zx10 zm7) ∧ (x_4 = 2 → wp_Model_at a1 x_3 2 zm7 (fun zr12 zm11 => vp_in zr12 8 ∧ vp_in zr12 8 ∧ ∀ zm13 : zMem, zm13 = zup zm11 11 (ix zr12) ((zm11 11 (ix zr12)) + a2) → ∀ zx14 : Int32, zx14 = x_3 + 1 → J zx14 zm13)))))
def wpB_Model_pass_2 (a1 : Int32) (a2 : Int32)   (Q : zMem → Prop) (J : Int32 → zMem → Prop) (x_3 : Int32) (M : zMem) : Prop :=
  ((M 0 18) ≤ x_3 → wp_Model_more a1 0 a2 M (fun zm1 => Q zm1)) ∧ (¬ (M 0 18) ≤ x_3 → wp_Model_at a1 x_3 0 M (fun zr4 zm3 => (zr4 = 2 → wpJ_Model_pass_30 a1 a2 J Q x_3 zr4 zm3) ∧ (¬ zr4 = 2 → (¬ zr4 = 0 → wp_Model_at a1 x_3 1 zm3 (fun zr16 zm15 => wp_Model_put a1 x_3 1 (zr16 - a2) zm15 (fun zm17 => (¬ zr4 = 1 → ∀ zx19 : Int32, zx19 = x_3 + 1 → J zx19 zm17) ∧ (zr4 = 1 → wp_Model_at a1 x_3 1 zm17 (fun zr21 zm20 => (¬ zr21 = 0 → ∀ zx22 : Int32, zx22 = x_3 + 1 → J zx22 zm20) ∧ (zr21 = 0 → wp_Model_put a1 x_3 0 0 zm20 (fun zm23 => ∀ zx25 : Int32, zx25 = x_3 + 1 → J zx25 zm23))))))) ∧ (zr4 = 0 → wpJ_Model_pass_30 a1 a2 J Q x_3 zr4 zm3))))
def wp_Model_pass (a1 : Int32) (a2 : Int32) (M : zMem) (Q : zMem → Prop) : Prop :=
  ∃ n : Nat, zlp1 (wpB_Model_pass_2 a1 a2   Q) n 0 M
set_option maxHeartbeats 4000000 in
set_option maxRecDepth 20000 in
theorem c_Model_pass {l : Launch} {w : zWd} {a1 : Int32} {a2 : Int32} {M : zMem} {post : zMem → Prop} (h0 : zI_Model w) (h : wp_Model_pass a1 a2 M post) : zMv l ⟨"HandToHandModel", "pass", "(II)V"⟩ prog_13_method_47_code 5 none 2 49 w [.ref (zad w 0), .int a1, .int a2] M post := by
  refine zMet (by decide) (Nat.le_of_ble_eq_true rfl) ?_
  intro p e s m below meth c X hr hlk hml hW ls hl
  have hx := X.1
  have hb := X.2.1
  have hl : lv_has ls 5 [(0, .ref (zad w 0)), (1, .int a1), (2, .int a2)] := hl
  have zJ_30 : ∀ (x_3 : Int32) (x_4 : Int32) (J : Int32 → zMem → Prop) (zJ : ∀ (y_3 : Int32) (M : zMem) (H : Heap) (locs : List Loc) (ls : Array Slot), zWo w s.heap M H locs → lv_has ls 5 [(0, .ref (zad w 0)), (1, .int a1), (2, .int a2), (3, .int y_3)] → J y_3 M → W p l e (zRm 2 49) s m ([.ref (zad w 0), .int a1, .int a2] : List Value).toArray below meth c H locs 0 0 (MQ below (va_Qv post (zB w) (zA w)) ([.ref (zad w 0), .int a1, .int a2] : List Value).toArray s 0 0 (zA w)) (F0 m 2 ls [])) (M : zMem) (H : Heap) (locs : List Loc) (ls : Array Slot), zWo w s.heap M H locs → lv_has ls 5 [(0, .ref (zad w 0)), (1, .int a1), (2, .int a2), (3, .int x_3), (4, .int x_4)] → wpJ_Model_pass_30 a1 a2 J post x_3 x_4 M → W p l e (zRm 2 49) s m ([.ref (zad w 0), .int a1, .int a2] : List Value).toArray below meth c H locs 0 0 (MQ below (va_Qv post (zB w) (zA w)) ([.ref (zad w 0), .int a1, .int a2] : List Value).toArray s 0 0 (zA w)) (F0 m 30 ls []) := by
    intro x_3 x_4 J zJ M H locs ls hW hl h
    unfold wpJ_Model_pass_30 at h
    refine lv_aload_n hx hb dX11_pass_30 rfl (lv_at hl 0 rfl) ?_
    refine lv_iload_n hx hb dX11_pass_31 rfl (lv_at hl 1 rfl) ?_
    refine lv_iload_n hx hb dX11_pass_32 rfl (lv_at hl 3 rfl) ?_
    refine lv_iconst hx hb dX11_pass_33 zc_i5 ?_
    refine lv_aload_n hx hb dX11_pass_34 rfl (lv_at hl 0 rfl) ?_
    refine lv_iload_n hx hb dX11_pass_35 rfl (lv_at hl 1 rfl) ?_
    refine lv_iload_n hx hb dX11_pass_36 rfl (lv_at hl 3 rfl) ?_
    refine lv_iconst hx hb dX11_pass_37 zc_i5 ?_
    refine zcalli (zrunV (As := [.int a1, .int x_3, .int 5]) (rest := [.int 5, .int x_3, .int a1, .ref (zad w 0)]) X hml hl hW h0.1 rfl zk_Model_195 (c_Model_at h0 h) rfl ⟨Nat.le_of_ble_eq_true rfl, Nat.le_of_ble_eq_true rfl⟩ ⟨Nat.le_refl 0, Nat.le_refl 0⟩ rfl (Nat.le_of_ble_eq_true rfl) dX11_pass_38) hW (fun zr6 zm5 H locs h hW => ?_)
    refine lv_iload_n hx hb dX11_pass_41 rfl (lv_at hl 2 rfl) ?_
    refine lv_iadd hx hb dX11_pass_42 ?_
    refine zcallv (zrunV (As := [.int a1, .int x_3, .int 5, .int (zr6 + a2)]) (rest := []) X hml hl hW h0.1 rfl zk_Model_201 (c_Model_put h0 h) rfl ⟨Nat.le_of_ble_eq_true rfl, Nat.le_of_ble_eq_true rfl⟩ ⟨Nat.le_refl 0, Nat.le_refl 0⟩ rfl (Nat.le_of_ble_eq_true rfl) dX11_pass_43) hW (fun zm7 H locs h hW => ?_)
    refine lv_iload_n hx hb dX11_pass_46 rfl (lv_at hl 1 rfl) ?_
    refine lv_iconst hx hb dX11_pass_47 zc_i1 ?_
    refine lv_icmp_ne (tgt := 116) hx hb dX11_pass_48 rfl (fun c => ?_) (fun c => ?_)
    · replace h := h.1 c
      obtain ⟨zx9, ezx9⟩ : ∃ y : Int32, y = x_3 + 1 := ⟨_, rfl⟩
      replace h := h zx9 ezx9
      refine lv_iinc (v := zx9) (lv' := [(3, .int zx9), (0, .ref (zad w 0)), (1, .int a1), (2, .int a2), (4, .int x_4)]) hx hb dX11_pass_116 hl (k := 3) rfl (by rw [ezx9, zc_i1]) (Nat.le_of_ble_eq_true rfl) rfl (fun ls hl => ?_)
      refine lv_goto (tgt := 2) hx hb dX11_pass_119 rfl ?_
      exact zJ zx9 zm7 H locs ls hW (lv_sub hl [1, 2, 3, 0] rfl) h
    · replace h := h.2 c
      refine lv_iload hx hb dX11_pass_51 (lv_at hl 4 rfl) ?_
      refine lv_iconst hx hb dX11_pass_53 zc_i2 ?_
      refine lv_icmp_ne (tgt := 116) hx hb dX11_pass_54 rfl (fun c => ?_) (fun c => ?_)
      · replace h := h.1 c
        obtain ⟨zx10, ezx10⟩ : ∃ y : Int32, y = x_3 + 1 := ⟨_, rfl⟩
        replace h := h zx10 ezx10
        refine lv_iinc (v := zx10) (lv' := [(3, .int zx10), (0, .ref (zad w 0)), (1, .int a1), (2, .int a2), (4, .int x_4)]) hx hb dX11_pass_116 hl (k := 3) rfl (by rw [ezx10, zc_i1]) (Nat.le_of_ble_eq_true rfl) rfl (fun ls hl => ?_)
        refine lv_goto (tgt := 2) hx hb dX11_pass_119 rfl ?_
        exact zJ zx10 zm7 H locs ls hW (lv_sub hl [1, 2, 3, 0] rfl) h
      · replace h := h.2 c
        refine lv_aload_n hx hb dX11_pass_57 rfl (lv_at hl 0 rfl) ?_
        refine zg_Model_stood X hW h0 zu_1043 dX11_pass_58 ?_
        refine lv_aload_n hx hb dX11_pass_61 rfl (lv_at hl 0 rfl) ?_
        refine lv_iload_n hx hb dX11_pass_62 rfl (lv_at hl 1 rfl) ?_
        refine lv_iload_n hx hb dX11_pass_63 rfl (lv_at hl 3 rfl) ?_
        refine lv_iconst hx hb dX11_pass_64 zc_i2 ?_
        refine zcalli (zrunV (As := [.int a1, .int x_3, .int 2]) (rest := [.ref (zad w 11)]) X hml hl hW h0.1 rfl zk_Model_195 (c_Model_at h0 h) rfl ⟨Nat.le_of_ble_eq_true rfl, Nat.le_of_ble_eq_true rfl⟩ ⟨Nat.le_refl 0, Nat.le_refl 0⟩ rfl (Nat.le_of_ble_eq_true rfl) dX11_pass_65) hW (fun zr12 zm11 H locs h hW => ?_)
        refine lv_dup2_11 hx hb dX11_pass_68 rfl rfl ?_
        obtain ⟨g, h⟩ := h
        refine ziald X hW h0.2.2.2.2.2.2.2.2.2.2.1 g dX11_pass_69 ?_
        refine lv_iload_n hx hb dX11_pass_70 rfl (lv_at hl 2 rfl) ?_
        refine lv_iadd hx hb dX11_pass_71 ?_
        obtain ⟨g, h⟩ := h
        refine ziast X hW h0.2.2.2.2.2.2.2.2.2.2.1 g dX11_pass_72 (fun H locs zm13 ezm13 hW => ?_)
        replace h := h zm13 ezm13
        refine lv_goto (tgt := 116) hx hb dX11_pass_73 rfl ?_
        obtain ⟨zx14, ezx14⟩ : ∃ y : Int32, y = x_3 + 1 := ⟨_, rfl⟩
        replace h := h zx14 ezx14
        refine lv_iinc (v := zx14) (lv' := [(3, .int zx14), (0, .ref (zad w 0)), (1, .int a1), (2, .int a2), (4, .int x_4)]) hx hb dX11_pass_116 hl (k := 3) rfl (by rw [ezx14, zc_i1]) (Nat.le_of_ble_eq_true rfl) rfl (fun ls hl => ?_)
        refine lv_goto (tgt := 2) hx hb dX11_pass_119 rfl ?_
        exact zJ zx14 zm13 H locs ls hW (lv_sub hl [1, 2, 3, 0] rfl) h
  have zL_2 :  ∀ (n : Nat) (x_3 : Int32) (M : zMem) (H : Heap) (locs : List Loc) (ls : Array Slot), zWo w s.heap M H locs → lv_has ls 5 [(0, .ref (zad w 0)), (1, .int a1), (2, .int a2), (3, .int x_3)] → zlp1 (wpB_Model_pass_2 a1 a2   post) n x_3 M → W p l e (zRm 2 49) s m ([.ref (zad w 0), .int a1, .int a2] : List Value).toArray below meth c H locs 0 0 (MQ below (va_Qv post (zB w) (zA w)) ([.ref (zad w 0), .int a1, .int a2] : List Value).toArray s 0 0 (zA w)) (F0 m 2 ls []) := by
    intro n
    induction n with
    | zero => intro x_3 M H locs ls hW hl h; exact h.elim
    | succ n zJ =>
      intro x_3 M H locs ls hW hl h
      have h : wpB_Model_pass_2 a1 a2   post (zlp1 (wpB_Model_pass_2 a1 a2   post) n) x_3 M := h
      unfold wpB_Model_pass_2 at h
      refine lv_iload_n hx hb dX11_pass_2 rfl (lv_at hl 3 rfl) ?_
      refine lv_aload_n hx hb dX11_pass_3 rfl (lv_at hl 0 rfl) ?_
      refine zg_Model_many X hW h0 zu_1038 dX11_pass_4 ?_
      refine lv_icmp_ge (tgt := 122) hx hb dX11_pass_7 rfl (fun c => ?_) (fun c => ?_)
      · replace h := h.1 c
        refine lv_aload_n hx hb dX11_pass_122 rfl (lv_at hl 0 rfl) ?_
        refine lv_iload_n hx hb dX11_pass_123 rfl (lv_at hl 1 rfl) ?_
        refine lv_iconst hx hb dX11_pass_124 zc_i0 ?_
        refine lv_iload_n hx hb dX11_pass_125 rfl (lv_at hl 2 rfl) ?_
        refine zcallv (zrunV (As := [.int a1, .int 0, .int a2]) (rest := []) X hml hl hW h0.1 rfl zk_Model_207 (c_Model_more h0 h) rfl ⟨Nat.le_of_ble_eq_true rfl, Nat.le_of_ble_eq_true rfl⟩ ⟨Nat.le_refl 0, Nat.le_refl 0⟩ rfl (Nat.le_of_ble_eq_true rfl) dX11_pass_126) hW (fun zm1 H locs h hW => ?_)
        exact zretv X hr hlk hW h dX11_pass_129
      · replace h := h.2 c
        refine lv_aload_n hx hb dX11_pass_10 rfl (lv_at hl 0 rfl) ?_
        refine lv_iload_n hx hb dX11_pass_11 rfl (lv_at hl 1 rfl) ?_
        refine lv_iload_n hx hb dX11_pass_12 rfl (lv_at hl 3 rfl) ?_
        refine lv_iconst hx hb dX11_pass_13 zc_i0 ?_
        refine zcalli (zrunV (As := [.int a1, .int x_3, .int 0]) (rest := []) X hml hl hW h0.1 rfl zk_Model_195 (c_Model_at h0 h) rfl ⟨Nat.le_of_ble_eq_true rfl, Nat.le_of_ble_eq_true rfl⟩ ⟨Nat.le_refl 0, Nat.le_refl 0⟩ rfl (Nat.le_of_ble_eq_true rfl) dX11_pass_14) hW (fun zr4 zm3 H locs h hW => ?_)
        refine lv_istore (lv' := [(4, .int zr4), (0, .ref (zad w 0)), (1, .int a1), (2, .int a2), (3, .int x_3)]) hx hb dX11_pass_17 hl (Nat.le_of_ble_eq_true rfl) rfl (fun ls hl => ?_)
        refine lv_iload hx hb dX11_pass_19 (lv_at hl 0 rfl) ?_
        refine lv_iconst hx hb dX11_pass_21 zc_i2 ?_
        refine lv_icmp_eq (tgt := 30) hx hb dX11_pass_22 rfl (fun c => ?_) (fun c => ?_)
        · replace h := h.1 c
          exact zJ_30 x_3 zr4 _ zJ zm3 H locs ls hW (lv_sub hl [1, 2, 3, 4, 0] rfl) h
        · replace h := h.2 c
          refine lv_iload hx hb dX11_pass_25 (lv_at hl 0 rfl) ?_
          refine lv_if_ne (tgt := 76) hx hb dX11_pass_27 rfl (fun c => ?_) (fun c => ?_)
          · replace h := h.1 c
            refine lv_aload_n hx hb dX11_pass_76 rfl (lv_at hl 1 rfl) ?_
            refine lv_iload_n hx hb dX11_pass_77 rfl (lv_at hl 2 rfl) ?_
            refine lv_iload_n hx hb dX11_pass_78 rfl (lv_at hl 4 rfl) ?_
            refine lv_iconst hx hb dX11_pass_79 zc_i1 ?_
            refine lv_aload_n hx hb dX11_pass_80 rfl (lv_at hl 1 rfl) ?_
            refine lv_iload_n hx hb dX11_pass_81 rfl (lv_at hl 2 rfl) ?_
            refine lv_iload_n hx hb dX11_pass_82 rfl (lv_at hl 4 rfl) ?_
            refine lv_iconst hx hb dX11_pass_83 zc_i1 ?_
            refine zcalli (zrunV (As := [.int a1, .int x_3, .int 1]) (rest := [.int 1, .int x_3, .int a1, .ref (zad w 0)]) X hml hl hW h0.1 rfl zk_Model_195 (c_Model_at h0 h) rfl ⟨Nat.le_of_ble_eq_true rfl, Nat.le_of_ble_eq_true rfl⟩ ⟨Nat.le_refl 0, Nat.le_refl 0⟩ rfl (Nat.le_of_ble_eq_true rfl) dX11_pass_84) hW (fun zr16 zm15 H locs h hW => ?_)
            refine lv_iload_n hx hb dX11_pass_87 rfl (lv_at hl 3 rfl) ?_
            refine lv_isub hx hb dX11_pass_88 ?_
            refine zcallv (zrunV (As := [.int a1, .int x_3, .int 1, .int (zr16 - a2)]) (rest := []) X hml hl hW h0.1 rfl zk_Model_201 (c_Model_put h0 h) rfl ⟨Nat.le_of_ble_eq_true rfl, Nat.le_of_ble_eq_true rfl⟩ ⟨Nat.le_refl 0, Nat.le_refl 0⟩ rfl (Nat.le_of_ble_eq_true rfl) dX11_pass_89) hW (fun zm17 H locs h hW => ?_)
            refine lv_iload hx hb dX11_pass_92 (lv_at hl 0 rfl) ?_
            refine lv_iconst hx hb dX11_pass_94 zc_i1 ?_
            refine lv_icmp_ne (tgt := 116) hx hb dX11_pass_95 rfl (fun c => ?_) (fun c => ?_)
            · replace h := h.1 c
              obtain ⟨zx19, ezx19⟩ : ∃ y : Int32, y = x_3 + 1 := ⟨_, rfl⟩
              replace h := h zx19 ezx19
              refine lv_iinc (v := zx19) (lv' := [(3, .int zx19), (4, .int zr4), (0, .ref (zad w 0)), (1, .int a1), (2, .int a2)]) hx hb dX11_pass_116 hl (k := 4) rfl (by rw [ezx19, zc_i1]) (Nat.le_of_ble_eq_true rfl) rfl (fun ls hl => ?_)
              refine lv_goto (tgt := 2) hx hb dX11_pass_119 rfl ?_
              exact zJ zx19 zm17 H locs ls hW (lv_sub hl [2, 3, 4, 0] rfl) h
            · replace h := h.2 c
              refine lv_aload_n hx hb dX11_pass_98 rfl (lv_at hl 1 rfl) ?_
              refine lv_iload_n hx hb dX11_pass_99 rfl (lv_at hl 2 rfl) ?_
              refine lv_iload_n hx hb dX11_pass_100 rfl (lv_at hl 4 rfl) ?_
              refine lv_iconst hx hb dX11_pass_101 zc_i1 ?_
              refine zcalli (zrunV (As := [.int a1, .int x_3, .int 1]) (rest := []) X hml hl hW h0.1 rfl zk_Model_195 (c_Model_at h0 h) rfl ⟨Nat.le_of_ble_eq_true rfl, Nat.le_of_ble_eq_true rfl⟩ ⟨Nat.le_refl 0, Nat.le_refl 0⟩ rfl (Nat.le_of_ble_eq_true rfl) dX11_pass_102) hW (fun zr21 zm20 H locs h hW => ?_)
              refine lv_if_ne (tgt := 116) hx hb dX11_pass_105 rfl (fun c => ?_) (fun c => ?_)
              · replace h := h.1 c
                obtain ⟨zx22, ezx22⟩ : ∃ y : Int32, y = x_3 + 1 := ⟨_, rfl⟩
                replace h := h zx22 ezx22
                refine lv_iinc (v := zx22) (lv' := [(3, .int zx22), (4, .int zr4), (0, .ref (zad w 0)), (1, .int a1), (2, .int a2)]) hx hb dX11_pass_116 hl (k := 4) rfl (by rw [ezx22, zc_i1]) (Nat.le_of_ble_eq_true rfl) rfl (fun ls hl => ?_)
                refine lv_goto (tgt := 2) hx hb dX11_pass_119 rfl ?_
                exact zJ zx22 zm20 H locs ls hW (lv_sub hl [2, 3, 4, 0] rfl) h
              · replace h := h.2 c
                refine lv_aload_n hx hb dX11_pass_108 rfl (lv_at hl 1 rfl) ?_
                refine lv_iload_n hx hb dX11_pass_109 rfl (lv_at hl 2 rfl) ?_
                refine lv_iload_n hx hb dX11_pass_110 rfl (lv_at hl 4 rfl) ?_
                refine lv_iconst hx hb dX11_pass_111 zc_i0 ?_
                refine lv_iconst hx hb dX11_pass_112 zc_i0 ?_
                refine zcallv (zrunV (As := [.int a1, .int x_3, .int 0, .int 0]) (rest := []) X hml hl hW h0.1 rfl zk_Model_201 (c_Model_put h0 h) rfl ⟨Nat.le_of_ble_eq_true rfl, Nat.le_of_ble_eq_true rfl⟩ ⟨Nat.le_refl 0, Nat.le_refl 0⟩ rfl (Nat.le_of_ble_eq_true rfl) dX11_pass_113) hW (fun zm23 H locs h hW => ?_)
                obtain ⟨zx25, ezx25⟩ : ∃ y : Int32, y = x_3 + 1 := ⟨_, rfl⟩
                replace h := h zx25 ezx25
                refine lv_iinc (v := zx25) (lv' := [(3, .int zx25), (4, .int zr4), (0, .ref (zad w 0)), (1, .int a1), (2, .int a2)]) hx hb dX11_pass_116 hl (k := 4) rfl (by rw [ezx25, zc_i1]) (Nat.le_of_ble_eq_true rfl) rfl (fun ls hl => ?_)
                refine lv_goto (tgt := 2) hx hb dX11_pass_119 rfl ?_
                exact zJ zx25 zm23 H locs ls hW (lv_sub hl [2, 3, 4, 0] rfl) h
          · replace h := h.2 c
            exact zJ_30 x_3 zr4 _ zJ zm3 H locs ls hW (lv_sub hl [1, 2, 3, 4, 0] rfl) h
  unfold wp_Model_pass at h
  have zMain : ∀ (H : Heap) (locs : List Loc) (ls : Array Slot), zWo w s.heap M H locs → lv_has ls 5 [(0, .ref (zad w 0)), (1, .int a1), (2, .int a2)] → W p l e (zRm 2 49) s m ([.ref (zad w 0), .int a1, .int a2] : List Value).toArray below meth c H locs 0 0 (MQ below (va_Qv post (zB w) (zA w)) ([.ref (zad w 0), .int a1, .int a2] : List Value).toArray s 0 0 (zA w)) (F0 m 0 ls []) := by
    intro H locs ls hW hl
    refine lv_iconst hx hb dX11_pass_0 zc_i0 ?_
    refine lv_istore_n (lv' := [(3, .int 0), (0, .ref (zad w 0)), (1, .int a1), (2, .int a2)]) hx hb dX11_pass_1 rfl hl (Nat.le_of_ble_eq_true rfl) rfl (fun ls hl => ?_)
    obtain ⟨n, h⟩ := h
    refine zL_2   n 0 M H locs ls hW (lv_sub hl [1, 2, 3, 0] rfl) h
  exact zMain s.heap [] ls hW hl
def wp_Model_begin  (M : zMem) (Q : Int32 → zMem → Prop) : Prop :=
  wp_Model_of 0 1 M (fun zr2 zm1 => wp_Model_beginAnew zm1 (fun zm3 => Q zr2 zm3))
set_option maxHeartbeats 4000000 in
set_option maxRecDepth 20000 in
theorem c_Model_begin {l : Launch} {w : zWd} {M : zMem} {post : Int32 → zMem → Prop} (h0 : zI_Model w) (h : wp_Model_begin  M post) : zMi l ⟨"HandToHandModel", "begin", "()I"⟩ prog_13_method_50_code 2 (Option.some .int) 9 207 w [.ref (zad w 0)] M post := by
  refine zMet (by decide) (Nat.le_of_ble_eq_true rfl) ?_
  intro p e s m below meth c X hr hlk hml hW ls hl
  have hx := X.1
  have hb := X.2.1
  have hl : lv_has ls 2 [(0, .ref (zad w 0))] := hl
  unfold wp_Model_begin at h
  have zMain : ∀ (H : Heap) (locs : List Loc) (ls : Array Slot), zWo w s.heap M H locs → lv_has ls 2 [(0, .ref (zad w 0))] → W p l e (zRm 9 207) s m ([.ref (zad w 0)] : List Value).toArray below meth c H locs 0 0 (MQ below (va_Qi post (zB w) (zA w)) ([.ref (zad w 0)] : List Value).toArray s 0 0 (zA w)) (F0 m 0 ls []) := by
    intro H locs ls hW hl
    refine lv_aload_n hx hb dX11_begin_0 rfl (lv_at hl 0 rfl) ?_
    refine lv_iconst hx hb dX11_begin_1 zc_i0 ?_
    refine lv_iconst hx hb dX11_begin_2 zc_i1 ?_
    refine zcalli (zrunV (As := [.int 0, .int 1]) (rest := []) X hml hl hW h0.1 rfl zk_Model_218 (c_Model_of h0 h) rfl ⟨Nat.le_of_ble_eq_true rfl, Nat.le_of_ble_eq_true rfl⟩ ⟨Nat.le_refl 0, Nat.le_refl 0⟩ rfl (Nat.le_of_ble_eq_true rfl) dX11_begin_3) hW (fun zr2 zm1 H locs h hW => ?_)
    refine lv_istore_n (lv' := [(1, .int zr2), (0, .ref (zad w 0))]) hx hb dX11_begin_6 rfl hl (Nat.le_of_ble_eq_true rfl) rfl (fun ls hl => ?_)
    refine lv_aload_n hx hb dX11_begin_7 rfl (lv_at hl 1 rfl) ?_
    refine zcallv (zrunV (As := []) (rest := []) X hml hl hW h0.1 rfl zk_Model_159 (c_Model_beginAnew h0 h) rfl ⟨Nat.le_of_ble_eq_true rfl, Nat.le_of_ble_eq_true rfl⟩ ⟨Nat.le_refl 0, Nat.le_refl 0⟩ rfl (Nat.le_of_ble_eq_true rfl) dX11_begin_8) hW (fun zm3 H locs h hW => ?_)
    refine lv_iload_n hx hb dX11_begin_11 rfl (lv_at hl 0 rfl) ?_
    exact zreti X hr hlk hW h dX11_begin_12
  exact zMain s.heap [] ls hW hl
def wpJ_Model_go_59 (a1 : Int32)  (J : Int32 → zMem → Prop) (Q : Int32 → zMem → Prop) (x_2 : Int32) (x_3 : Int32) (s_0 : Int32) (M : zMem) : Prop :=
  wp_Model_pass 0 s_0 M (fun zm13 => wp_Model_settle 0 zm13 (fun zm15 => ∀ zx17 : Int32, zx17 = x_3 - s_0 → J zx17 zm15))
def wpJ_Model_go_53 (a1 : Int32)  (J : Int32 → zMem → Prop) (Q : Int32 → zMem → Prop) (x_2 : Int32) (x_3 : Int32)  (M : zMem) : Prop :=
  wpJ_Model_go_59 a1 J Q x_2 x_3 x_3 M
def wpB_Model_go_31 (a1 : Int32) (x_2 : Int32)  (Q : Int32 → zMem → Prop) (J : Int32 → zMem → Prop) (x_3 : Int32) (M : zMem) : Prop :=
  (x_3 ≤ 0 → wp_Model_of 0 1 M (fun zr10 zm9 => Q (zr10 - x_2) zm9)) ∧ (¬ x_3 ≤ 0 → wp_Model_least 0 M (fun zr12 zm11 => (zr12 = 0 → wpJ_Model_go_53 a1 J Q x_2 x_3 zm11) ∧ (¬ zr12 = 0 → (zr12 ≤ x_3 → wpJ_Model_go_59 a1 J Q x_2 x_3 zr12 zm11) ∧ (¬ zr12 ≤ x_3 → wpJ_Model_go_53 a1 J Q x_2 x_3 zm11))))
def wp_Model_go (a1 : Int32) (M : zMem) (Q : Int32 → zMem → Prop) : Prop :=
  wp_Model_in a1.toInt64 1 9999 M (fun zr2 zm1 => (¬ zr2 = 0 → wp_Model_awake zm1 (fun zm3 => wp_Model_asNumbered zm3 (fun zm5 => wp_Model_of 0 1 zm5 (fun zr8 zm7 => ∃ n : Nat, zlp1 (wpB_Model_go_31 a1 zr8  Q) n a1 zm7)))) ∧ (zr2 = 0 → Q ((-1)) zm1))
set_option maxHeartbeats 4000000 in
set_option maxRecDepth 20000 in
theorem c_Model_go {l : Launch} {w : zWd} {a1 : Int32} {M : zMem} {post : Int32 → zMem → Prop} (h0 : zI_Model w) (h : wp_Model_go a1 M post) : zMi l ⟨"HandToHandModel", "go", "(I)I"⟩ prog_13_method_51_code 5 (Option.some .int) 8 187 w [.ref (zad w 0), .int a1] M post := by
  refine zMet (by decide) (Nat.le_of_ble_eq_true rfl) ?_
  intro p e s m below meth c X hr hlk hml hW ls hl
  have hx := X.1
  have hb := X.2.1
  have hl : lv_has ls 5 [(0, .ref (zad w 0)), (1, .int a1)] := hl
  have zJ_59 : ∀ (x_2 : Int32) (x_3 : Int32) (s_0 : Int32) (J : Int32 → zMem → Prop) (zJ : ∀ (y_3 : Int32) (M : zMem) (H : Heap) (locs : List Loc) (ls : Array Slot), zWo w s.heap M H locs → lv_has ls 5 [(0, .ref (zad w 0)), (2, .int x_2), (3, .int y_3)] → J y_3 M → W p l e (zRm 8 187) s m ([.ref (zad w 0), .int a1] : List Value).toArray below meth c H locs 0 0 (MQ below (va_Qi post (zB w) (zA w)) ([.ref (zad w 0), .int a1] : List Value).toArray s 0 0 (zA w)) (F0 m 31 ls [])) (M : zMem) (H : Heap) (locs : List Loc) (ls : Array Slot), zWo w s.heap M H locs → lv_has ls 5 [(0, .ref (zad w 0)), (2, .int x_2), (3, .int x_3)] → wpJ_Model_go_59 a1 J post x_2 x_3 s_0 M → W p l e (zRm 8 187) s m ([.ref (zad w 0), .int a1] : List Value).toArray below meth c H locs 0 0 (MQ below (va_Qi post (zB w) (zA w)) ([.ref (zad w 0), .int a1] : List Value).toArray s 0 0 (zA w)) (F0 m 59 ls [.int s_0]) := by
    intro x_2 x_3 s_0 J zJ M H locs ls hW hl h
    unfold wpJ_Model_go_59 at h
    refine lv_istore (lv' := [(4, .int s_0), (0, .ref (zad w 0)), (2, .int x_2), (3, .int x_3)]) hx hb dX11_go_59 hl (Nat.le_of_ble_eq_true rfl) rfl (fun ls hl => ?_)
    refine lv_aload_n hx hb dX11_go_61 rfl (lv_at hl 1 rfl) ?_
    refine lv_iconst hx hb dX11_go_62 zc_i0 ?_
    refine lv_iload hx hb dX11_go_63 (lv_at hl 0 rfl) ?_
    refine zcallv (zrunV (As := [.int 0, .int s_0]) (rest := []) X hml hl hW h0.1 rfl zk_Model_254 (c_Model_pass h0 h) rfl ⟨Nat.le_of_ble_eq_true rfl, Nat.le_of_ble_eq_true rfl⟩ ⟨Nat.le_refl 0, Nat.le_refl 0⟩ rfl (Nat.le_of_ble_eq_true rfl) dX11_go_65) hW (fun zm13 H locs h hW => ?_)
    refine lv_aload_n hx hb dX11_go_68 rfl (lv_at hl 1 rfl) ?_
    refine lv_iconst hx hb dX11_go_69 zc_i0 ?_
    refine zcallv (zrunV (As := [.int 0]) (rest := []) X hml hl hW h0.1 rfl zk_Model_246 (c_Model_settle h0 h) rfl ⟨Nat.le_of_ble_eq_true rfl, Nat.le_of_ble_eq_true rfl⟩ ⟨Nat.le_refl 0, Nat.le_refl 0⟩ rfl (Nat.le_of_ble_eq_true rfl) dX11_go_70) hW (fun zm15 H locs h hW => ?_)
    refine lv_iload_n hx hb dX11_go_73 rfl (lv_at hl 3 rfl) ?_
    refine lv_iload hx hb dX11_go_74 (lv_at hl 0 rfl) ?_
    refine lv_isub hx hb dX11_go_76 ?_
    refine lv_topi (fun zx17 ezx17 => ?_)
    replace h := h zx17 ezx17
    refine lv_istore_n (lv' := [(3, .int zx17), (4, .int s_0), (0, .ref (zad w 0)), (2, .int x_2)]) hx hb dX11_go_77 rfl hl (Nat.le_of_ble_eq_true rfl) rfl (fun ls hl => ?_)
    refine lv_goto (tgt := 31) hx hb dX11_go_78 rfl ?_
    exact zJ zx17 zm15 H locs ls hW (lv_sub hl [2, 3, 0] rfl) h
  have zJ_53 : ∀ (x_2 : Int32) (x_3 : Int32) (J : Int32 → zMem → Prop) (zJ : ∀ (y_3 : Int32) (M : zMem) (H : Heap) (locs : List Loc) (ls : Array Slot), zWo w s.heap M H locs → lv_has ls 5 [(0, .ref (zad w 0)), (2, .int x_2), (3, .int y_3)] → J y_3 M → W p l e (zRm 8 187) s m ([.ref (zad w 0), .int a1] : List Value).toArray below meth c H locs 0 0 (MQ below (va_Qi post (zB w) (zA w)) ([.ref (zad w 0), .int a1] : List Value).toArray s 0 0 (zA w)) (F0 m 31 ls [])) (M : zMem) (H : Heap) (locs : List Loc) (ls : Array Slot), zWo w s.heap M H locs → lv_has ls 5 [(0, .ref (zad w 0)), (2, .int x_2), (3, .int x_3)] → wpJ_Model_go_53 a1 J post x_2 x_3 M → W p l e (zRm 8 187) s m ([.ref (zad w 0), .int a1] : List Value).toArray below meth c H locs 0 0 (MQ below (va_Qi post (zB w) (zA w)) ([.ref (zad w 0), .int a1] : List Value).toArray s 0 0 (zA w)) (F0 m 53 ls []) := by
    intro x_2 x_3 J zJ M H locs ls hW hl h
    unfold wpJ_Model_go_53 at h
    refine lv_iload_n hx hb dX11_go_53 rfl (lv_at hl 2 rfl) ?_
    refine lv_goto (tgt := 59) hx hb dX11_go_54 rfl ?_
    exact zJ_59 x_2 x_3 x_3 _ zJ M H locs ls hW (lv_sub hl [0, 1, 2] rfl) h
  have zL_31 : ∀ (x_2 : Int32), ∀ (n : Nat) (x_3 : Int32) (M : zMem) (H : Heap) (locs : List Loc) (ls : Array Slot), zWo w s.heap M H locs → lv_has ls 5 [(0, .ref (zad w 0)), (2, .int x_2), (3, .int x_3)] → zlp1 (wpB_Model_go_31 a1 x_2  post) n x_3 M → W p l e (zRm 8 187) s m ([.ref (zad w 0), .int a1] : List Value).toArray below meth c H locs 0 0 (MQ below (va_Qi post (zB w) (zA w)) ([.ref (zad w 0), .int a1] : List Value).toArray s 0 0 (zA w)) (F0 m 31 ls []) := by
    intro x_2 n
    induction n with
    | zero => intro x_3 M H locs ls hW hl h; exact h.elim
    | succ n zJ =>
      intro x_3 M H locs ls hW hl h
      have h : wpB_Model_go_31 a1 x_2  post (zlp1 (wpB_Model_go_31 a1 x_2  post) n) x_3 M := h
      unfold wpB_Model_go_31 at h
      refine lv_iload_n hx hb dX11_go_31 rfl (lv_at hl 2 rfl) ?_
      refine lv_if_le (tgt := 81) hx hb dX11_go_32 rfl (fun c => ?_) (fun c => ?_)
      · replace h := h.1 c
        refine lv_aload_n hx hb dX11_go_81 rfl (lv_at hl 0 rfl) ?_
        refine lv_iconst hx hb dX11_go_82 zc_i0 ?_
        refine lv_iconst hx hb dX11_go_83 zc_i1 ?_
        refine zcalli (zrunV (As := [.int 0, .int 1]) (rest := []) X hml hl hW h0.1 rfl zk_Model_218 (c_Model_of h0 h) rfl ⟨Nat.le_of_ble_eq_true rfl, Nat.le_of_ble_eq_true rfl⟩ ⟨Nat.le_refl 0, Nat.le_refl 0⟩ rfl (Nat.le_of_ble_eq_true rfl) dX11_go_84) hW (fun zr10 zm9 H locs h hW => ?_)
        refine lv_iload_n hx hb dX11_go_87 rfl (lv_at hl 1 rfl) ?_
        refine lv_isub hx hb dX11_go_88 ?_
        exact zreti X hr hlk hW h dX11_go_89
      · replace h := h.2 c
        refine lv_aload_n hx hb dX11_go_35 rfl (lv_at hl 0 rfl) ?_
        refine lv_iconst hx hb dX11_go_36 zc_i0 ?_
        refine zcalli (zrunV (As := [.int 0]) (rest := []) X hml hl hW h0.1 rfl zk_Model_237 (c_Model_least h0 h) rfl ⟨Nat.le_of_ble_eq_true rfl, Nat.le_of_ble_eq_true rfl⟩ ⟨Nat.le_refl 0, Nat.le_refl 0⟩ rfl (Nat.le_of_ble_eq_true rfl) dX11_go_37) hW (fun zr12 zm11 H locs h hW => ?_)
        refine lv_istore (lv' := [(4, .int zr12), (0, .ref (zad w 0)), (2, .int x_2), (3, .int x_3)]) hx hb dX11_go_40 hl (Nat.le_of_ble_eq_true rfl) rfl (fun ls hl => ?_)
        refine lv_iload hx hb dX11_go_42 (lv_at hl 0 rfl) ?_
        refine lv_if_eq (tgt := 53) hx hb dX11_go_44 rfl (fun c => ?_) (fun c => ?_)
        · replace h := h.1 c
          exact zJ_53 x_2 x_3 _ zJ zm11 H locs ls hW (lv_sub hl [1, 2, 3] rfl) h
        · replace h := h.2 c
          refine lv_iload hx hb dX11_go_47 (lv_at hl 0 rfl) ?_
          refine lv_iload_n hx hb dX11_go_49 rfl (lv_at hl 3 rfl) ?_
          refine lv_icmp_le (tgt := 57) hx hb dX11_go_50 rfl (fun c => ?_) (fun c => ?_)
          · replace h := h.1 c
            refine lv_iload hx hb dX11_go_57 (lv_at hl 0 rfl) ?_
            exact zJ_59 x_2 x_3 zr12 _ zJ zm11 H locs ls hW (lv_sub hl [1, 2, 3] rfl) h
          · replace h := h.2 c
            exact zJ_53 x_2 x_3 _ zJ zm11 H locs ls hW (lv_sub hl [1, 2, 3] rfl) h
  unfold wp_Model_go at h
  have zMain : ∀ (H : Heap) (locs : List Loc) (ls : Array Slot), zWo w s.heap M H locs → lv_has ls 5 [(0, .ref (zad w 0)), (1, .int a1)] → W p l e (zRm 8 187) s m ([.ref (zad w 0), .int a1] : List Value).toArray below meth c H locs 0 0 (MQ below (va_Qi post (zB w) (zA w)) ([.ref (zad w 0), .int a1] : List Value).toArray s 0 0 (zA w)) (F0 m 0 ls []) := by
    intro H locs ls hW hl
    refine lv_iload_n hx hb dX11_go_0 rfl (lv_at hl 1 rfl) ?_
    refine lv_i2l hx hb dX11_go_1 rfl ?_
    refine lv_lconst hx hb dX11_go_2 zc_l1 ?_
    refine lv_ldc2 hx hb X.2.2.1 (X.2.2.2.1 _ zu_1341) dX11_go_3 ?_
    refine zcalli (zrunS (As := [.long a1.toInt64, .long 1, .long 9999]) (rest := []) X hml hl hW zk_Model_69 (c_Model_in  h) rfl ⟨Nat.le_of_ble_eq_true rfl, Nat.le_of_ble_eq_true rfl⟩ ⟨Nat.le_refl 0, Nat.le_refl 0⟩ rfl (Nat.le_of_ble_eq_true rfl) dX11_go_6) hW (fun zr2 zm1 H locs h hW => ?_)
    refine lv_if_ne (tgt := 14) hx hb dX11_go_9 rfl (fun c => ?_) (fun c => ?_)
    · replace h := h.1 c
      refine lv_aload_n hx hb dX11_go_14 rfl (lv_at hl 0 rfl) ?_
      refine zcallv (zrunV (As := []) (rest := []) X hml hl hW h0.1 rfl zk_Model_180 (c_Model_awake h0 h) rfl ⟨Nat.le_of_ble_eq_true rfl, Nat.le_of_ble_eq_true rfl⟩ ⟨Nat.le_refl 0, Nat.le_refl 0⟩ rfl (Nat.le_of_ble_eq_true rfl) dX11_go_15) hW (fun zm3 H locs h hW => ?_)
      refine lv_aload_n hx hb dX11_go_18 rfl (lv_at hl 0 rfl) ?_
      refine zcallv (zrunV (As := []) (rest := []) X hml hl hW h0.1 rfl zk_Model_243 (c_Model_asNumbered h0 h) rfl ⟨Nat.le_of_ble_eq_true rfl, Nat.le_of_ble_eq_true rfl⟩ ⟨Nat.le_refl 0, Nat.le_refl 0⟩ rfl (Nat.le_of_ble_eq_true rfl) dX11_go_19) hW (fun zm5 H locs h hW => ?_)
      refine lv_aload_n hx hb dX11_go_22 rfl (lv_at hl 0 rfl) ?_
      refine lv_iconst hx hb dX11_go_23 zc_i0 ?_
      refine lv_iconst hx hb dX11_go_24 zc_i1 ?_
      refine zcalli (zrunV (As := [.int 0, .int 1]) (rest := []) X hml hl hW h0.1 rfl zk_Model_218 (c_Model_of h0 h) rfl ⟨Nat.le_of_ble_eq_true rfl, Nat.le_of_ble_eq_true rfl⟩ ⟨Nat.le_refl 0, Nat.le_refl 0⟩ rfl (Nat.le_of_ble_eq_true rfl) dX11_go_25) hW (fun zr8 zm7 H locs h hW => ?_)
      refine lv_istore_n (lv' := [(2, .int zr8), (0, .ref (zad w 0)), (1, .int a1)]) hx hb dX11_go_28 rfl hl (Nat.le_of_ble_eq_true rfl) rfl (fun ls hl => ?_)
      refine lv_iload_n hx hb dX11_go_29 rfl (lv_at hl 2 rfl) ?_
      refine lv_istore_n (lv' := [(3, .int a1), (2, .int zr8), (0, .ref (zad w 0)), (1, .int a1)]) hx hb dX11_go_30 rfl hl (Nat.le_of_ble_eq_true rfl) rfl (fun ls hl => ?_)
      obtain ⟨n, h⟩ := h
      refine zL_31 zr8  n a1 zm7 H locs ls hW (lv_sub hl [2, 1, 0] rfl) h
    · replace h := h.2 c
      refine lv_iconst hx hb dX11_go_12 zc_im1 ?_
      exact zreti X hr hlk hW h dX11_go_13
  exact zMain s.heap [] ls hW hl
def wpJ_Model_night_31   (J : Int32 → Int32 → zMem → Prop) (Q : Int32 → zMem → Prop) (x_2 : Int32) (s_0 : Int32) (s_1 : Int32) (M : zMem) : Prop :=
  ∀ zx10 : Int32, zx10 = s_0 + s_1 → wp_Model_put 0 x_2 0 0 M (fun zm11 => wp_Model_put 0 x_2 1 0 zm11 (fun zm13 => wp_Model_put 0 x_2 2 (-4) zm13 (fun zm15 => wp_Model_put 0 x_2 3 (-4) zm15 (fun zm17 => wp_Model_put 0 x_2 4 (-4) zm17 (fun zm19 => ∀ zx21 : Int32, zx21 = x_2 + 1 → J zx10 zx21 zm19)))))
def wpB_Model_night_8    (Q : Int32 → zMem → Prop) (J : Int32 → Int32 → zMem → Prop) (x_1 : Int32) (x_2 : Int32) (M : zMem) : Prop :=
  (5 ≤ x_2 → vp_in 4 384 ∧ ∀ zm3 : zMem, zm3 = zup M 6 (ix 4) 0 → wp_Model_asNumbered zm3 (fun zm4 => wp_Model_settle 0 zm4 (fun zm6 => Q x_1 zm6))) ∧ (¬ 5 ≤ x_2 → wp_Model_at 0 x_2 2 M (fun zr9 zm8 => (¬ zr9 = (-4) → wpJ_Model_night_31  J Q x_2 x_1 1 zm8) ∧ (zr9 = (-4) → wpJ_Model_night_31  J Q x_2 x_1 0 zm8)))
def wp_Model_night  (M : zMem) (Q : Int32 → zMem → Prop) : Prop :=
  wp_Model_awake M (fun zm1 => ∃ n : Nat, zlp2 (wpB_Model_night_8    Q) n 0 0 zm1)
set_option maxHeartbeats 4000000 in
set_option maxRecDepth 20000 in
theorem c_Model_night {l : Launch} {w : zWd} {M : zMem} {post : Int32 → zMem → Prop} (h0 : zI_Model w) (h : wp_Model_night  M post) : zMi l ⟨"HandToHandModel", "night", "()I"⟩ prog_13_method_52_code 3 (Option.some .int) 8 187 w [.ref (zad w 0)] M post := by
  refine zMet (by decide) (Nat.le_of_ble_eq_true rfl) ?_
  intro p e s m below meth c X hr hlk hml hW ls hl
  have hx := X.1
  have hb := X.2.1
  have hl : lv_has ls 3 [(0, .ref (zad w 0))] := hl
  have zJ_31 : ∀ (x_2 : Int32) (s_0 : Int32) (s_1 : Int32) (J : Int32 → Int32 → zMem → Prop) (zJ : ∀ (y_1 : Int32) (y_2 : Int32) (M : zMem) (H : Heap) (locs : List Loc) (ls : Array Slot), zWo w s.heap M H locs → lv_has ls 3 [(0, .ref (zad w 0)), (1, .int y_1), (2, .int y_2)] → J y_1 y_2 M → W p l e (zRm 8 187) s m ([.ref (zad w 0)] : List Value).toArray below meth c H locs 0 0 (MQ below (va_Qi post (zB w) (zA w)) ([.ref (zad w 0)] : List Value).toArray s 0 0 (zA w)) (F0 m 8 ls [])) (M : zMem) (H : Heap) (locs : List Loc) (ls : Array Slot), zWo w s.heap M H locs → lv_has ls 3 [(0, .ref (zad w 0)), (2, .int x_2)] → wpJ_Model_night_31  J post x_2 s_0 s_1 M → W p l e (zRm 8 187) s m ([.ref (zad w 0)] : List Value).toArray below meth c H locs 0 0 (MQ below (va_Qi post (zB w) (zA w)) ([.ref (zad w 0)] : List Value).toArray s 0 0 (zA w)) (F0 m 31 ls [.int s_1, .int s_0]) := by
    intro x_2 s_0 s_1 J zJ M H locs ls hW hl h
    unfold wpJ_Model_night_31 at h
    refine lv_iadd hx hb dX11_night_31 ?_
    refine lv_topi (fun zx10 ezx10 => ?_)
    replace h := h zx10 ezx10
    refine lv_istore_n (lv' := [(1, .int zx10), (0, .ref (zad w 0)), (2, .int x_2)]) hx hb dX11_night_32 rfl hl (Nat.le_of_ble_eq_true rfl) rfl (fun ls hl => ?_)
    refine lv_aload_n hx hb dX11_night_33 rfl (lv_at hl 1 rfl) ?_
    refine lv_iconst hx hb dX11_night_34 zc_i0 ?_
    refine lv_iload_n hx hb dX11_night_35 rfl (lv_at hl 2 rfl) ?_
    refine lv_iconst hx hb dX11_night_36 zc_i0 ?_
    refine lv_iconst hx hb dX11_night_37 zc_i0 ?_
    refine zcallv (zrunV (As := [.int 0, .int x_2, .int 0, .int 0]) (rest := []) X hml hl hW h0.1 rfl zk_Model_201 (c_Model_put h0 h) rfl ⟨Nat.le_of_ble_eq_true rfl, Nat.le_of_ble_eq_true rfl⟩ ⟨Nat.le_refl 0, Nat.le_refl 0⟩ rfl (Nat.le_of_ble_eq_true rfl) dX11_night_38) hW (fun zm11 H locs h hW => ?_)
    refine lv_aload_n hx hb dX11_night_41 rfl (lv_at hl 1 rfl) ?_
    refine lv_iconst hx hb dX11_night_42 zc_i0 ?_
    refine lv_iload_n hx hb dX11_night_43 rfl (lv_at hl 2 rfl) ?_
    refine lv_iconst hx hb dX11_night_44 zc_i1 ?_
    refine lv_iconst hx hb dX11_night_45 zc_i0 ?_
    refine zcallv (zrunV (As := [.int 0, .int x_2, .int 1, .int 0]) (rest := []) X hml hl hW h0.1 rfl zk_Model_201 (c_Model_put h0 h) rfl ⟨Nat.le_of_ble_eq_true rfl, Nat.le_of_ble_eq_true rfl⟩ ⟨Nat.le_refl 0, Nat.le_refl 0⟩ rfl (Nat.le_of_ble_eq_true rfl) dX11_night_46) hW (fun zm13 H locs h hW => ?_)
    refine lv_aload_n hx hb dX11_night_49 rfl (lv_at hl 1 rfl) ?_
    refine lv_iconst hx hb dX11_night_50 zc_i0 ?_
    refine lv_iload_n hx hb dX11_night_51 rfl (lv_at hl 2 rfl) ?_
    refine lv_iconst hx hb dX11_night_52 zc_i2 ?_
    refine lv_bipush hx hb dX11_night_53 zc_bm4 ?_
    refine zcallv (zrunV (As := [.int 0, .int x_2, .int 2, .int ((-4))]) (rest := []) X hml hl hW h0.1 rfl zk_Model_201 (c_Model_put h0 h) rfl ⟨Nat.le_of_ble_eq_true rfl, Nat.le_of_ble_eq_true rfl⟩ ⟨Nat.le_refl 0, Nat.le_refl 0⟩ rfl (Nat.le_of_ble_eq_true rfl) dX11_night_55) hW (fun zm15 H locs h hW => ?_)
    refine lv_aload_n hx hb dX11_night_58 rfl (lv_at hl 1 rfl) ?_
    refine lv_iconst hx hb dX11_night_59 zc_i0 ?_
    refine lv_iload_n hx hb dX11_night_60 rfl (lv_at hl 2 rfl) ?_
    refine lv_iconst hx hb dX11_night_61 zc_i3 ?_
    refine lv_bipush hx hb dX11_night_62 zc_bm4 ?_
    refine zcallv (zrunV (As := [.int 0, .int x_2, .int 3, .int ((-4))]) (rest := []) X hml hl hW h0.1 rfl zk_Model_201 (c_Model_put h0 h) rfl ⟨Nat.le_of_ble_eq_true rfl, Nat.le_of_ble_eq_true rfl⟩ ⟨Nat.le_refl 0, Nat.le_refl 0⟩ rfl (Nat.le_of_ble_eq_true rfl) dX11_night_64) hW (fun zm17 H locs h hW => ?_)
    refine lv_aload_n hx hb dX11_night_67 rfl (lv_at hl 1 rfl) ?_
    refine lv_iconst hx hb dX11_night_68 zc_i0 ?_
    refine lv_iload_n hx hb dX11_night_69 rfl (lv_at hl 2 rfl) ?_
    refine lv_iconst hx hb dX11_night_70 zc_i4 ?_
    refine lv_bipush hx hb dX11_night_71 zc_bm4 ?_
    refine zcallv (zrunV (As := [.int 0, .int x_2, .int 4, .int ((-4))]) (rest := []) X hml hl hW h0.1 rfl zk_Model_201 (c_Model_put h0 h) rfl ⟨Nat.le_of_ble_eq_true rfl, Nat.le_of_ble_eq_true rfl⟩ ⟨Nat.le_refl 0, Nat.le_refl 0⟩ rfl (Nat.le_of_ble_eq_true rfl) dX11_night_73) hW (fun zm19 H locs h hW => ?_)
    obtain ⟨zx21, ezx21⟩ : ∃ y : Int32, y = x_2 + 1 := ⟨_, rfl⟩
    replace h := h zx21 ezx21
    refine lv_iinc (v := zx21) (lv' := [(2, .int zx21), (1, .int zx10), (0, .ref (zad w 0))]) hx hb dX11_night_76 hl (k := 2) rfl (by rw [ezx21, zc_i1]) (Nat.le_of_ble_eq_true rfl) rfl (fun ls hl => ?_)
    refine lv_goto (tgt := 8) hx hb dX11_night_79 rfl ?_
    exact zJ zx10 zx21 zm19 H locs ls hW (lv_sub hl [2, 1, 0] rfl) h
  have zL_8 :  ∀ (n : Nat) (x_1 : Int32) (x_2 : Int32) (M : zMem) (H : Heap) (locs : List Loc) (ls : Array Slot), zWo w s.heap M H locs → lv_has ls 3 [(0, .ref (zad w 0)), (1, .int x_1), (2, .int x_2)] → zlp2 (wpB_Model_night_8    post) n x_1 x_2 M → W p l e (zRm 8 187) s m ([.ref (zad w 0)] : List Value).toArray below meth c H locs 0 0 (MQ below (va_Qi post (zB w) (zA w)) ([.ref (zad w 0)] : List Value).toArray s 0 0 (zA w)) (F0 m 8 ls []) := by
    intro n
    induction n with
    | zero => intro x_1 x_2 M H locs ls hW hl h; exact h.elim
    | succ n zJ =>
      intro x_1 x_2 M H locs ls hW hl h
      have h : wpB_Model_night_8    post (zlp2 (wpB_Model_night_8    post) n) x_1 x_2 M := h
      unfold wpB_Model_night_8 at h
      refine lv_iload_n hx hb dX11_night_8 rfl (lv_at hl 2 rfl) ?_
      refine lv_iconst hx hb dX11_night_9 zc_i5 ?_
      refine lv_icmp_ge (tgt := 82) hx hb dX11_night_10 rfl (fun c => ?_) (fun c => ?_)
      · replace h := h.1 c
        refine lv_aload_n hx hb dX11_night_82 rfl (lv_at hl 0 rfl) ?_
        refine zg_Model_bench X hW h0 zu_1036 dX11_night_83 ?_
        refine lv_iconst hx hb dX11_night_86 zc_i4 ?_
        refine lv_iconst hx hb dX11_night_87 zc_i0 ?_
        obtain ⟨g, h⟩ := h
        refine ziast X hW h0.2.2.2.2.2.2.1 g dX11_night_88 (fun H locs zm3 ezm3 hW => ?_)
        replace h := h zm3 ezm3
        refine lv_aload_n hx hb dX11_night_89 rfl (lv_at hl 0 rfl) ?_
        refine zcallv (zrunV (As := []) (rest := []) X hml hl hW h0.1 rfl zk_Model_243 (c_Model_asNumbered h0 h) rfl ⟨Nat.le_of_ble_eq_true rfl, Nat.le_of_ble_eq_true rfl⟩ ⟨Nat.le_refl 0, Nat.le_refl 0⟩ rfl (Nat.le_of_ble_eq_true rfl) dX11_night_90) hW (fun zm4 H locs h hW => ?_)
        refine lv_aload_n hx hb dX11_night_93 rfl (lv_at hl 0 rfl) ?_
        refine lv_iconst hx hb dX11_night_94 zc_i0 ?_
        refine zcallv (zrunV (As := [.int 0]) (rest := []) X hml hl hW h0.1 rfl zk_Model_246 (c_Model_settle h0 h) rfl ⟨Nat.le_of_ble_eq_true rfl, Nat.le_of_ble_eq_true rfl⟩ ⟨Nat.le_refl 0, Nat.le_refl 0⟩ rfl (Nat.le_of_ble_eq_true rfl) dX11_night_95) hW (fun zm6 H locs h hW => ?_)
        refine lv_iload_n hx hb dX11_night_98 rfl (lv_at hl 1 rfl) ?_
        exact zreti X hr hlk hW h dX11_night_99
      · replace h := h.2 c
        refine lv_iload_n hx hb dX11_night_13 rfl (lv_at hl 1 rfl) ?_
        refine lv_aload_n hx hb dX11_night_14 rfl (lv_at hl 0 rfl) ?_
        refine lv_iconst hx hb dX11_night_15 zc_i0 ?_
        refine lv_iload_n hx hb dX11_night_16 rfl (lv_at hl 2 rfl) ?_
        refine lv_iconst hx hb dX11_night_17 zc_i2 ?_
        refine zcalli (zrunV (As := [.int 0, .int x_2, .int 2]) (rest := [.int x_1]) X hml hl hW h0.1 rfl zk_Model_195 (c_Model_at h0 h) rfl ⟨Nat.le_of_ble_eq_true rfl, Nat.le_of_ble_eq_true rfl⟩ ⟨Nat.le_refl 0, Nat.le_refl 0⟩ rfl (Nat.le_of_ble_eq_true rfl) dX11_night_18) hW (fun zr9 zm8 H locs h hW => ?_)
        refine lv_bipush hx hb dX11_night_21 zc_bm4 ?_
        refine lv_icmp_ne (tgt := 30) hx hb dX11_night_23 rfl (fun c => ?_) (fun c => ?_)
        · replace h := h.1 c
          refine lv_iconst hx hb dX11_night_30 zc_i1 ?_
          exact zJ_31 x_2 x_1 1 _ zJ zm8 H locs ls hW (lv_sub hl [0, 2] rfl) h
        · replace h := h.2 c
          refine lv_iconst hx hb dX11_night_26 zc_i0 ?_
          refine lv_goto (tgt := 31) hx hb dX11_night_27 rfl ?_
          exact zJ_31 x_2 x_1 0 _ zJ zm8 H locs ls hW (lv_sub hl [0, 2] rfl) h
  unfold wp_Model_night at h
  have zMain : ∀ (H : Heap) (locs : List Loc) (ls : Array Slot), zWo w s.heap M H locs → lv_has ls 3 [(0, .ref (zad w 0))] → W p l e (zRm 8 187) s m ([.ref (zad w 0)] : List Value).toArray below meth c H locs 0 0 (MQ below (va_Qi post (zB w) (zA w)) ([.ref (zad w 0)] : List Value).toArray s 0 0 (zA w)) (F0 m 0 ls []) := by
    intro H locs ls hW hl
    refine lv_aload_n hx hb dX11_night_0 rfl (lv_at hl 0 rfl) ?_
    refine zcallv (zrunV (As := []) (rest := []) X hml hl hW h0.1 rfl zk_Model_180 (c_Model_awake h0 h) rfl ⟨Nat.le_of_ble_eq_true rfl, Nat.le_of_ble_eq_true rfl⟩ ⟨Nat.le_refl 0, Nat.le_refl 0⟩ rfl (Nat.le_of_ble_eq_true rfl) dX11_night_1) hW (fun zm1 H locs h hW => ?_)
    refine lv_iconst hx hb dX11_night_4 zc_i0 ?_
    refine lv_istore_n (lv' := [(1, .int 0), (0, .ref (zad w 0))]) hx hb dX11_night_5 rfl hl (Nat.le_of_ble_eq_true rfl) rfl (fun ls hl => ?_)
    refine lv_iconst hx hb dX11_night_6 zc_i0 ?_
    refine lv_istore_n (lv' := [(2, .int 0), (1, .int 0), (0, .ref (zad w 0))]) hx hb dX11_night_7 rfl hl (Nat.le_of_ble_eq_true rfl) rfl (fun ls hl => ?_)
    obtain ⟨n, h⟩ := h
    refine zL_8   n 0 0 zm1 H locs ls hW (lv_sub hl [2, 1, 0] rfl) h
  exact zMain s.heap [] ls hW hl
def wp_Model_now (a1 : Int32) (M : zMem) (Q : Int32 → zMem → Prop) : Prop :=
  wp_Model_awake M (fun zm1 => wp_Model_in a1.toInt64 0 4 zm1 (fun zr4 zm3 => (zr4 = 0 → Q ((-1)) zm3) ∧ (¬ zr4 = 0 → wp_Model_of 0 a1 zm3 (fun zr6 zm5 => Q zr6 zm5))))
set_option maxHeartbeats 4000000 in
set_option maxRecDepth 20000 in
theorem c_Model_now {l : Launch} {w : zWd} {a1 : Int32} {M : zMem} {post : Int32 → zMem → Prop} (h0 : zI_Model w) (h : wp_Model_now a1 M post) : zMi l ⟨"HandToHandModel", "now", "(I)I"⟩ prog_13_method_53_code 2 (Option.some .int) 8 187 w [.ref (zad w 0), .int a1] M post := by
  refine zMet (by decide) (Nat.le_of_ble_eq_true rfl) ?_
  intro p e s m below meth c X hr hlk hml hW ls hl
  have hx := X.1
  have hb := X.2.1
  have hl : lv_has ls 2 [(0, .ref (zad w 0)), (1, .int a1)] := hl
  unfold wp_Model_now at h
  have zMain : ∀ (H : Heap) (locs : List Loc) (ls : Array Slot), zWo w s.heap M H locs → lv_has ls 2 [(0, .ref (zad w 0)), (1, .int a1)] → W p l e (zRm 8 187) s m ([.ref (zad w 0), .int a1] : List Value).toArray below meth c H locs 0 0 (MQ below (va_Qi post (zB w) (zA w)) ([.ref (zad w 0), .int a1] : List Value).toArray s 0 0 (zA w)) (F0 m 0 ls []) := by
    intro H locs ls hW hl
    refine lv_aload_n hx hb dX11_now_0 rfl (lv_at hl 0 rfl) ?_
    refine zcallv (zrunV (As := []) (rest := []) X hml hl hW h0.1 rfl zk_Model_180 (c_Model_awake h0 h) rfl ⟨Nat.le_of_ble_eq_true rfl, Nat.le_of_ble_eq_true rfl⟩ ⟨Nat.le_refl 0, Nat.le_refl 0⟩ rfl (Nat.le_of_ble_eq_true rfl) dX11_now_1) hW (fun zm1 H locs h hW => ?_)
    refine lv_iload_n hx hb dX11_now_4 rfl (lv_at hl 1 rfl) ?_
    refine lv_i2l hx hb dX11_now_5 rfl ?_
    refine lv_lconst hx hb dX11_now_6 zc_l0 ?_
    refine lv_ldc2 hx hb X.2.2.1 (X.2.2.2.1 _ zu_1249) dX11_now_7 ?_
    refine zcalli (zrunS (As := [.long a1.toInt64, .long 0, .long 4]) (rest := []) X hml hl hW zk_Model_69 (c_Model_in  h) rfl ⟨Nat.le_of_ble_eq_true rfl, Nat.le_of_ble_eq_true rfl⟩ ⟨Nat.le_refl 0, Nat.le_refl 0⟩ rfl (Nat.le_of_ble_eq_true rfl) dX11_now_10) hW (fun zr4 zm3 H locs h hW => ?_)
    refine lv_if_eq (tgt := 25) hx hb dX11_now_13 rfl (fun c => ?_) (fun c => ?_)
    · replace h := h.1 c
      refine lv_iconst hx hb dX11_now_25 zc_im1 ?_
      exact zreti X hr hlk hW h dX11_now_26
    · replace h := h.2 c
      refine lv_aload_n hx hb dX11_now_16 rfl (lv_at hl 0 rfl) ?_
      refine lv_iconst hx hb dX11_now_17 zc_i0 ?_
      refine lv_iload_n hx hb dX11_now_18 rfl (lv_at hl 1 rfl) ?_
      refine zcalli (zrunV (As := [.int 0, .int a1]) (rest := []) X hml hl hW h0.1 rfl zk_Model_218 (c_Model_of h0 h) rfl ⟨Nat.le_of_ble_eq_true rfl, Nat.le_of_ble_eq_true rfl⟩ ⟨Nat.le_refl 0, Nat.le_refl 0⟩ rfl (Nat.le_of_ble_eq_true rfl) dX11_now_19) hW (fun zr6 zm5 H locs h hW => ?_)
      refine lv_goto (tgt := 26) hx hb dX11_now_22 rfl ?_
      exact zreti X hr hlk hW h dX11_now_26
  exact zMain s.heap [] ls hW hl
def wp_Model_hand (a1 : Int32) (a2 : Int32) (M : zMem) (Q : Int32 → zMem → Prop) : Prop :=
  wp_Model_awake M (fun zm1 => wp_Model_isHand a1 zm1 (fun zr4 zm3 => (zr4 = 0 → Q ((-1)) zm3) ∧ (¬ zr4 = 0 → wp_Model_in a2.toInt64 0 5 zm3 (fun zr6 zm5 => (zr6 = 0 → Q ((-1)) zm5) ∧ (¬ zr6 = 0 → wp_Model_at 0 a1 a2 zm5 (fun zr8 zm7 => Q zr8 zm7))))))
set_option maxHeartbeats 4000000 in
set_option maxRecDepth 20000 in
theorem c_Model_hand {l : Launch} {w : zWd} {a1 : Int32} {a2 : Int32} {M : zMem} {post : Int32 → zMem → Prop} (h0 : zI_Model w) (h : wp_Model_hand a1 a2 M post) : zMi l ⟨"HandToHandModel", "hand", "(II)I"⟩ prog_13_method_54_code 3 (Option.some .int) 8 187 w [.ref (zad w 0), .int a1, .int a2] M post := by
  refine zMet (by decide) (Nat.le_of_ble_eq_true rfl) ?_
  intro p e s m below meth c X hr hlk hml hW ls hl
  have hx := X.1
  have hb := X.2.1
  have hl : lv_has ls 3 [(0, .ref (zad w 0)), (1, .int a1), (2, .int a2)] := hl
  unfold wp_Model_hand at h
  have zMain : ∀ (H : Heap) (locs : List Loc) (ls : Array Slot), zWo w s.heap M H locs → lv_has ls 3 [(0, .ref (zad w 0)), (1, .int a1), (2, .int a2)] → W p l e (zRm 8 187) s m ([.ref (zad w 0), .int a1, .int a2] : List Value).toArray below meth c H locs 0 0 (MQ below (va_Qi post (zB w) (zA w)) ([.ref (zad w 0), .int a1, .int a2] : List Value).toArray s 0 0 (zA w)) (F0 m 0 ls []) := by
    intro H locs ls hW hl
    refine lv_aload_n hx hb dX11_hand_0 rfl (lv_at hl 0 rfl) ?_
    refine zcallv (zrunV (As := []) (rest := []) X hml hl hW h0.1 rfl zk_Model_180 (c_Model_awake h0 h) rfl ⟨Nat.le_of_ble_eq_true rfl, Nat.le_of_ble_eq_true rfl⟩ ⟨Nat.le_refl 0, Nat.le_refl 0⟩ rfl (Nat.le_of_ble_eq_true rfl) dX11_hand_1) hW (fun zm1 H locs h hW => ?_)
    refine lv_aload_n hx hb dX11_hand_4 rfl (lv_at hl 0 rfl) ?_
    refine lv_iload_n hx hb dX11_hand_5 rfl (lv_at hl 1 rfl) ?_
    refine zcalli (zrunV (As := [.int a1]) (rest := []) X hml hl hW h0.1 rfl zk_Model_166 (c_Model_isHand h0 h) rfl ⟨Nat.le_of_ble_eq_true rfl, Nat.le_of_ble_eq_true rfl⟩ ⟨Nat.le_refl 0, Nat.le_refl 0⟩ rfl (Nat.le_of_ble_eq_true rfl) dX11_hand_6) hW (fun zr4 zm3 H locs h hW => ?_)
    refine lv_if_eq (tgt := 34) hx hb dX11_hand_9 rfl (fun c => ?_) (fun c => ?_)
    · replace h := h.1 c
      refine lv_iconst hx hb dX11_hand_34 zc_im1 ?_
      exact zreti X hr hlk hW h dX11_hand_35
    · replace h := h.2 c
      refine lv_iload_n hx hb dX11_hand_12 rfl (lv_at hl 2 rfl) ?_
      refine lv_i2l hx hb dX11_hand_13 rfl ?_
      refine lv_lconst hx hb dX11_hand_14 zc_l0 ?_
      refine lv_ldc2 hx hb X.2.2.1 (X.2.2.2.1 _ zu_1358) dX11_hand_15 ?_
      refine zcalli (zrunS (As := [.long a2.toInt64, .long 0, .long 5]) (rest := []) X hml hl hW zk_Model_69 (c_Model_in  h) rfl ⟨Nat.le_of_ble_eq_true rfl, Nat.le_of_ble_eq_true rfl⟩ ⟨Nat.le_refl 0, Nat.le_refl 0⟩ rfl (Nat.le_of_ble_eq_true rfl) dX11_hand_18) hW (fun zr6 zm5 H locs h hW => ?_)
      refine lv_if_eq (tgt := 34) hx hb dX11_hand_21 rfl (fun c => ?_) (fun c => ?_)
      · replace h := h.1 c
        refine lv_iconst hx hb dX11_hand_34 zc_im1 ?_
        exact zreti X hr hlk hW h dX11_hand_35
      · replace h := h.2 c
        refine lv_aload_n hx hb dX11_hand_24 rfl (lv_at hl 0 rfl) ?_
        refine lv_iconst hx hb dX11_hand_25 zc_i0 ?_
        refine lv_iload_n hx hb dX11_hand_26 rfl (lv_at hl 1 rfl) ?_
        refine lv_iload_n hx hb dX11_hand_27 rfl (lv_at hl 2 rfl) ?_
        refine zcalli (zrunV (As := [.int 0, .int a1, .int a2]) (rest := []) X hml hl hW h0.1 rfl zk_Model_195 (c_Model_at h0 h) rfl ⟨Nat.le_of_ble_eq_true rfl, Nat.le_of_ble_eq_true rfl⟩ ⟨Nat.le_refl 0, Nat.le_refl 0⟩ rfl (Nat.le_of_ble_eq_true rfl) dX11_hand_28) hW (fun zr8 zm7 H locs h hW => ?_)
        refine lv_goto (tgt := 35) hx hb dX11_hand_31 rfl ?_
        exact zreti X hr hlk hW h dX11_hand_35
  exact zMain s.heap [] ls hW hl
def wp_Model_learnt (a1 : Int32) (a2 : Int32) (M : zMem) (Q : Int32 → zMem → Prop) : Prop :=
  wp_Model_isHand a1 M (fun zr2 zm1 => (zr2 = 0 → Q ((-1)) zm1) ∧ (¬ zr2 = 0 → wp_Model_isPiece a2 zm1 (fun zr4 zm3 => (zr4 = 0 → Q ((-1)) zm3) ∧ (¬ zr4 = 0 → wp_Model_learntAt 0 a1 a2 zm3 (fun zr6 zm5 => vp_in zr6 384 ∧ Q (zm5 6 (ix zr6)) zm5)))))
set_option maxHeartbeats 4000000 in
set_option maxRecDepth 20000 in
theorem c_Model_learnt {l : Launch} {w : zWd} {a1 : Int32} {a2 : Int32} {M : zMem} {post : Int32 → zMem → Prop} (h0 : zI_Model w) (h : wp_Model_learnt a1 a2 M post) : zMi l ⟨"HandToHandModel", "learnt", "(II)I"⟩ prog_13_method_55_code 3 (Option.some .int) 2 46 w [.ref (zad w 0), .int a1, .int a2] M post := by
  refine zMet (by decide) (Nat.le_of_ble_eq_true rfl) ?_
  intro p e s m below meth c X hr hlk hml hW ls hl
  have hx := X.1
  have hb := X.2.1
  have hl : lv_has ls 3 [(0, .ref (zad w 0)), (1, .int a1), (2, .int a2)] := hl
  unfold wp_Model_learnt at h
  have zMain : ∀ (H : Heap) (locs : List Loc) (ls : Array Slot), zWo w s.heap M H locs → lv_has ls 3 [(0, .ref (zad w 0)), (1, .int a1), (2, .int a2)] → W p l e (zRm 2 46) s m ([.ref (zad w 0), .int a1, .int a2] : List Value).toArray below meth c H locs 0 0 (MQ below (va_Qi post (zB w) (zA w)) ([.ref (zad w 0), .int a1, .int a2] : List Value).toArray s 0 0 (zA w)) (F0 m 0 ls []) := by
    intro H locs ls hW hl
    refine lv_aload_n hx hb dX11_learnt_0 rfl (lv_at hl 0 rfl) ?_
    refine lv_iload_n hx hb dX11_learnt_1 rfl (lv_at hl 1 rfl) ?_
    refine zcalli (zrunV (As := [.int a1]) (rest := []) X hml hl hW h0.1 rfl zk_Model_166 (c_Model_isHand h0 h) rfl ⟨Nat.le_of_ble_eq_true rfl, Nat.le_of_ble_eq_true rfl⟩ ⟨Nat.le_refl 0, Nat.le_refl 0⟩ rfl (Nat.le_of_ble_eq_true rfl) dX11_learnt_2) hW (fun zr2 zm1 H locs h hW => ?_)
    refine lv_if_eq (tgt := 31) hx hb dX11_learnt_5 rfl (fun c => ?_) (fun c => ?_)
    · replace h := h.1 c
      refine lv_iconst hx hb dX11_learnt_31 zc_im1 ?_
      exact zreti X hr hlk hW h dX11_learnt_32
    · replace h := h.2 c
      refine lv_aload_n hx hb dX11_learnt_8 rfl (lv_at hl 0 rfl) ?_
      refine lv_iload_n hx hb dX11_learnt_9 rfl (lv_at hl 2 rfl) ?_
      refine zcalli (zrunV (As := [.int a2]) (rest := []) X hml hl hW h0.1 rfl zk_Model_175 (c_Model_isPiece h0 h) rfl ⟨Nat.le_of_ble_eq_true rfl, Nat.le_of_ble_eq_true rfl⟩ ⟨Nat.le_refl 0, Nat.le_refl 0⟩ rfl (Nat.le_of_ble_eq_true rfl) dX11_learnt_10) hW (fun zr4 zm3 H locs h hW => ?_)
      refine lv_if_eq (tgt := 31) hx hb dX11_learnt_13 rfl (fun c => ?_) (fun c => ?_)
      · replace h := h.1 c
        refine lv_iconst hx hb dX11_learnt_31 zc_im1 ?_
        exact zreti X hr hlk hW h dX11_learnt_32
      · replace h := h.2 c
        refine lv_aload_n hx hb dX11_learnt_16 rfl (lv_at hl 0 rfl) ?_
        refine zg_Model_bench X hW h0 zu_1036 dX11_learnt_17 ?_
        refine lv_aload_n hx hb dX11_learnt_20 rfl (lv_at hl 0 rfl) ?_
        refine lv_iconst hx hb dX11_learnt_21 zc_i0 ?_
        refine lv_iload_n hx hb dX11_learnt_22 rfl (lv_at hl 1 rfl) ?_
        refine lv_iload_n hx hb dX11_learnt_23 rfl (lv_at hl 2 rfl) ?_
        refine zcalli (zrunV (As := [.int 0, .int a1, .int a2]) (rest := [.ref (zad w 6)]) X hml hl hW h0.1 rfl zk_Model_185 (c_Model_learntAt h0 h) rfl ⟨Nat.le_of_ble_eq_true rfl, Nat.le_of_ble_eq_true rfl⟩ ⟨Nat.le_refl 0, Nat.le_refl 0⟩ rfl (Nat.le_of_ble_eq_true rfl) dX11_learnt_24) hW (fun zr6 zm5 H locs h hW => ?_)
        obtain ⟨g, h⟩ := h
        refine ziald X hW h0.2.2.2.2.2.2.1 g dX11_learnt_27 ?_
        refine lv_goto (tgt := 32) hx hb dX11_learnt_28 rfl ?_
        exact zreti X hr hlk hW h dX11_learnt_32
  exact zMain s.heap [] ls hW hl
def wp_Model_takes (a1 : Int32) (a2 : Int32) (M : zMem) (Q : Int32 → zMem → Prop) : Prop :=
  wp_Model_isHand a1 M (fun zr2 zm1 => (zr2 = 0 → Q ((-1)) zm1) ∧ (¬ zr2 = 0 → wp_Model_isPiece a2 zm1 (fun zr4 zm3 => (zr4 = 0 → Q ((-1)) zm3) ∧ (¬ zr4 = 0 → wp_Model_ticksOf 0 a1 a2 zm3 (fun zr6 zm5 => Q zr6 zm5)))))
set_option maxHeartbeats 4000000 in
set_option maxRecDepth 20000 in
theorem c_Model_takes {l : Launch} {w : zWd} {a1 : Int32} {a2 : Int32} {M : zMem} {post : Int32 → zMem → Prop} (h0 : zI_Model w) (h : wp_Model_takes a1 a2 M post) : zMi l ⟨"HandToHandModel", "takes", "(II)I"⟩ prog_13_method_56_code 3 (Option.some .int) 2 47 w [.ref (zad w 0), .int a1, .int a2] M post := by
  refine zMet (by decide) (Nat.le_of_ble_eq_true rfl) ?_
  intro p e s m below meth c X hr hlk hml hW ls hl
  have hx := X.1
  have hb := X.2.1
  have hl : lv_has ls 3 [(0, .ref (zad w 0)), (1, .int a1), (2, .int a2)] := hl
  unfold wp_Model_takes at h
  have zMain : ∀ (H : Heap) (locs : List Loc) (ls : Array Slot), zWo w s.heap M H locs → lv_has ls 3 [(0, .ref (zad w 0)), (1, .int a1), (2, .int a2)] → W p l e (zRm 2 47) s m ([.ref (zad w 0), .int a1, .int a2] : List Value).toArray below meth c H locs 0 0 (MQ below (va_Qi post (zB w) (zA w)) ([.ref (zad w 0), .int a1, .int a2] : List Value).toArray s 0 0 (zA w)) (F0 m 0 ls []) := by
    intro H locs ls hW hl
    refine lv_aload_n hx hb dX11_takes_0 rfl (lv_at hl 0 rfl) ?_
    refine lv_iload_n hx hb dX11_takes_1 rfl (lv_at hl 1 rfl) ?_
    refine zcalli (zrunV (As := [.int a1]) (rest := []) X hml hl hW h0.1 rfl zk_Model_166 (c_Model_isHand h0 h) rfl ⟨Nat.le_of_ble_eq_true rfl, Nat.le_of_ble_eq_true rfl⟩ ⟨Nat.le_refl 0, Nat.le_refl 0⟩ rfl (Nat.le_of_ble_eq_true rfl) dX11_takes_2) hW (fun zr2 zm1 H locs h hW => ?_)
    refine lv_if_eq (tgt := 26) hx hb dX11_takes_5 rfl (fun c => ?_) (fun c => ?_)
    · replace h := h.1 c
      refine lv_iconst hx hb dX11_takes_26 zc_im1 ?_
      exact zreti X hr hlk hW h dX11_takes_27
    · replace h := h.2 c
      refine lv_aload_n hx hb dX11_takes_8 rfl (lv_at hl 0 rfl) ?_
      refine lv_iload_n hx hb dX11_takes_9 rfl (lv_at hl 2 rfl) ?_
      refine zcalli (zrunV (As := [.int a2]) (rest := []) X hml hl hW h0.1 rfl zk_Model_175 (c_Model_isPiece h0 h) rfl ⟨Nat.le_of_ble_eq_true rfl, Nat.le_of_ble_eq_true rfl⟩ ⟨Nat.le_refl 0, Nat.le_refl 0⟩ rfl (Nat.le_of_ble_eq_true rfl) dX11_takes_10) hW (fun zr4 zm3 H locs h hW => ?_)
      refine lv_if_eq (tgt := 26) hx hb dX11_takes_13 rfl (fun c => ?_) (fun c => ?_)
      · replace h := h.1 c
        refine lv_iconst hx hb dX11_takes_26 zc_im1 ?_
        exact zreti X hr hlk hW h dX11_takes_27
      · replace h := h.2 c
        refine lv_aload_n hx hb dX11_takes_16 rfl (lv_at hl 0 rfl) ?_
        refine lv_iconst hx hb dX11_takes_17 zc_i0 ?_
        refine lv_iload_n hx hb dX11_takes_18 rfl (lv_at hl 1 rfl) ?_
        refine lv_iload_n hx hb dX11_takes_19 rfl (lv_at hl 2 rfl) ?_
        refine zcalli (zrunV (As := [.int 0, .int a1, .int a2]) (rest := []) X hml hl hW h0.1 rfl zk_Model_231 (c_Model_ticksOf h0 h) rfl ⟨Nat.le_of_ble_eq_true rfl, Nat.le_of_ble_eq_true rfl⟩ ⟨Nat.le_refl 0, Nat.le_refl 0⟩ rfl (Nat.le_of_ble_eq_true rfl) dX11_takes_20) hW (fun zr6 zm5 H locs h hW => ?_)
        refine lv_goto (tgt := 27) hx hb dX11_takes_23 rfl ?_
        exact zreti X hr hlk hW h dX11_takes_27
  exact zMain s.heap [] ls hW hl
def wpB_Model_keep_18 (a1 : Int32)  (K49 : zMem → Prop) (Q : Int32 → zMem → Prop) (J : Int32 → zMem → Prop) (x_2 : Int32) (M : zMem) : Prop :=
  (96 ≤ x_2 → K49 M) ∧ (¬ 96 ≤ x_2 → vp_in x_2 384 ∧ vp_in ((96 * (2 + a1)) + x_2) 384 ∧ ∀ zm5 : zMem, zm5 = zup M 6 (ix ((96 * (2 + a1)) + x_2)) (M 6 (ix x_2)) → ∀ zx6 : Int32, zx6 = x_2 + 1 → J zx6 zm5)
def wp_Model_keep (a1 : Int32) (M : zMem) (Q : Int32 → zMem → Prop) : Prop :=
  wp_Model_in a1.toInt64 0 1 M (fun zr2 zm1 => (¬ zr2 = 0 → wp_Model_awake zm1 (fun zm3 => ∃ n : Nat, zlp1 (wpB_Model_keep_18 a1  (fun (zm7 : zMem) => vp_in a1 2 ∧ ((zm7 7 (ix a1)) = 0 → vp_in a1 2 ∧ ∀ zm8 : zMem, zm8 = zup zm7 7 (ix a1) (vp_nar .boolean 1) → Q 0 zm8) ∧ (¬ (zm7 7 (ix a1)) = 0 → vp_in a1 2 ∧ ∀ zm9 : zMem, zm9 = zup zm7 7 (ix a1) (vp_nar .boolean 1) → Q 1 zm9)) Q) n 0 zm3)) ∧ (zr2 = 0 → Q ((-1)) zm1))
set_option maxHeartbeats 4000000 in
set_option maxRecDepth 20000 in
theorem c_Model_keep {l : Launch} {w : zWd} {a1 : Int32} {M : zMem} {post : Int32 → zMem → Prop} (h0 : zI_Model w) (h : wp_Model_keep a1 M post) : zMi l ⟨"HandToHandModel", "keep", "(I)I"⟩ prog_13_method_57_code 3 (Option.some .int) 8 187 w [.ref (zad w 0), .int a1] M post := by
  refine zMet (by decide) (Nat.le_of_ble_eq_true rfl) ?_
  intro p e s m below meth c X hr hlk hml hW ls hl
  have hx := X.1
  have hb := X.2.1
  have hl : lv_has ls 3 [(0, .ref (zad w 0)), (1, .int a1)] := hl
  have zL_18 : ∀ (K49 : zMem → Prop) (zK49 : ∀ (M : zMem) (H : Heap) (locs : List Loc) (ls : Array Slot), zWo w s.heap M H locs → lv_has ls 3 [(0, .ref (zad w 0)), (1, .int a1)] → K49 M → W p l e (zRm 8 187) s m ([.ref (zad w 0), .int a1] : List Value).toArray below meth c H locs 0 0 (MQ below (va_Qi post (zB w) (zA w)) ([.ref (zad w 0), .int a1] : List Value).toArray s 0 0 (zA w)) (F0 m 49 ls [])), ∀ (n : Nat) (x_2 : Int32) (M : zMem) (H : Heap) (locs : List Loc) (ls : Array Slot), zWo w s.heap M H locs → lv_has ls 3 [(0, .ref (zad w 0)), (1, .int a1), (2, .int x_2)] → zlp1 (wpB_Model_keep_18 a1  K49 post) n x_2 M → W p l e (zRm 8 187) s m ([.ref (zad w 0), .int a1] : List Value).toArray below meth c H locs 0 0 (MQ below (va_Qi post (zB w) (zA w)) ([.ref (zad w 0), .int a1] : List Value).toArray s 0 0 (zA w)) (F0 m 18 ls []) := by
    intro K49 zK49 n
    induction n with
    | zero => intro x_2 M H locs ls hW hl h; exact h.elim
    | succ n zJ =>
      intro x_2 M H locs ls hW hl h
      have h : wpB_Model_keep_18 a1  K49 post (zlp1 (wpB_Model_keep_18 a1  K49 post) n) x_2 M := h
      unfold wpB_Model_keep_18 at h
      refine lv_iload_n hx hb dX11_keep_18 rfl (lv_at hl 2 rfl) ?_
      refine lv_bipush hx hb dX11_keep_19 zc_b96 ?_
      refine lv_icmp_ge (tgt := 49) hx hb dX11_keep_21 rfl (fun c => ?_) (fun c => ?_)
      · replace h := h.1 c
        exact zK49 M H locs ls hW (lv_sub hl [0, 1] rfl) h
      · replace h := h.2 c
        refine lv_aload_n hx hb dX11_keep_24 rfl (lv_at hl 0 rfl) ?_
        refine zg_Model_bench X hW h0 zu_1036 dX11_keep_25 ?_
        refine lv_bipush hx hb dX11_keep_28 zc_b96 ?_
        refine lv_iconst hx hb dX11_keep_30 zc_i2 ?_
        refine lv_iload_n hx hb dX11_keep_31 rfl (lv_at hl 1 rfl) ?_
        refine lv_iadd hx hb dX11_keep_32 ?_
        refine lv_imul hx hb dX11_keep_33 ?_
        refine lv_iload_n hx hb dX11_keep_34 rfl (lv_at hl 2 rfl) ?_
        refine lv_iadd hx hb dX11_keep_35 ?_
        refine lv_aload_n hx hb dX11_keep_36 rfl (lv_at hl 0 rfl) ?_
        refine zg_Model_bench X hW h0 zu_1036 dX11_keep_37 ?_
        refine lv_iload_n hx hb dX11_keep_40 rfl (lv_at hl 2 rfl) ?_
        obtain ⟨g, h⟩ := h
        refine ziald X hW h0.2.2.2.2.2.2.1 g dX11_keep_41 ?_
        obtain ⟨g, h⟩ := h
        refine ziast X hW h0.2.2.2.2.2.2.1 g dX11_keep_42 (fun H locs zm5 ezm5 hW => ?_)
        replace h := h zm5 ezm5
        obtain ⟨zx6, ezx6⟩ : ∃ y : Int32, y = x_2 + 1 := ⟨_, rfl⟩
        replace h := h zx6 ezx6
        refine lv_iinc (v := zx6) (lv' := [(2, .int zx6), (0, .ref (zad w 0)), (1, .int a1)]) hx hb dX11_keep_43 hl (k := 2) rfl (by rw [ezx6, zc_i1]) (Nat.le_of_ble_eq_true rfl) rfl (fun ls hl => ?_)
        refine lv_goto (tgt := 18) hx hb dX11_keep_46 rfl ?_
        exact zJ zx6 zm5 H locs ls hW (lv_sub hl [1, 2, 0] rfl) h
  unfold wp_Model_keep at h
  have zMain : ∀ (H : Heap) (locs : List Loc) (ls : Array Slot), zWo w s.heap M H locs → lv_has ls 3 [(0, .ref (zad w 0)), (1, .int a1)] → W p l e (zRm 8 187) s m ([.ref (zad w 0), .int a1] : List Value).toArray below meth c H locs 0 0 (MQ below (va_Qi post (zB w) (zA w)) ([.ref (zad w 0), .int a1] : List Value).toArray s 0 0 (zA w)) (F0 m 0 ls []) := by
    intro H locs ls hW hl
    refine lv_iload_n hx hb dX11_keep_0 rfl (lv_at hl 1 rfl) ?_
    refine lv_i2l hx hb dX11_keep_1 rfl ?_
    refine lv_lconst hx hb dX11_keep_2 zc_l0 ?_
    refine lv_lconst hx hb dX11_keep_3 zc_l1 ?_
    refine zcalli (zrunS (As := [.long a1.toInt64, .long 0, .long 1]) (rest := []) X hml hl hW zk_Model_69 (c_Model_in  h) rfl ⟨Nat.le_of_ble_eq_true rfl, Nat.le_of_ble_eq_true rfl⟩ ⟨Nat.le_refl 0, Nat.le_refl 0⟩ rfl (Nat.le_of_ble_eq_true rfl) dX11_keep_4) hW (fun zr2 zm1 H locs h hW => ?_)
    refine lv_if_ne (tgt := 12) hx hb dX11_keep_7 rfl (fun c => ?_) (fun c => ?_)
    · replace h := h.1 c
      refine lv_aload_n hx hb dX11_keep_12 rfl (lv_at hl 0 rfl) ?_
      refine zcallv (zrunV (As := []) (rest := []) X hml hl hW h0.1 rfl zk_Model_180 (c_Model_awake h0 h) rfl ⟨Nat.le_of_ble_eq_true rfl, Nat.le_of_ble_eq_true rfl⟩ ⟨Nat.le_refl 0, Nat.le_refl 0⟩ rfl (Nat.le_of_ble_eq_true rfl) dX11_keep_13) hW (fun zm3 H locs h hW => ?_)
      refine lv_iconst hx hb dX11_keep_16 zc_i0 ?_
      refine lv_istore_n (lv' := [(2, .int 0), (0, .ref (zad w 0)), (1, .int a1)]) hx hb dX11_keep_17 rfl hl (Nat.le_of_ble_eq_true rfl) rfl (fun ls hl => ?_)
      obtain ⟨n, h⟩ := h
      refine zL_18  _ (fun  zm7 H locs ls hW hl h => ?_) n 0 zm3 H locs ls hW (lv_sub hl [1, 2, 0] rfl) h
      · skip
        refine lv_aload_n hx hb dX11_keep_49 rfl (lv_at hl 0 rfl) ?_
        refine zg_Model_isKept X hW h0 zu_1037 dX11_keep_50 ?_
        refine lv_iload_n hx hb dX11_keep_53 rfl (lv_at hl 1 rfl) ?_
        obtain ⟨g, h⟩ := h
        refine zzald X hW h0.2.2.2.2.2.2.2.2.2.2.2.2.2.2.2.2.2.2 g dX11_keep_54 ?_
        refine lv_if_eq (tgt := 62) hx hb dX11_keep_55 rfl (fun c => ?_) (fun c => ?_)
        · replace h := h.1 c
          refine lv_iconst hx hb dX11_keep_62 zc_i0 ?_
          refine lv_istore_n (lv' := [(2, .int 0), (0, .ref (zad w 0)), (1, .int a1)]) hx hb dX11_keep_63 rfl hl (Nat.le_of_ble_eq_true rfl) rfl (fun ls hl => ?_)
          refine lv_aload_n hx hb dX11_keep_64 rfl (lv_at hl 1 rfl) ?_
          refine zg_Model_isKept X hW h0 zu_1037 dX11_keep_65 ?_
          refine lv_iload_n hx hb dX11_keep_68 rfl (lv_at hl 2 rfl) ?_
          refine lv_iconst hx hb dX11_keep_69 zc_i1 ?_
          obtain ⟨g, h⟩ := h
          refine zzast X hW h0.2.2.2.2.2.2.2.2.2.2.2.2.2.2.2.2.2.2 g dX11_keep_70 (fun H locs zm8 ezm8 hW => ?_)
          replace h := h zm8 ezm8
          refine lv_iload_n hx hb dX11_keep_71 rfl (lv_at hl 0 rfl) ?_
          exact zreti X hr hlk hW h dX11_keep_72
        · replace h := h.2 c
          refine lv_iconst hx hb dX11_keep_58 zc_i1 ?_
          refine lv_goto (tgt := 63) hx hb dX11_keep_59 rfl ?_
          refine lv_istore_n (lv' := [(2, .int 1), (0, .ref (zad w 0)), (1, .int a1)]) hx hb dX11_keep_63 rfl hl (Nat.le_of_ble_eq_true rfl) rfl (fun ls hl => ?_)
          refine lv_aload_n hx hb dX11_keep_64 rfl (lv_at hl 1 rfl) ?_
          refine zg_Model_isKept X hW h0 zu_1037 dX11_keep_65 ?_
          refine lv_iload_n hx hb dX11_keep_68 rfl (lv_at hl 2 rfl) ?_
          refine lv_iconst hx hb dX11_keep_69 zc_i1 ?_
          obtain ⟨g, h⟩ := h
          refine zzast X hW h0.2.2.2.2.2.2.2.2.2.2.2.2.2.2.2.2.2.2 g dX11_keep_70 (fun H locs zm9 ezm9 hW => ?_)
          replace h := h zm9 ezm9
          refine lv_iload_n hx hb dX11_keep_71 rfl (lv_at hl 0 rfl) ?_
          exact zreti X hr hlk hW h dX11_keep_72
    · replace h := h.2 c
      refine lv_iconst hx hb dX11_keep_10 zc_im1 ?_
      exact zreti X hr hlk hW h dX11_keep_11
  exact zMain s.heap [] ls hW hl
def wpB_Model_back_26 (a1 : Int32)   (Q : Int32 → zMem → Prop) (J : Int32 → zMem → Prop) (x_2 : Int32) (M : zMem) : Prop :=
  (96 ≤ x_2 → wp_Model_of 0 0 M (fun zr4 zm3 => Q zr4 zm3)) ∧ (¬ 96 ≤ x_2 → vp_in ((96 * (2 + a1)) + x_2) 384 ∧ vp_in x_2 384 ∧ ∀ zm5 : zMem, zm5 = zup M 6 (ix x_2) (M 6 (ix ((96 * (2 + a1)) + x_2))) → ∀ zx6 : Int32, zx6 = x_2 + 1 → J zx6 zm5)
def wp_Model_back (a1 : Int32) (M : zMem) (Q : Int32 → zMem → Prop) : Prop :=
  wp_Model_in a1.toInt64 0 1 M (fun zr2 zm1 => (¬ zr2 = 0 → vp_in a1 2 ∧ (¬ (zm1 7 (ix a1)) = 0 → ∃ n : Nat, zlp1 (wpB_Model_back_26 a1   Q) n 0 zm1) ∧ ((zm1 7 (ix a1)) = 0 → Q ((-2)) zm1)) ∧ (zr2 = 0 → Q ((-1)) zm1))
set_option maxHeartbeats 4000000 in
set_option maxRecDepth 20000 in
theorem c_Model_back {l : Launch} {w : zWd} {a1 : Int32} {M : zMem} {post : Int32 → zMem → Prop} (h0 : zI_Model w) (h : wp_Model_back a1 M post) : zMi l ⟨"HandToHandModel", "back", "(I)I"⟩ prog_13_method_58_code 3 (Option.some .int) 1 25 w [.ref (zad w 0), .int a1] M post := by
  refine zMet (by decide) (Nat.le_of_ble_eq_true rfl) ?_
  intro p e s m below meth c X hr hlk hml hW ls hl
  have hx := X.1
  have hb := X.2.1
  have hl : lv_has ls 3 [(0, .ref (zad w 0)), (1, .int a1)] := hl
  have zL_26 :  ∀ (n : Nat) (x_2 : Int32) (M : zMem) (H : Heap) (locs : List Loc) (ls : Array Slot), zWo w s.heap M H locs → lv_has ls 3 [(0, .ref (zad w 0)), (1, .int a1), (2, .int x_2)] → zlp1 (wpB_Model_back_26 a1   post) n x_2 M → W p l e (zRm 1 25) s m ([.ref (zad w 0), .int a1] : List Value).toArray below meth c H locs 0 0 (MQ below (va_Qi post (zB w) (zA w)) ([.ref (zad w 0), .int a1] : List Value).toArray s 0 0 (zA w)) (F0 m 26 ls []) := by
    intro n
    induction n with
    | zero => intro x_2 M H locs ls hW hl h; exact h.elim
    | succ n zJ =>
      intro x_2 M H locs ls hW hl h
      have h : wpB_Model_back_26 a1   post (zlp1 (wpB_Model_back_26 a1   post) n) x_2 M := h
      unfold wpB_Model_back_26 at h
      refine lv_iload_n hx hb dX11_back_26 rfl (lv_at hl 2 rfl) ?_
      refine lv_bipush hx hb dX11_back_27 zc_b96 ?_
      refine lv_icmp_ge (tgt := 57) hx hb dX11_back_29 rfl (fun c => ?_) (fun c => ?_)
      · replace h := h.1 c
        refine lv_aload_n hx hb dX11_back_57 rfl (lv_at hl 0 rfl) ?_
        refine lv_iconst hx hb dX11_back_58 zc_i0 ?_
        refine lv_iconst hx hb dX11_back_59 zc_i0 ?_
        refine zcalli (zrunV (As := [.int 0, .int 0]) (rest := []) X hml hl hW h0.1 rfl zk_Model_218 (c_Model_of h0 h) rfl ⟨Nat.le_of_ble_eq_true rfl, Nat.le_of_ble_eq_true rfl⟩ ⟨Nat.le_refl 0, Nat.le_refl 0⟩ rfl (Nat.le_of_ble_eq_true rfl) dX11_back_60) hW (fun zr4 zm3 H locs h hW => ?_)
        exact zreti X hr hlk hW h dX11_back_63
      · replace h := h.2 c
        refine lv_aload_n hx hb dX11_back_32 rfl (lv_at hl 0 rfl) ?_
        refine zg_Model_bench X hW h0 zu_1036 dX11_back_33 ?_
        refine lv_iload_n hx hb dX11_back_36 rfl (lv_at hl 2 rfl) ?_
        refine lv_aload_n hx hb dX11_back_37 rfl (lv_at hl 0 rfl) ?_
        refine zg_Model_bench X hW h0 zu_1036 dX11_back_38 ?_
        refine lv_bipush hx hb dX11_back_41 zc_b96 ?_
        refine lv_iconst hx hb dX11_back_43 zc_i2 ?_
        refine lv_iload_n hx hb dX11_back_44 rfl (lv_at hl 1 rfl) ?_
        refine lv_iadd hx hb dX11_back_45 ?_
        refine lv_imul hx hb dX11_back_46 ?_
        refine lv_iload_n hx hb dX11_back_47 rfl (lv_at hl 2 rfl) ?_
        refine lv_iadd hx hb dX11_back_48 ?_
        obtain ⟨g, h⟩ := h
        refine ziald X hW h0.2.2.2.2.2.2.1 g dX11_back_49 ?_
        obtain ⟨g, h⟩ := h
        refine ziast X hW h0.2.2.2.2.2.2.1 g dX11_back_50 (fun H locs zm5 ezm5 hW => ?_)
        replace h := h zm5 ezm5
        obtain ⟨zx6, ezx6⟩ : ∃ y : Int32, y = x_2 + 1 := ⟨_, rfl⟩
        replace h := h zx6 ezx6
        refine lv_iinc (v := zx6) (lv' := [(2, .int zx6), (0, .ref (zad w 0)), (1, .int a1)]) hx hb dX11_back_51 hl (k := 2) rfl (by rw [ezx6, zc_i1]) (Nat.le_of_ble_eq_true rfl) rfl (fun ls hl => ?_)
        refine lv_goto (tgt := 26) hx hb dX11_back_54 rfl ?_
        exact zJ zx6 zm5 H locs ls hW (lv_sub hl [1, 2, 0] rfl) h
  unfold wp_Model_back at h
  have zMain : ∀ (H : Heap) (locs : List Loc) (ls : Array Slot), zWo w s.heap M H locs → lv_has ls 3 [(0, .ref (zad w 0)), (1, .int a1)] → W p l e (zRm 1 25) s m ([.ref (zad w 0), .int a1] : List Value).toArray below meth c H locs 0 0 (MQ below (va_Qi post (zB w) (zA w)) ([.ref (zad w 0), .int a1] : List Value).toArray s 0 0 (zA w)) (F0 m 0 ls []) := by
    intro H locs ls hW hl
    refine lv_iload_n hx hb dX11_back_0 rfl (lv_at hl 1 rfl) ?_
    refine lv_i2l hx hb dX11_back_1 rfl ?_
    refine lv_lconst hx hb dX11_back_2 zc_l0 ?_
    refine lv_lconst hx hb dX11_back_3 zc_l1 ?_
    refine zcalli (zrunS (As := [.long a1.toInt64, .long 0, .long 1]) (rest := []) X hml hl hW zk_Model_69 (c_Model_in  h) rfl ⟨Nat.le_of_ble_eq_true rfl, Nat.le_of_ble_eq_true rfl⟩ ⟨Nat.le_refl 0, Nat.le_refl 0⟩ rfl (Nat.le_of_ble_eq_true rfl) dX11_back_4) hW (fun zr2 zm1 H locs h hW => ?_)
    refine lv_if_ne (tgt := 12) hx hb dX11_back_7 rfl (fun c => ?_) (fun c => ?_)
    · replace h := h.1 c
      refine lv_aload_n hx hb dX11_back_12 rfl (lv_at hl 0 rfl) ?_
      refine zg_Model_isKept X hW h0 zu_1037 dX11_back_13 ?_
      refine lv_iload_n hx hb dX11_back_16 rfl (lv_at hl 1 rfl) ?_
      obtain ⟨g, h⟩ := h
      refine zzald X hW h0.2.2.2.2.2.2.2.2.2.2.2.2.2.2.2.2.2.2 g dX11_back_17 ?_
      refine lv_if_ne (tgt := 24) hx hb dX11_back_18 rfl (fun c => ?_) (fun c => ?_)
      · replace h := h.1 c
        refine lv_iconst hx hb dX11_back_24 zc_i0 ?_
        refine lv_istore_n (lv' := [(2, .int 0), (0, .ref (zad w 0)), (1, .int a1)]) hx hb dX11_back_25 rfl hl (Nat.le_of_ble_eq_true rfl) rfl (fun ls hl => ?_)
        obtain ⟨n, h⟩ := h
        refine zL_26   n 0 zm1 H locs ls hW (lv_sub hl [1, 2, 0] rfl) h
      · replace h := h.2 c
        refine lv_bipush hx hb dX11_back_21 zc_bm2 ?_
        exact zreti X hr hlk hW h dX11_back_23
    · replace h := h.2 c
      refine lv_iconst hx hb dX11_back_10 zc_im1 ?_
      exact zreti X hr hlk hW h dX11_back_11
  exact zMain s.heap [] ls hW hl
def wpJ_Model_laySeen_57  (K93 : zMem → Prop) (J : Int32 → zMem → Prop) (Q : zMem → Prop) (x_1 : Int32) (x_2 : Int32) (x_3 : Int32) (s_0 : Int32) (M : zMem) : Prop :=
  (s_0 = 0 → vp_in ((x_1 + (5 * x_2)) + x_3) 9600 ∧ ∀ zm2 : zMem, zm2 = zup M 12 (ix ((x_1 + (5 * x_2)) + x_3)) 0 → ∀ zx3 : Int32, zx3 = x_3 + 1 → J zx3 zm2) ∧ (¬ s_0 = 0 → wp_Model_at 1 x_2 x_3 M (fun zr5 zm4 => vp_in ((x_1 + (5 * x_2)) + x_3) 9600 ∧ ∀ zm6 : zMem, zm6 = zup zm4 12 (ix ((x_1 + (5 * x_2)) + x_3)) zr5 → ∀ zx7 : Int32, zx7 = x_3 + 1 → J zx7 zm6))
def wpJ_Model_laySeen_52  (K93 : zMem → Prop) (J : Int32 → zMem → Prop) (Q : zMem → Prop) (x_1 : Int32) (x_2 : Int32) (x_3 : Int32)  (M : zMem) : Prop :=
  wpJ_Model_laySeen_57  K93 J Q x_1 x_2 x_3 1 M
def wpB_Model_laySeen_20  (x_1 : Int32) (x_2 : Int32) (K93 : zMem → Prop) (Q : zMem → Prop) (J : Int32 → zMem → Prop) (x_3 : Int32) (M : zMem) : Prop :=
  (4 < x_3 → K93 M) ∧ (¬ 4 < x_3 → (¬ x_3 = 1 → wpJ_Model_laySeen_52  K93 J Q x_1 x_2 x_3 M) ∧ (x_3 = 1 → wp_Model_at 1 x_2 0 M (fun zr9 zm8 => (zr9 = 3 → wpJ_Model_laySeen_52  K93 J Q x_1 x_2 x_3 zm8) ∧ (¬ zr9 = 3 → wp_Model_at 1 x_2 0 zm8 (fun zr11 zm10 => (¬ zr11 = 1 → wpJ_Model_laySeen_57  K93 J Q x_1 x_2 x_3 0 zm10) ∧ (zr11 = 1 → wpJ_Model_laySeen_52  K93 J Q x_1 x_2 x_3 zm10))))))
def wpB_Model_laySeen_95  (x_1 : Int32) (x_2 : Int32) (K199 : zMem → Prop) (Q : zMem → Prop) (J : Int32 → zMem → Prop) (x_3 : Int32) (M : zMem) : Prop :=
  (8 ≤ x_3 → K199 M) ∧ (¬ 8 ≤ x_3 → vp_in x_2 5 ∧ wp_Model_learntAt 1 (M 8 (ix x_2)) x_3 M (fun zr14 zm13 => vp_in zr14 384 ∧ ∀ zx15 : Int32, zx15 = zm13 6 (ix zr14) → vp_in 3 100 ∧ vp_in x_2 5 ∧ vp_in ((60 + (8 * (zm13 8 (ix x_2)))) + x_3) 100 ∧ ∀ zx16 : Int32, zx16 = (zm13 4 (ix 3)) * ((zm13 4 (ix ((60 + (8 * (zm13 8 (ix x_2)))) + x_3))) - 1) → vp_in 3 100 ∧ (¬ (zm13 4 (ix 3)) = 0 → (zx16 ≤ zx15 → vp_in (((x_1 + 30) + (8 * x_2)) + x_3) 9600 ∧ ∀ zm17 : zMem, zm17 = zup zm13 12 (ix (((x_1 + 30) + (8 * x_2)) + x_3)) zx16 → ∀ zx18 : Int32, zx18 = x_3 + 1 → J zx18 zm17) ∧ (¬ zx16 ≤ zx15 → vp_in (((x_1 + 30) + (8 * x_2)) + x_3) 9600 ∧ ∀ zm19 : zMem, zm19 = zup zm13 12 (ix (((x_1 + 30) + (8 * x_2)) + x_3)) zx15 → ∀ zx20 : Int32, zx20 = x_3 + 1 → J zx20 zm19)) ∧ ((zm13 4 (ix 3)) = 0 → vp_in (((x_1 + 30) + (8 * x_2)) + x_3) 9600 ∧ ∀ zm21 : zMem, zm21 = zup zm13 12 (ix (((x_1 + 30) + (8 * x_2)) + x_3)) 0 → ∀ zx22 : Int32, zx22 = x_3 + 1 → J zx22 zm21)))
def wpB_Model_laySeen_10  (x_1 : Int32) (K205 : zMem → Prop) (Q : zMem → Prop) (J : Int32 → zMem → Prop) (x_2 : Int32) (M : zMem) : Prop :=
  ((M 0 18) ≤ x_2 → K205 M) ∧ (¬ (M 0 18) ≤ x_2 → ∃ n : Nat, zlp1 (wpB_Model_laySeen_20  x_1 x_2 (fun (zm12 : zMem) => ∃ n : Nat, zlp1 (wpB_Model_laySeen_95  x_1 x_2 (fun (zm23 : zMem) => ∀ zx24 : Int32, zx24 = x_2 + 1 → J zx24 zm23) Q) n 0 zm12) Q) n 0 M)
def wp_Model_laySeen  (M : zMem) (Q : zMem → Prop) : Prop :=
  ∀ zx1 : Int32, zx1 = 80 * (M 0 28) → ∃ n : Nat, zlp1 (wpB_Model_laySeen_10  zx1 (fun (zm25 : zMem) => wp_Model_of 1 4 zm25 (fun zr27 zm26 => vp_in (zx1 + 25) 9600 ∧ ∀ zm28 : zMem, zm28 = zup zm26 12 (ix (zx1 + 25)) zr27 → wp_Model_of 1 1 zm28 (fun zr30 zm29 => vp_in (zm28 0 28) 120 ∧ ∀ zm31 : zMem, zm31 = zup zm29 13 (ix (zm28 0 28)) zr30 → wp_Model_of 1 0 zm31 (fun zr33 zm32 => vp_in (zm31 0 28) 120 ∧ ∀ zm34 : zMem, zm34 = zup zm32 14 (ix (zm31 0 28)) zr33 → ∀ zm35 : zMem, zm35 = zup zm34 0 28 ((zm34 0 28) + 1) → Q zm35)))) Q) n 0 M
set_option maxHeartbeats 4000000 in
set_option maxRecDepth 20000 in
theorem c_Model_laySeen {l : Launch} {w : zWd} {M : zMem} {post : zMem → Prop} (h0 : zI_Model w) (h : wp_Model_laySeen  M post) : zMv l ⟨"HandToHandModel", "laySeen", "()V"⟩ prog_13_method_59_code 6 none 2 48 w [.ref (zad w 0)] M post := by
  refine zMet (by decide) (Nat.le_of_ble_eq_true rfl) ?_
  intro p e s m below meth c X hr hlk hml hW ls hl
  have hx := X.1
  have hb := X.2.1
  have hl : lv_has ls 6 [(0, .ref (zad w 0))] := hl
  have zJ_57 : ∀ (x_1 : Int32) (x_2 : Int32) (x_3 : Int32) (s_0 : Int32) (K93 : zMem → Prop) (zK93 : ∀ (M : zMem) (H : Heap) (locs : List Loc) (ls : Array Slot), zWo w s.heap M H locs → lv_has ls 6 [(0, .ref (zad w 0)), (1, .int x_1), (2, .int x_2)] → K93 M → W p l e (zRm 2 48) s m ([.ref (zad w 0)] : List Value).toArray below meth c H locs 0 0 (MQ below (va_Qv post (zB w) (zA w)) ([.ref (zad w 0)] : List Value).toArray s 0 0 (zA w)) (F0 m 93 ls [])) (J : Int32 → zMem → Prop) (zJ : ∀ (y_3 : Int32) (M : zMem) (H : Heap) (locs : List Loc) (ls : Array Slot), zWo w s.heap M H locs → lv_has ls 6 [(0, .ref (zad w 0)), (1, .int x_1), (2, .int x_2), (3, .int y_3)] → J y_3 M → W p l e (zRm 2 48) s m ([.ref (zad w 0)] : List Value).toArray below meth c H locs 0 0 (MQ below (va_Qv post (zB w) (zA w)) ([.ref (zad w 0)] : List Value).toArray s 0 0 (zA w)) (F0 m 20 ls [])) (M : zMem) (H : Heap) (locs : List Loc) (ls : Array Slot), zWo w s.heap M H locs → lv_has ls 6 [(0, .ref (zad w 0)), (1, .int x_1), (2, .int x_2), (3, .int x_3)] → wpJ_Model_laySeen_57  K93 J post x_1 x_2 x_3 s_0 M → W p l e (zRm 2 48) s m ([.ref (zad w 0)] : List Value).toArray below meth c H locs 0 0 (MQ below (va_Qv post (zB w) (zA w)) ([.ref (zad w 0)] : List Value).toArray s 0 0 (zA w)) (F0 m 57 ls [.int s_0]) := by
    intro x_1 x_2 x_3 s_0 K93 zK93 J zJ M H locs ls hW hl h
    unfold wpJ_Model_laySeen_57 at h
    refine lv_istore (lv' := [(4, .int s_0), (0, .ref (zad w 0)), (1, .int x_1), (2, .int x_2), (3, .int x_3)]) hx hb dX11_laySeen_57 hl (Nat.le_of_ble_eq_true rfl) rfl (fun ls hl => ?_)
    refine lv_aload_n hx hb dX11_laySeen_59 rfl (lv_at hl 1 rfl) ?_
    refine zg_Model_seen X hW h0 zu_1045 dX11_laySeen_60 ?_
    refine lv_iload_n hx hb dX11_laySeen_63 rfl (lv_at hl 2 rfl) ?_
    refine lv_iconst hx hb dX11_laySeen_64 zc_i5 ?_
    refine lv_iload_n hx hb dX11_laySeen_65 rfl (lv_at hl 3 rfl) ?_
    refine lv_imul hx hb dX11_laySeen_66 ?_
    refine lv_iadd hx hb dX11_laySeen_67 ?_
    refine lv_iload_n hx hb dX11_laySeen_68 rfl (lv_at hl 4 rfl) ?_
    refine lv_iadd hx hb dX11_laySeen_69 ?_
    refine lv_iload hx hb dX11_laySeen_70 (lv_at hl 0 rfl) ?_
    refine lv_if_eq (tgt := 85) hx hb dX11_laySeen_72 rfl (fun c => ?_) (fun c => ?_)
    · replace h := h.1 c
      refine lv_iconst hx hb dX11_laySeen_85 zc_i0 ?_
      obtain ⟨g, h⟩ := h
      refine ziast X hW h0.2.2.2.2.2.2.2.2.2.2.2.1 g dX11_laySeen_86 (fun H locs zm2 ezm2 hW => ?_)
      replace h := h zm2 ezm2
      obtain ⟨zx3, ezx3⟩ : ∃ y : Int32, y = x_3 + 1 := ⟨_, rfl⟩
      replace h := h zx3 ezx3
      refine lv_iinc (v := zx3) (lv' := [(3, .int zx3), (4, .int s_0), (0, .ref (zad w 0)), (1, .int x_1), (2, .int x_2)]) hx hb dX11_laySeen_87 hl (k := 4) rfl (by rw [ezx3, zc_i1]) (Nat.le_of_ble_eq_true rfl) rfl (fun ls hl => ?_)
      refine lv_goto (tgt := 20) hx hb dX11_laySeen_90 rfl ?_
      exact zJ zx3 zm2 H locs ls hW (lv_sub hl [2, 3, 4, 0] rfl) h
    · replace h := h.2 c
      refine lv_aload_n hx hb dX11_laySeen_75 rfl (lv_at hl 1 rfl) ?_
      refine lv_iconst hx hb dX11_laySeen_76 zc_i1 ?_
      refine lv_iload_n hx hb dX11_laySeen_77 rfl (lv_at hl 3 rfl) ?_
      refine lv_iload_n hx hb dX11_laySeen_78 rfl (lv_at hl 4 rfl) ?_
      refine zcalli (zrunV (As := [.int 1, .int x_2, .int x_3]) (rest := [.int ((x_1 + (5 * x_2)) + x_3), .ref (zad w 12)]) X hml hl hW h0.1 rfl zk_Model_195 (c_Model_at h0 h) rfl ⟨Nat.le_of_ble_eq_true rfl, Nat.le_of_ble_eq_true rfl⟩ ⟨Nat.le_refl 0, Nat.le_refl 0⟩ rfl (Nat.le_of_ble_eq_true rfl) dX11_laySeen_79) hW (fun zr5 zm4 H locs h hW => ?_)
      refine lv_goto (tgt := 86) hx hb dX11_laySeen_82 rfl ?_
      obtain ⟨g, h⟩ := h
      refine ziast X hW h0.2.2.2.2.2.2.2.2.2.2.2.1 g dX11_laySeen_86 (fun H locs zm6 ezm6 hW => ?_)
      replace h := h zm6 ezm6
      obtain ⟨zx7, ezx7⟩ : ∃ y : Int32, y = x_3 + 1 := ⟨_, rfl⟩
      replace h := h zx7 ezx7
      refine lv_iinc (v := zx7) (lv' := [(3, .int zx7), (4, .int s_0), (0, .ref (zad w 0)), (1, .int x_1), (2, .int x_2)]) hx hb dX11_laySeen_87 hl (k := 4) rfl (by rw [ezx7, zc_i1]) (Nat.le_of_ble_eq_true rfl) rfl (fun ls hl => ?_)
      refine lv_goto (tgt := 20) hx hb dX11_laySeen_90 rfl ?_
      exact zJ zx7 zm6 H locs ls hW (lv_sub hl [2, 3, 4, 0] rfl) h
  have zJ_52 : ∀ (x_1 : Int32) (x_2 : Int32) (x_3 : Int32) (K93 : zMem → Prop) (zK93 : ∀ (M : zMem) (H : Heap) (locs : List Loc) (ls : Array Slot), zWo w s.heap M H locs → lv_has ls 6 [(0, .ref (zad w 0)), (1, .int x_1), (2, .int x_2)] → K93 M → W p l e (zRm 2 48) s m ([.ref (zad w 0)] : List Value).toArray below meth c H locs 0 0 (MQ below (va_Qv post (zB w) (zA w)) ([.ref (zad w 0)] : List Value).toArray s 0 0 (zA w)) (F0 m 93 ls [])) (J : Int32 → zMem → Prop) (zJ : ∀ (y_3 : Int32) (M : zMem) (H : Heap) (locs : List Loc) (ls : Array Slot), zWo w s.heap M H locs → lv_has ls 6 [(0, .ref (zad w 0)), (1, .int x_1), (2, .int x_2), (3, .int y_3)] → J y_3 M → W p l e (zRm 2 48) s m ([.ref (zad w 0)] : List Value).toArray below meth c H locs 0 0 (MQ below (va_Qv post (zB w) (zA w)) ([.ref (zad w 0)] : List Value).toArray s 0 0 (zA w)) (F0 m 20 ls [])) (M : zMem) (H : Heap) (locs : List Loc) (ls : Array Slot), zWo w s.heap M H locs → lv_has ls 6 [(0, .ref (zad w 0)), (1, .int x_1), (2, .int x_2), (3, .int x_3)] → wpJ_Model_laySeen_52  K93 J post x_1 x_2 x_3 M → W p l e (zRm 2 48) s m ([.ref (zad w 0)] : List Value).toArray below meth c H locs 0 0 (MQ below (va_Qv post (zB w) (zA w)) ([.ref (zad w 0)] : List Value).toArray s 0 0 (zA w)) (F0 m 52 ls []) := by
    intro x_1 x_2 x_3 K93 zK93 J zJ M H locs ls hW hl h
    unfold wpJ_Model_laySeen_52 at h
    refine lv_iconst hx hb dX11_laySeen_52 zc_i1 ?_
    refine lv_goto (tgt := 57) hx hb dX11_laySeen_53 rfl ?_
    exact zJ_57 x_1 x_2 x_3 1 _ zK93 _ zJ M H locs ls hW (lv_sub hl [0, 1, 2, 3] rfl) h
  have zL_20 : ∀ (x_1 : Int32) (x_2 : Int32) (K93 : zMem → Prop) (zK93 : ∀ (M : zMem) (H : Heap) (locs : List Loc) (ls : Array Slot), zWo w s.heap M H locs → lv_has ls 6 [(0, .ref (zad w 0)), (1, .int x_1), (2, .int x_2)] → K93 M → W p l e (zRm 2 48) s m ([.ref (zad w 0)] : List Value).toArray below meth c H locs 0 0 (MQ below (va_Qv post (zB w) (zA w)) ([.ref (zad w 0)] : List Value).toArray s 0 0 (zA w)) (F0 m 93 ls [])), ∀ (n : Nat) (x_3 : Int32) (M : zMem) (H : Heap) (locs : List Loc) (ls : Array Slot), zWo w s.heap M H locs → lv_has ls 6 [(0, .ref (zad w 0)), (1, .int x_1), (2, .int x_2), (3, .int x_3)] → zlp1 (wpB_Model_laySeen_20  x_1 x_2 K93 post) n x_3 M → W p l e (zRm 2 48) s m ([.ref (zad w 0)] : List Value).toArray below meth c H locs 0 0 (MQ below (va_Qv post (zB w) (zA w)) ([.ref (zad w 0)] : List Value).toArray s 0 0 (zA w)) (F0 m 20 ls []) := by
    intro x_1 x_2 K93 zK93 n
    induction n with
    | zero => intro x_3 M H locs ls hW hl h; exact h.elim
    | succ n zJ =>
      intro x_3 M H locs ls hW hl h
      have h : wpB_Model_laySeen_20  x_1 x_2 K93 post (zlp1 (wpB_Model_laySeen_20  x_1 x_2 K93 post) n) x_3 M := h
      unfold wpB_Model_laySeen_20 at h
      refine lv_iload_n hx hb dX11_laySeen_20 rfl (lv_at hl 3 rfl) ?_
      refine lv_iconst hx hb dX11_laySeen_21 zc_i4 ?_
      refine lv_icmp_gt (tgt := 93) hx hb dX11_laySeen_22 rfl (fun c => ?_) (fun c => ?_)
      · replace h := h.1 c
        exact zK93 M H locs ls hW (lv_sub hl [0, 1, 2] rfl) h
      · replace h := h.2 c
        refine lv_iload_n hx hb dX11_laySeen_25 rfl (lv_at hl 3 rfl) ?_
        refine lv_iconst hx hb dX11_laySeen_26 zc_i1 ?_
        refine lv_icmp_ne (tgt := 52) hx hb dX11_laySeen_27 rfl (fun c => ?_) (fun c => ?_)
        · replace h := h.1 c
          exact zJ_52 x_1 x_2 x_3 _ zK93 _ zJ M H locs ls hW (lv_sub hl [0, 1, 2, 3] rfl) h
        · replace h := h.2 c
          refine lv_aload_n hx hb dX11_laySeen_30 rfl (lv_at hl 0 rfl) ?_
          refine lv_iconst hx hb dX11_laySeen_31 zc_i1 ?_
          refine lv_iload_n hx hb dX11_laySeen_32 rfl (lv_at hl 2 rfl) ?_
          refine lv_iconst hx hb dX11_laySeen_33 zc_i0 ?_
          refine zcalli (zrunV (As := [.int 1, .int x_2, .int 0]) (rest := []) X hml hl hW h0.1 rfl zk_Model_195 (c_Model_at h0 h) rfl ⟨Nat.le_of_ble_eq_true rfl, Nat.le_of_ble_eq_true rfl⟩ ⟨Nat.le_refl 0, Nat.le_refl 0⟩ rfl (Nat.le_of_ble_eq_true rfl) dX11_laySeen_34) hW (fun zr9 zm8 H locs h hW => ?_)
          refine lv_iconst hx hb dX11_laySeen_37 zc_i3 ?_
          refine lv_icmp_eq (tgt := 52) hx hb dX11_laySeen_38 rfl (fun c => ?_) (fun c => ?_)
          · replace h := h.1 c
            exact zJ_52 x_1 x_2 x_3 _ zK93 _ zJ zm8 H locs ls hW (lv_sub hl [0, 1, 2, 3] rfl) h
          · replace h := h.2 c
            refine lv_aload_n hx hb dX11_laySeen_41 rfl (lv_at hl 0 rfl) ?_
            refine lv_iconst hx hb dX11_laySeen_42 zc_i1 ?_
            refine lv_iload_n hx hb dX11_laySeen_43 rfl (lv_at hl 2 rfl) ?_
            refine lv_iconst hx hb dX11_laySeen_44 zc_i0 ?_
            refine zcalli (zrunV (As := [.int 1, .int x_2, .int 0]) (rest := []) X hml hl hW h0.1 rfl zk_Model_195 (c_Model_at h0 h) rfl ⟨Nat.le_of_ble_eq_true rfl, Nat.le_of_ble_eq_true rfl⟩ ⟨Nat.le_refl 0, Nat.le_refl 0⟩ rfl (Nat.le_of_ble_eq_true rfl) dX11_laySeen_45) hW (fun zr11 zm10 H locs h hW => ?_)
            refine lv_iconst hx hb dX11_laySeen_48 zc_i1 ?_
            refine lv_icmp_ne (tgt := 56) hx hb dX11_laySeen_49 rfl (fun c => ?_) (fun c => ?_)
            · replace h := h.1 c
              refine lv_iconst hx hb dX11_laySeen_56 zc_i0 ?_
              exact zJ_57 x_1 x_2 x_3 0 _ zK93 _ zJ zm10 H locs ls hW (lv_sub hl [0, 1, 2, 3] rfl) h
            · replace h := h.2 c
              exact zJ_52 x_1 x_2 x_3 _ zK93 _ zJ zm10 H locs ls hW (lv_sub hl [0, 1, 2, 3] rfl) h
  have zL_95 : ∀ (x_1 : Int32) (x_2 : Int32) (K199 : zMem → Prop) (zK199 : ∀ (M : zMem) (H : Heap) (locs : List Loc) (ls : Array Slot), zWo w s.heap M H locs → lv_has ls 6 [(0, .ref (zad w 0)), (1, .int x_1), (2, .int x_2)] → K199 M → W p l e (zRm 2 48) s m ([.ref (zad w 0)] : List Value).toArray below meth c H locs 0 0 (MQ below (va_Qv post (zB w) (zA w)) ([.ref (zad w 0)] : List Value).toArray s 0 0 (zA w)) (F0 m 199 ls [])), ∀ (n : Nat) (x_3 : Int32) (M : zMem) (H : Heap) (locs : List Loc) (ls : Array Slot), zWo w s.heap M H locs → lv_has ls 6 [(0, .ref (zad w 0)), (1, .int x_1), (2, .int x_2), (3, .int x_3)] → zlp1 (wpB_Model_laySeen_95  x_1 x_2 K199 post) n x_3 M → W p l e (zRm 2 48) s m ([.ref (zad w 0)] : List Value).toArray below meth c H locs 0 0 (MQ below (va_Qv post (zB w) (zA w)) ([.ref (zad w 0)] : List Value).toArray s 0 0 (zA w)) (F0 m 95 ls []) := by
    intro x_1 x_2 K199 zK199 n
    induction n with
    | zero => intro x_3 M H locs ls hW hl h; exact h.elim
    | succ n zJ =>
      intro x_3 M H locs ls hW hl h
      have h : wpB_Model_laySeen_95  x_1 x_2 K199 post (zlp1 (wpB_Model_laySeen_95  x_1 x_2 K199 post) n) x_3 M := h
      unfold wpB_Model_laySeen_95 at h
      refine lv_iload_n hx hb dX11_laySeen_95 rfl (lv_at hl 3 rfl) ?_
      refine lv_bipush hx hb dX11_laySeen_96 zc_b8 ?_
      refine lv_icmp_ge (tgt := 199) hx hb dX11_laySeen_98 rfl (fun c => ?_) (fun c => ?_)
      · replace h := h.1 c
        exact zK199 M H locs ls hW (lv_sub hl [0, 1, 2] rfl) h
      · replace h := h.2 c
        refine lv_aload_n hx hb dX11_laySeen_101 rfl (lv_at hl 0 rfl) ?_
        refine zg_Model_bench X hW h0 zu_1036 dX11_laySeen_102 ?_
        refine lv_aload_n hx hb dX11_laySeen_105 rfl (lv_at hl 0 rfl) ?_
        refine lv_iconst hx hb dX11_laySeen_106 zc_i1 ?_
        refine lv_aload_n hx hb dX11_laySeen_107 rfl (lv_at hl 0 rfl) ?_
        refine zg_Model_who X hW h0 zu_1040 dX11_laySeen_108 ?_
        refine lv_iload_n hx hb dX11_laySeen_111 rfl (lv_at hl 2 rfl) ?_
        obtain ⟨g, h⟩ := h
        refine ziald X hW h0.2.2.2.2.2.2.2.1 g dX11_laySeen_112 ?_
        refine lv_iload_n hx hb dX11_laySeen_113 rfl (lv_at hl 3 rfl) ?_
        refine zcalli (zrunV (As := [.int 1, .int (M 8 (ix x_2)), .int x_3]) (rest := [.ref (zad w 6)]) X hml hl hW h0.1 rfl zk_Model_185 (c_Model_learntAt h0 h) rfl ⟨Nat.le_of_ble_eq_true rfl, Nat.le_of_ble_eq_true rfl⟩ ⟨Nat.le_refl 0, Nat.le_refl 0⟩ rfl (Nat.le_of_ble_eq_true rfl) dX11_laySeen_114) hW (fun zr14 zm13 H locs h hW => ?_)
        obtain ⟨g, h⟩ := h
        refine ziald X hW h0.2.2.2.2.2.2.1 g dX11_laySeen_117 ?_
        refine lv_topi (fun zx15 ezx15 => ?_)
        replace h := h zx15 ezx15
        refine lv_istore (lv' := [(4, .int zx15), (0, .ref (zad w 0)), (1, .int x_1), (2, .int x_2), (3, .int x_3)]) hx hb dX11_laySeen_118 hl (Nat.le_of_ble_eq_true rfl) rfl (fun ls hl => ?_)
        refine lv_aload_n hx hb dX11_laySeen_120 rfl (lv_at hl 1 rfl) ?_
        refine zg_Model_holds X hW h0 zu_1031 dX11_laySeen_121 ?_
        refine lv_iconst hx hb dX11_laySeen_124 zc_i3 ?_
        obtain ⟨g, h⟩ := h
        refine ziald X hW h0.2.2.2.2.1 g dX11_laySeen_125 ?_
        refine lv_aload_n hx hb dX11_laySeen_126 rfl (lv_at hl 1 rfl) ?_
        refine zg_Model_holds X hW h0 zu_1031 dX11_laySeen_127 ?_
        refine lv_bipush hx hb dX11_laySeen_130 zc_b60 ?_
        refine lv_bipush hx hb dX11_laySeen_132 zc_b8 ?_
        refine lv_aload_n hx hb dX11_laySeen_134 rfl (lv_at hl 1 rfl) ?_
        refine zg_Model_who X hW h0 zu_1040 dX11_laySeen_135 ?_
        refine lv_iload_n hx hb dX11_laySeen_138 rfl (lv_at hl 3 rfl) ?_
        obtain ⟨g, h⟩ := h
        refine ziald X hW h0.2.2.2.2.2.2.2.1 g dX11_laySeen_139 ?_
        refine lv_imul hx hb dX11_laySeen_140 ?_
        refine lv_iadd hx hb dX11_laySeen_141 ?_
        refine lv_iload_n hx hb dX11_laySeen_142 rfl (lv_at hl 4 rfl) ?_
        refine lv_iadd hx hb dX11_laySeen_143 ?_
        obtain ⟨g, h⟩ := h
        refine ziald X hW h0.2.2.2.2.1 g dX11_laySeen_144 ?_
        refine lv_iconst hx hb dX11_laySeen_145 zc_i1 ?_
        refine lv_isub hx hb dX11_laySeen_146 ?_
        refine lv_imul hx hb dX11_laySeen_147 ?_
        refine lv_topi (fun zx16 ezx16 => ?_)
        replace h := h zx16 ezx16
        refine lv_istore (lv' := [(5, .int zx16), (4, .int zx15), (0, .ref (zad w 0)), (1, .int x_1), (2, .int x_2), (3, .int x_3)]) hx hb dX11_laySeen_148 hl (Nat.le_of_ble_eq_true rfl) rfl (fun ls hl => ?_)
        refine lv_aload_n hx hb dX11_laySeen_150 rfl (lv_at hl 2 rfl) ?_
        refine zg_Model_seen X hW h0 zu_1045 dX11_laySeen_151 ?_
        refine lv_iload_n hx hb dX11_laySeen_154 rfl (lv_at hl 3 rfl) ?_
        refine lv_bipush hx hb dX11_laySeen_155 zc_b30 ?_
        refine lv_iadd hx hb dX11_laySeen_157 ?_
        refine lv_bipush hx hb dX11_laySeen_158 zc_b8 ?_
        refine lv_iload_n hx hb dX11_laySeen_160 rfl (lv_at hl 4 rfl) ?_
        refine lv_imul hx hb dX11_laySeen_161 ?_
        refine lv_iadd hx hb dX11_laySeen_162 ?_
        refine lv_iload_n hx hb dX11_laySeen_163 rfl (lv_at hl 5 rfl) ?_
        refine lv_iadd hx hb dX11_laySeen_164 ?_
        refine lv_aload_n hx hb dX11_laySeen_165 rfl (lv_at hl 2 rfl) ?_
        refine zg_Model_holds X hW h0 zu_1031 dX11_laySeen_166 ?_
        refine lv_iconst hx hb dX11_laySeen_169 zc_i3 ?_
        obtain ⟨g, h⟩ := h
        refine ziald X hW h0.2.2.2.2.1 g dX11_laySeen_170 ?_
        refine lv_if_ne (tgt := 178) hx hb dX11_laySeen_171 rfl (fun c => ?_) (fun c => ?_)
        · replace h := h.1 c
          refine lv_iload hx hb dX11_laySeen_178 (lv_at hl 1 rfl) ?_
          refine lv_iload hx hb dX11_laySeen_180 (lv_at hl 0 rfl) ?_
          refine lv_icmp_ge (tgt := 190) hx hb dX11_laySeen_182 rfl (fun c => ?_) (fun c => ?_)
          · replace h := h.1 c
            refine lv_iload hx hb dX11_laySeen_190 (lv_at hl 0 rfl) ?_
            obtain ⟨g, h⟩ := h
            refine ziast X hW h0.2.2.2.2.2.2.2.2.2.2.2.1 g dX11_laySeen_192 (fun H locs zm17 ezm17 hW => ?_)
            replace h := h zm17 ezm17
            obtain ⟨zx18, ezx18⟩ : ∃ y : Int32, y = x_3 + 1 := ⟨_, rfl⟩
            replace h := h zx18 ezx18
            refine lv_iinc (v := zx18) (lv' := [(3, .int zx18), (5, .int zx16), (4, .int zx15), (0, .ref (zad w 0)), (1, .int x_1), (2, .int x_2)]) hx hb dX11_laySeen_193 hl (k := 5) rfl (by rw [ezx18, zc_i1]) (Nat.le_of_ble_eq_true rfl) rfl (fun ls hl => ?_)
            refine lv_goto (tgt := 95) hx hb dX11_laySeen_196 rfl ?_
            exact zJ zx18 zm17 H locs ls hW (lv_sub hl [3, 4, 5, 0] rfl) h
          · replace h := h.2 c
            refine lv_iload hx hb dX11_laySeen_185 (lv_at hl 1 rfl) ?_
            refine lv_goto (tgt := 192) hx hb dX11_laySeen_187 rfl ?_
            obtain ⟨g, h⟩ := h
            refine ziast X hW h0.2.2.2.2.2.2.2.2.2.2.2.1 g dX11_laySeen_192 (fun H locs zm19 ezm19 hW => ?_)
            replace h := h zm19 ezm19
            obtain ⟨zx20, ezx20⟩ : ∃ y : Int32, y = x_3 + 1 := ⟨_, rfl⟩
            replace h := h zx20 ezx20
            refine lv_iinc (v := zx20) (lv' := [(3, .int zx20), (5, .int zx16), (4, .int zx15), (0, .ref (zad w 0)), (1, .int x_1), (2, .int x_2)]) hx hb dX11_laySeen_193 hl (k := 5) rfl (by rw [ezx20, zc_i1]) (Nat.le_of_ble_eq_true rfl) rfl (fun ls hl => ?_)
            refine lv_goto (tgt := 95) hx hb dX11_laySeen_196 rfl ?_
            exact zJ zx20 zm19 H locs ls hW (lv_sub hl [3, 4, 5, 0] rfl) h
        · replace h := h.2 c
          refine lv_iconst hx hb dX11_laySeen_174 zc_i0 ?_
          refine lv_goto (tgt := 192) hx hb dX11_laySeen_175 rfl ?_
          obtain ⟨g, h⟩ := h
          refine ziast X hW h0.2.2.2.2.2.2.2.2.2.2.2.1 g dX11_laySeen_192 (fun H locs zm21 ezm21 hW => ?_)
          replace h := h zm21 ezm21
          obtain ⟨zx22, ezx22⟩ : ∃ y : Int32, y = x_3 + 1 := ⟨_, rfl⟩
          replace h := h zx22 ezx22
          refine lv_iinc (v := zx22) (lv' := [(3, .int zx22), (5, .int zx16), (4, .int zx15), (0, .ref (zad w 0)), (1, .int x_1), (2, .int x_2)]) hx hb dX11_laySeen_193 hl (k := 5) rfl (by rw [ezx22, zc_i1]) (Nat.le_of_ble_eq_true rfl) rfl (fun ls hl => ?_)
          refine lv_goto (tgt := 95) hx hb dX11_laySeen_196 rfl ?_
          exact zJ zx22 zm21 H locs ls hW (lv_sub hl [3, 4, 5, 0] rfl) h
  have zL_10 : ∀ (x_1 : Int32) (K205 : zMem → Prop) (zK205 : ∀ (M : zMem) (H : Heap) (locs : List Loc) (ls : Array Slot), zWo w s.heap M H locs → lv_has ls 6 [(0, .ref (zad w 0)), (1, .int x_1)] → K205 M → W p l e (zRm 2 48) s m ([.ref (zad w 0)] : List Value).toArray below meth c H locs 0 0 (MQ below (va_Qv post (zB w) (zA w)) ([.ref (zad w 0)] : List Value).toArray s 0 0 (zA w)) (F0 m 205 ls [])), ∀ (n : Nat) (x_2 : Int32) (M : zMem) (H : Heap) (locs : List Loc) (ls : Array Slot), zWo w s.heap M H locs → lv_has ls 6 [(0, .ref (zad w 0)), (1, .int x_1), (2, .int x_2)] → zlp1 (wpB_Model_laySeen_10  x_1 K205 post) n x_2 M → W p l e (zRm 2 48) s m ([.ref (zad w 0)] : List Value).toArray below meth c H locs 0 0 (MQ below (va_Qv post (zB w) (zA w)) ([.ref (zad w 0)] : List Value).toArray s 0 0 (zA w)) (F0 m 10 ls []) := by
    intro x_1 K205 zK205 n
    induction n with
    | zero => intro x_2 M H locs ls hW hl h; exact h.elim
    | succ n zJ =>
      intro x_2 M H locs ls hW hl h
      have h : wpB_Model_laySeen_10  x_1 K205 post (zlp1 (wpB_Model_laySeen_10  x_1 K205 post) n) x_2 M := h
      unfold wpB_Model_laySeen_10 at h
      refine lv_iload_n hx hb dX11_laySeen_10 rfl (lv_at hl 2 rfl) ?_
      refine lv_aload_n hx hb dX11_laySeen_11 rfl (lv_at hl 0 rfl) ?_
      refine zg_Model_many X hW h0 zu_1038 dX11_laySeen_12 ?_
      refine lv_icmp_ge (tgt := 205) hx hb dX11_laySeen_15 rfl (fun c => ?_) (fun c => ?_)
      · replace h := h.1 c
        exact zK205 M H locs ls hW (lv_sub hl [0, 1] rfl) h
      · replace h := h.2 c
        refine lv_iconst hx hb dX11_laySeen_18 zc_i0 ?_
        refine lv_istore_n (lv' := [(3, .int 0), (0, .ref (zad w 0)), (1, .int x_1), (2, .int x_2)]) hx hb dX11_laySeen_19 rfl hl (Nat.le_of_ble_eq_true rfl) rfl (fun ls hl => ?_)
        obtain ⟨n, h⟩ := h
        refine zL_20 x_1 x_2 _ (fun  zm12 H locs ls hW hl h => ?_) n 0 M H locs ls hW (lv_sub hl [1, 2, 3, 0] rfl) h
        · skip
          refine lv_iconst hx hb dX11_laySeen_93 zc_i0 ?_
          refine lv_istore_n (lv' := [(3, .int 0), (0, .ref (zad w 0)), (1, .int x_1), (2, .int x_2)]) hx hb dX11_laySeen_94 rfl hl (Nat.le_of_ble_eq_true rfl) rfl (fun ls hl => ?_)
          obtain ⟨n, h⟩ := h
          refine zL_95 x_1 x_2 _ (fun  zm23 H locs ls hW hl h => ?_) n 0 zm12 H locs ls hW (lv_sub hl [1, 2, 3, 0] rfl) h
          · skip
            obtain ⟨zx24, ezx24⟩ : ∃ y : Int32, y = x_2 + 1 := ⟨_, rfl⟩
            replace h := h zx24 ezx24
            refine lv_iinc (v := zx24) (lv' := [(2, .int zx24), (0, .ref (zad w 0)), (1, .int x_1)]) hx hb dX11_laySeen_199 hl (k := 2) rfl (by rw [ezx24, zc_i1]) (Nat.le_of_ble_eq_true rfl) rfl (fun ls hl => ?_)
            refine lv_goto (tgt := 10) hx hb dX11_laySeen_202 rfl ?_
            exact zJ zx24 zm23 H locs ls hW (lv_sub hl [1, 2, 0] rfl) h
  unfold wp_Model_laySeen at h
  have zMain : ∀ (H : Heap) (locs : List Loc) (ls : Array Slot), zWo w s.heap M H locs → lv_has ls 6 [(0, .ref (zad w 0))] → W p l e (zRm 2 48) s m ([.ref (zad w 0)] : List Value).toArray below meth c H locs 0 0 (MQ below (va_Qv post (zB w) (zA w)) ([.ref (zad w 0)] : List Value).toArray s 0 0 (zA w)) (F0 m 0 ls []) := by
    intro H locs ls hW hl
    refine lv_bipush hx hb dX11_laySeen_0 zc_b80 ?_
    refine lv_aload_n hx hb dX11_laySeen_2 rfl (lv_at hl 0 rfl) ?_
    refine zg_Model_seenMany X hW h0 zu_1048 dX11_laySeen_3 ?_
    refine lv_imul hx hb dX11_laySeen_6 ?_
    refine lv_topi (fun zx1 ezx1 => ?_)
    replace h := h zx1 ezx1
    refine lv_istore_n (lv' := [(1, .int zx1), (0, .ref (zad w 0))]) hx hb dX11_laySeen_7 rfl hl (Nat.le_of_ble_eq_true rfl) rfl (fun ls hl => ?_)
    refine lv_iconst hx hb dX11_laySeen_8 zc_i0 ?_
    refine lv_istore_n (lv' := [(2, .int 0), (1, .int zx1), (0, .ref (zad w 0))]) hx hb dX11_laySeen_9 rfl hl (Nat.le_of_ble_eq_true rfl) rfl (fun ls hl => ?_)
    obtain ⟨n, h⟩ := h
    refine zL_10 zx1 _ (fun  zm25 H locs ls hW hl h => ?_) n 0 M H locs ls hW (lv_sub hl [2, 1, 0] rfl) h
    · skip
      refine lv_aload_n hx hb dX11_laySeen_205 rfl (lv_at hl 0 rfl) ?_
      refine zg_Model_seen X hW h0 zu_1045 dX11_laySeen_206 ?_
      refine lv_iload_n hx hb dX11_laySeen_209 rfl (lv_at hl 1 rfl) ?_
      refine lv_bipush hx hb dX11_laySeen_210 zc_b25 ?_
      refine lv_iadd hx hb dX11_laySeen_212 ?_
      refine lv_aload_n hx hb dX11_laySeen_213 rfl (lv_at hl 0 rfl) ?_
      refine lv_iconst hx hb dX11_laySeen_214 zc_i1 ?_
      refine lv_iconst hx hb dX11_laySeen_215 zc_i4 ?_
      refine zcalli (zrunV (As := [.int 1, .int 4]) (rest := [.int (zx1 + 25), .ref (zad w 12)]) X hml hl hW h0.1 rfl zk_Model_218 (c_Model_of h0 h) rfl ⟨Nat.le_of_ble_eq_true rfl, Nat.le_of_ble_eq_true rfl⟩ ⟨Nat.le_refl 0, Nat.le_refl 0⟩ rfl (Nat.le_of_ble_eq_true rfl) dX11_laySeen_216) hW (fun zr27 zm26 H locs h hW => ?_)
      obtain ⟨g, h⟩ := h
      refine ziast X hW h0.2.2.2.2.2.2.2.2.2.2.2.1 g dX11_laySeen_219 (fun H locs zm28 ezm28 hW => ?_)
      replace h := h zm28 ezm28
      refine lv_aload_n hx hb dX11_laySeen_220 rfl (lv_at hl 0 rfl) ?_
      refine zg_Model_seenDone X hW h0 zu_1046 dX11_laySeen_221 ?_
      refine lv_aload_n hx hb dX11_laySeen_224 rfl (lv_at hl 0 rfl) ?_
      refine zg_Model_seenMany X hW h0 zu_1048 dX11_laySeen_225 ?_
      refine lv_aload_n hx hb dX11_laySeen_228 rfl (lv_at hl 0 rfl) ?_
      refine lv_iconst hx hb dX11_laySeen_229 zc_i1 ?_
      refine lv_iconst hx hb dX11_laySeen_230 zc_i1 ?_
      refine zcalli (zrunV (As := [.int 1, .int 1]) (rest := [.int (zm28 0 28), .ref (zad w 13)]) X hml hl hW h0.1 rfl zk_Model_218 (c_Model_of h0 h) rfl ⟨Nat.le_of_ble_eq_true rfl, Nat.le_of_ble_eq_true rfl⟩ ⟨Nat.le_refl 0, Nat.le_refl 0⟩ rfl (Nat.le_of_ble_eq_true rfl) dX11_laySeen_231) hW (fun zr30 zm29 H locs h hW => ?_)
      obtain ⟨g, h⟩ := h
      refine ziast X hW h0.2.2.2.2.2.2.2.2.2.2.2.2.1 g dX11_laySeen_234 (fun H locs zm31 ezm31 hW => ?_)
      replace h := h zm31 ezm31
      refine lv_aload_n hx hb dX11_laySeen_235 rfl (lv_at hl 0 rfl) ?_
      refine zg_Model_seenTick X hW h0 zu_1047 dX11_laySeen_236 ?_
      refine lv_aload_n hx hb dX11_laySeen_239 rfl (lv_at hl 0 rfl) ?_
      refine zg_Model_seenMany X hW h0 zu_1048 dX11_laySeen_240 ?_
      refine lv_aload_n hx hb dX11_laySeen_243 rfl (lv_at hl 0 rfl) ?_
      refine lv_iconst hx hb dX11_laySeen_244 zc_i1 ?_
      refine lv_iconst hx hb dX11_laySeen_245 zc_i0 ?_
      refine zcalli (zrunV (As := [.int 1, .int 0]) (rest := [.int (zm31 0 28), .ref (zad w 14)]) X hml hl hW h0.1 rfl zk_Model_218 (c_Model_of h0 h) rfl ⟨Nat.le_of_ble_eq_true rfl, Nat.le_of_ble_eq_true rfl⟩ ⟨Nat.le_refl 0, Nat.le_refl 0⟩ rfl (Nat.le_of_ble_eq_true rfl) dX11_laySeen_246) hW (fun zr33 zm32 H locs h hW => ?_)
      obtain ⟨g, h⟩ := h
      refine ziast X hW h0.2.2.2.2.2.2.2.2.2.2.2.2.2.1 g dX11_laySeen_249 (fun H locs zm34 ezm34 hW => ?_)
      replace h := h zm34 ezm34
      refine lv_aload_n hx hb dX11_laySeen_250 rfl (lv_at hl 0 rfl) ?_
      refine lv_dup hx hb dX11_laySeen_251 rfl ?_
      refine zg_Model_seenMany X hW h0 zu_1048 dX11_laySeen_252 ?_
      refine lv_iconst hx hb dX11_laySeen_255 zc_i1 ?_
      refine lv_iadd hx hb dX11_laySeen_256 ?_
      refine zp_Model_seenMany X hW h0 zu_1048 dX11_laySeen_257 (fun H locs zm35 ezm35 hW => ?_)
      replace h := h zm35 ezm35
      exact zretv X hr hlk hW h dX11_laySeen_260
  exact zMain s.heap [] ls hW hl
def wpB_Model_areSame_5 (a1 : Int32) (a2 : Int32)   (Q : Int32 → zMem → Prop) (J : Int32 → Int32 → zMem → Prop) (x_3 : Int32) (x_4 : Int32) (M : zMem) : Prop :=
  ((30 + (8 * (M 0 18))) ≤ x_4 → zbo x_3 ∧ Q x_3 M) ∧ (¬ (30 + (8 * (M 0 18))) ≤ x_4 → (x_3 = 0 → ∀ zx1 : Int32, zx1 = x_4 + 1 → J 0 zx1 M) ∧ (¬ x_3 = 0 → vp_in ((80 * a1) + x_4) 9600 ∧ vp_in ((80 * a2) + x_4) 9600 ∧ (¬ (M 12 (ix ((80 * a1) + x_4))) = (M 12 (ix ((80 * a2) + x_4))) → ∀ zx2 : Int32, zx2 = x_4 + 1 → J 0 zx2 M) ∧ ((M 12 (ix ((80 * a1) + x_4))) = (M 12 (ix ((80 * a2) + x_4))) → ∀ zx3 : Int32, zx3 = x_4 + 1 → J 1 zx3 M)))
def wp_Model_areSame (a1 : Int32) (a2 : Int32) (M : zMem) (Q : Int32 → zMem → Prop) : Prop :=
  ∃ n : Nat, zlp2 (wpB_Model_areSame_5 a1 a2   Q) n 1 0 M
set_option maxHeartbeats 4000000 in
set_option maxRecDepth 20000 in
theorem c_Model_areSame {l : Launch} {w : zWd} {a1 : Int32} {a2 : Int32} {M : zMem} {post : Int32 → zMem → Prop} (h0 : zI_Model w) (h : wp_Model_areSame a1 a2 M post) : zMi l ⟨"HandToHandModel", "areSame", "(II)Z"⟩ prog_13_method_60_code 5 (Option.some .boolean) 0 0 w [.ref (zad w 0), .int a1, .int a2] M post := by
  refine zMet (by decide) (Nat.le_of_ble_eq_true rfl) ?_
  intro p e s m below meth c X hr hlk hml hW ls hl
  have hx := X.1
  have hb := X.2.1
  have hl : lv_has ls 5 [(0, .ref (zad w 0)), (1, .int a1), (2, .int a2)] := hl
  have zL_5 :  ∀ (n : Nat) (x_3 : Int32) (x_4 : Int32) (M : zMem) (H : Heap) (locs : List Loc) (ls : Array Slot), zWo w s.heap M H locs → lv_has ls 5 [(0, .ref (zad w 0)), (1, .int a1), (2, .int a2), (3, .int x_3), (4, .int x_4)] → zlp2 (wpB_Model_areSame_5 a1 a2   post) n x_3 x_4 M → W p l e (zRm 0 0) s m ([.ref (zad w 0), .int a1, .int a2] : List Value).toArray below meth c H locs 0 0 (MQ below (va_Qi post (zB w) (zA w)) ([.ref (zad w 0), .int a1, .int a2] : List Value).toArray s 0 0 (zA w)) (F0 m 5 ls []) := by
    intro n
    induction n with
    | zero => intro x_3 x_4 M H locs ls hW hl h; exact h.elim
    | succ n zJ =>
      intro x_3 x_4 M H locs ls hW hl h
      have h : wpB_Model_areSame_5 a1 a2   post (zlp2 (wpB_Model_areSame_5 a1 a2   post) n) x_3 x_4 M := h
      unfold wpB_Model_areSame_5 at h
      refine lv_iload hx hb dX11_areSame_5 (lv_at hl 4 rfl) ?_
      refine lv_bipush hx hb dX11_areSame_7 zc_b30 ?_
      refine lv_bipush hx hb dX11_areSame_9 zc_b8 ?_
      refine lv_aload_n hx hb dX11_areSame_11 rfl (lv_at hl 0 rfl) ?_
      refine zg_Model_many X hW h0 zu_1038 dX11_areSame_12 ?_
      refine lv_imul hx hb dX11_areSame_15 ?_
      refine lv_iadd hx hb dX11_areSame_16 ?_
      refine lv_icmp_ge (tgt := 63) hx hb dX11_areSame_17 rfl (fun c => ?_) (fun c => ?_)
      · replace h := h.1 c
        refine lv_iload_n hx hb dX11_areSame_63 rfl (lv_at hl 3 rfl) ?_
        exact zretz X hr hlk hW (zbo_n h.1) h.2 dX11_areSame_64
      · replace h := h.2 c
        refine lv_iload_n hx hb dX11_areSame_20 rfl (lv_at hl 3 rfl) ?_
        refine lv_if_eq (tgt := 55) hx hb dX11_areSame_21 rfl (fun c => ?_) (fun c => ?_)
        · replace h := h.1 c
          refine lv_iconst hx hb dX11_areSame_55 zc_i0 ?_
          refine lv_istore_n (lv' := [(3, .int 0), (0, .ref (zad w 0)), (1, .int a1), (2, .int a2), (4, .int x_4)]) hx hb dX11_areSame_56 rfl hl (Nat.le_of_ble_eq_true rfl) rfl (fun ls hl => ?_)
          obtain ⟨zx1, ezx1⟩ : ∃ y : Int32, y = x_4 + 1 := ⟨_, rfl⟩
          replace h := h zx1 ezx1
          refine lv_iinc (v := zx1) (lv' := [(4, .int zx1), (3, .int 0), (0, .ref (zad w 0)), (1, .int a1), (2, .int a2)]) hx hb dX11_areSame_57 hl (k := 4) rfl (by rw [ezx1, zc_i1]) (Nat.le_of_ble_eq_true rfl) rfl (fun ls hl => ?_)
          refine lv_goto (tgt := 5) hx hb dX11_areSame_60 rfl ?_
          exact zJ 0 zx1 M H locs ls hW (lv_sub hl [2, 3, 4, 1, 0] rfl) h
        · replace h := h.2 c
          refine lv_aload_n hx hb dX11_areSame_24 rfl (lv_at hl 0 rfl) ?_
          refine zg_Model_seen X hW h0 zu_1045 dX11_areSame_25 ?_
          refine lv_bipush hx hb dX11_areSame_28 zc_b80 ?_
          refine lv_iload_n hx hb dX11_areSame_30 rfl (lv_at hl 1 rfl) ?_
          refine lv_imul hx hb dX11_areSame_31 ?_
          refine lv_iload hx hb dX11_areSame_32 (lv_at hl 4 rfl) ?_
          refine lv_iadd hx hb dX11_areSame_34 ?_
          obtain ⟨g, h⟩ := h
          refine ziald X hW h0.2.2.2.2.2.2.2.2.2.2.2.1 g dX11_areSame_35 ?_
          refine lv_aload_n hx hb dX11_areSame_36 rfl (lv_at hl 0 rfl) ?_
          refine zg_Model_seen X hW h0 zu_1045 dX11_areSame_37 ?_
          refine lv_bipush hx hb dX11_areSame_40 zc_b80 ?_
          refine lv_iload_n hx hb dX11_areSame_42 rfl (lv_at hl 2 rfl) ?_
          refine lv_imul hx hb dX11_areSame_43 ?_
          refine lv_iload hx hb dX11_areSame_44 (lv_at hl 4 rfl) ?_
          refine lv_iadd hx hb dX11_areSame_46 ?_
          obtain ⟨g, h⟩ := h
          refine ziald X hW h0.2.2.2.2.2.2.2.2.2.2.2.1 g dX11_areSame_47 ?_
          refine lv_icmp_ne (tgt := 55) hx hb dX11_areSame_48 rfl (fun c => ?_) (fun c => ?_)
          · replace h := h.1 c
            refine lv_iconst hx hb dX11_areSame_55 zc_i0 ?_
            refine lv_istore_n (lv' := [(3, .int 0), (0, .ref (zad w 0)), (1, .int a1), (2, .int a2), (4, .int x_4)]) hx hb dX11_areSame_56 rfl hl (Nat.le_of_ble_eq_true rfl) rfl (fun ls hl => ?_)
            obtain ⟨zx2, ezx2⟩ : ∃ y : Int32, y = x_4 + 1 := ⟨_, rfl⟩
            replace h := h zx2 ezx2
            refine lv_iinc (v := zx2) (lv' := [(4, .int zx2), (3, .int 0), (0, .ref (zad w 0)), (1, .int a1), (2, .int a2)]) hx hb dX11_areSame_57 hl (k := 4) rfl (by rw [ezx2, zc_i1]) (Nat.le_of_ble_eq_true rfl) rfl (fun ls hl => ?_)
            refine lv_goto (tgt := 5) hx hb dX11_areSame_60 rfl ?_
            exact zJ 0 zx2 M H locs ls hW (lv_sub hl [2, 3, 4, 1, 0] rfl) h
          · replace h := h.2 c
            refine lv_iconst hx hb dX11_areSame_51 zc_i1 ?_
            refine lv_goto (tgt := 56) hx hb dX11_areSame_52 rfl ?_
            refine lv_istore_n (lv' := [(3, .int 1), (0, .ref (zad w 0)), (1, .int a1), (2, .int a2), (4, .int x_4)]) hx hb dX11_areSame_56 rfl hl (Nat.le_of_ble_eq_true rfl) rfl (fun ls hl => ?_)
            obtain ⟨zx3, ezx3⟩ : ∃ y : Int32, y = x_4 + 1 := ⟨_, rfl⟩
            replace h := h zx3 ezx3
            refine lv_iinc (v := zx3) (lv' := [(4, .int zx3), (3, .int 1), (0, .ref (zad w 0)), (1, .int a1), (2, .int a2)]) hx hb dX11_areSame_57 hl (k := 4) rfl (by rw [ezx3, zc_i1]) (Nat.le_of_ble_eq_true rfl) rfl (fun ls hl => ?_)
            refine lv_goto (tgt := 5) hx hb dX11_areSame_60 rfl ?_
            exact zJ 1 zx3 M H locs ls hW (lv_sub hl [2, 3, 4, 1, 0] rfl) h
  unfold wp_Model_areSame at h
  have zMain : ∀ (H : Heap) (locs : List Loc) (ls : Array Slot), zWo w s.heap M H locs → lv_has ls 5 [(0, .ref (zad w 0)), (1, .int a1), (2, .int a2)] → W p l e (zRm 0 0) s m ([.ref (zad w 0), .int a1, .int a2] : List Value).toArray below meth c H locs 0 0 (MQ below (va_Qi post (zB w) (zA w)) ([.ref (zad w 0), .int a1, .int a2] : List Value).toArray s 0 0 (zA w)) (F0 m 0 ls []) := by
    intro H locs ls hW hl
    refine lv_iconst hx hb dX11_areSame_0 zc_i1 ?_
    refine lv_istore_n (lv' := [(3, .int 1), (0, .ref (zad w 0)), (1, .int a1), (2, .int a2)]) hx hb dX11_areSame_1 rfl hl (Nat.le_of_ble_eq_true rfl) rfl (fun ls hl => ?_)
    refine lv_iconst hx hb dX11_areSame_2 zc_i0 ?_
    refine lv_istore (lv' := [(4, .int 0), (3, .int 1), (0, .ref (zad w 0)), (1, .int a1), (2, .int a2)]) hx hb dX11_areSame_3 hl (Nat.le_of_ble_eq_true rfl) rfl (fun ls hl => ?_)
    obtain ⟨n, h⟩ := h
    refine zL_5   n 1 0 M H locs ls hW (lv_sub hl [2, 3, 4, 1, 0] rfl) h
  exact zMain s.heap [] ls hW hl
def wpB_Model_earlier_2    (Q : Int32 → zMem → Prop) (J : Int32 → zMem → Prop) (x_1 : Int32) (M : zMem) : Prop :=
  (((M 0 28) - 1) ≤ x_1 → Q ((-4)) M) ∧ (¬ ((M 0 28) - 1) ≤ x_1 → wp_Model_areSame x_1 ((M 0 28) - 1) M (fun zr2 zm1 => (zr2 = 0 → ∀ zx3 : Int32, zx3 = x_1 + 1 → J zx3 zm1) ∧ (¬ zr2 = 0 → Q x_1 zm1)))
def wp_Model_earlier  (M : zMem) (Q : Int32 → zMem → Prop) : Prop :=
  ∃ n : Nat, zlp1 (wpB_Model_earlier_2    Q) n 0 M
set_option maxHeartbeats 4000000 in
set_option maxRecDepth 20000 in
theorem c_Model_earlier {l : Launch} {w : zWd} {M : zMem} {post : Int32 → zMem → Prop} (h0 : zI_Model w) (h : wp_Model_earlier  M post) : zMi l ⟨"HandToHandModel", "earlier", "()I"⟩ prog_13_method_61_code 2 (Option.some .int) 1 24 w [.ref (zad w 0)] M post := by
  refine zMet (by decide) (Nat.le_of_ble_eq_true rfl) ?_
  intro p e s m below meth c X hr hlk hml hW ls hl
  have hx := X.1
  have hb := X.2.1
  have hl : lv_has ls 2 [(0, .ref (zad w 0))] := hl
  have zL_2 :  ∀ (n : Nat) (x_1 : Int32) (M : zMem) (H : Heap) (locs : List Loc) (ls : Array Slot), zWo w s.heap M H locs → lv_has ls 2 [(0, .ref (zad w 0)), (1, .int x_1)] → zlp1 (wpB_Model_earlier_2    post) n x_1 M → W p l e (zRm 1 24) s m ([.ref (zad w 0)] : List Value).toArray below meth c H locs 0 0 (MQ below (va_Qi post (zB w) (zA w)) ([.ref (zad w 0)] : List Value).toArray s 0 0 (zA w)) (F0 m 2 ls []) := by
    intro n
    induction n with
    | zero => intro x_1 M H locs ls hW hl h; exact h.elim
    | succ n zJ =>
      intro x_1 M H locs ls hW hl h
      have h : wpB_Model_earlier_2    post (zlp1 (wpB_Model_earlier_2    post) n) x_1 M := h
      unfold wpB_Model_earlier_2 at h
      refine lv_iload_n hx hb dX11_earlier_2 rfl (lv_at hl 1 rfl) ?_
      refine lv_aload_n hx hb dX11_earlier_3 rfl (lv_at hl 0 rfl) ?_
      refine zg_Model_seenMany X hW h0 zu_1048 dX11_earlier_4 ?_
      refine lv_iconst hx hb dX11_earlier_7 zc_i1 ?_
      refine lv_isub hx hb dX11_earlier_8 ?_
      refine lv_icmp_ge (tgt := 34) hx hb dX11_earlier_9 rfl (fun c => ?_) (fun c => ?_)
      · replace h := h.1 c
        refine lv_bipush hx hb dX11_earlier_34 zc_bm4 ?_
        exact zreti X hr hlk hW h dX11_earlier_36
      · replace h := h.2 c
        refine lv_aload_n hx hb dX11_earlier_12 rfl (lv_at hl 0 rfl) ?_
        refine lv_iload_n hx hb dX11_earlier_13 rfl (lv_at hl 1 rfl) ?_
        refine lv_aload_n hx hb dX11_earlier_14 rfl (lv_at hl 0 rfl) ?_
        refine zg_Model_seenMany X hW h0 zu_1048 dX11_earlier_15 ?_
        refine lv_iconst hx hb dX11_earlier_18 zc_i1 ?_
        refine lv_isub hx hb dX11_earlier_19 ?_
        refine zcalli (zrunV (As := [.int x_1, .int ((M 0 28) - 1)]) (rest := []) X hml hl hW h0.1 rfl zk_Model_262 (c_Model_areSame h0 h) rfl ⟨Nat.le_of_ble_eq_true rfl, Nat.le_of_ble_eq_true rfl⟩ ⟨Nat.le_refl 0, Nat.le_refl 0⟩ rfl (Nat.le_of_ble_eq_true rfl) dX11_earlier_20) hW (fun zr2 zm1 H locs h hW => ?_)
        refine lv_if_eq (tgt := 28) hx hb dX11_earlier_23 rfl (fun c => ?_) (fun c => ?_)
        · replace h := h.1 c
          obtain ⟨zx3, ezx3⟩ : ∃ y : Int32, y = x_1 + 1 := ⟨_, rfl⟩
          replace h := h zx3 ezx3
          refine lv_iinc (v := zx3) (lv' := [(1, .int zx3), (0, .ref (zad w 0))]) hx hb dX11_earlier_28 hl (k := 1) rfl (by rw [ezx3, zc_i1]) (Nat.le_of_ble_eq_true rfl) rfl (fun ls hl => ?_)
          refine lv_goto (tgt := 2) hx hb dX11_earlier_31 rfl ?_
          exact zJ zx3 zm1 H locs ls hW (lv_sub hl [1, 0] rfl) h
        · replace h := h.2 c
          refine lv_iload_n hx hb dX11_earlier_26 rfl (lv_at hl 1 rfl) ?_
          exact zreti X hr hlk hW h dX11_earlier_27
  unfold wp_Model_earlier at h
  have zMain : ∀ (H : Heap) (locs : List Loc) (ls : Array Slot), zWo w s.heap M H locs → lv_has ls 2 [(0, .ref (zad w 0))] → W p l e (zRm 1 24) s m ([.ref (zad w 0)] : List Value).toArray below meth c H locs 0 0 (MQ below (va_Qi post (zB w) (zA w)) ([.ref (zad w 0)] : List Value).toArray s 0 0 (zA w)) (F0 m 0 ls []) := by
    intro H locs ls hW hl
    refine lv_iconst hx hb dX11_earlier_0 zc_i0 ?_
    refine lv_istore_n (lv' := [(1, .int 0), (0, .ref (zad w 0))]) hx hb dX11_earlier_1 rfl hl (Nat.le_of_ble_eq_true rfl) rfl (fun ls hl => ?_)
    obtain ⟨n, h⟩ := h
    refine zL_2   n 0 M H locs ls hW (lv_sub hl [1, 0] rfl) h
  exact zMain s.heap [] ls hW hl
def wpB_Model_runs_7 (a1 : Int32) (a2 : Int32)  (K26 : zMem → Prop) (Q : zMem → Prop) (J : Int32 → zMem → Prop) (x_3 : Int32) (M : zMem) : Prop :=
  (8 ≤ x_3 → K26 M) ∧ (¬ 8 ≤ x_3 → vp_in x_3 8 ∧ ∀ zm3 : zMem, zm3 = zup M 11 (ix x_3) 0 → ∀ zx4 : Int32, zx4 = x_3 + 1 → J zx4 zm3)
def wpB_Model_runs_28 (a1 : Int32) (a2 : Int32)  (K48 : zMem → Prop) (Q : zMem → Prop) (J : Int32 → zMem → Prop) (x_3 : Int32) (M : zMem) : Prop :=
  (9600 ≤ x_3 → K48 M) ∧ (¬ 9600 ≤ x_3 → vp_in x_3 9600 ∧ ∀ zm6 : zMem, zm6 = zup M 12 (ix x_3) 0 → ∀ zx7 : Int32, zx7 = x_3 + 1 → J zx7 zm6)
def wpB_Model_runs_64 (a1 : Int32) (a2 : Int32)   (Q : zMem → Prop) (J : zMem → Prop)  (M : zMem) : Prop :=
  wp_Model_of 1 1 M (fun zr14 zm13 => (a1 ≤ zr14 → Q zm13) ∧ (¬ a1 ≤ zr14 → wp_Model_of 1 3 zm13 (fun zr16 zm15 => (¬ zr16 = 0 → Q zm15) ∧ (zr16 = 0 → wp_Model_of 1 1 zm15 (fun zr18 zm17 => wp_Model_least 1 zm17 (fun zr20 zm19 => wp_Model_pass 1 zr20 zm19 (fun zm21 => wp_Model_settle 1 zm21 (fun zm23 => (a2 = 0 → J zm23) ∧ (¬ a2 = 0 → wp_Model_of 1 1 zm23 (fun zr26 zm25 => (zr26 ≤ zr18 → J zm25) ∧ (¬ zr26 ≤ zr18 → (¬ (zm25 0 29) = (-4) → J zm25) ∧ ((zm25 0 29) = (-4) → wp_Model_laySeen zm25 (fun zm27 => wp_Model_earlier zm27 (fun zr30 zm29 => ∀ zm31 : zMem, zm31 = zup zm29 0 29 zr30 → ∀ zm32 : zMem, zm32 = zup zm31 0 30 ((zm31 0 28) - 1) → J zm32))))))))))))))
def wp_Model_runs (a1 : Int32) (a2 : Int32) (M : zMem) (Q : zMem → Prop) : Prop :=
  wp_Model_clear 1 M (fun zm1 => ∃ n : Nat, zlp1 (wpB_Model_runs_7 a1 a2  (fun (zm5 : zMem) => ∃ n : Nat, zlp1 (wpB_Model_runs_28 a1 a2  (fun (zm8 : zMem) => ∀ zm9 : zMem, zm9 = zup zm8 0 28 0 → ∀ zm10 : zMem, zm10 = zup zm9 0 29 ((-4)) → wp_Model_settle 1 zm10 (fun zm11 => ∃ n : Nat, zlp0 (wpB_Model_runs_64 a1 a2   Q) n  zm11)) Q) n 0 zm5) Q) n 0 zm1)
set_option maxHeartbeats 4000000 in
set_option maxRecDepth 20000 in
theorem c_Model_runs {l : Launch} {w : zWd} {a1 : Int32} {a2 : Int32} {M : zMem} {post : zMem → Prop} (h0 : zI_Model w) (h : wp_Model_runs a1 a2 M post) : zMv l ⟨"HandToHandModel", "runs", "(IZ)V"⟩ prog_13_method_62_code 4 none 7 167 w [.ref (zad w 0), .int a1, .int a2] M post := by
  refine zMet (by decide) (Nat.le_of_ble_eq_true rfl) ?_
  intro p e s m below meth c X hr hlk hml hW ls hl
  have hx := X.1
  have hb := X.2.1
  have hl : lv_has ls 4 [(0, .ref (zad w 0)), (1, .int a1), (2, .int a2)] := hl
  have zL_7 : ∀ (K26 : zMem → Prop) (zK26 : ∀ (M : zMem) (H : Heap) (locs : List Loc) (ls : Array Slot), zWo w s.heap M H locs → lv_has ls 4 [(0, .ref (zad w 0)), (1, .int a1), (2, .int a2)] → K26 M → W p l e (zRm 7 167) s m ([.ref (zad w 0), .int a1, .int a2] : List Value).toArray below meth c H locs 0 0 (MQ below (va_Qv post (zB w) (zA w)) ([.ref (zad w 0), .int a1, .int a2] : List Value).toArray s 0 0 (zA w)) (F0 m 26 ls [])), ∀ (n : Nat) (x_3 : Int32) (M : zMem) (H : Heap) (locs : List Loc) (ls : Array Slot), zWo w s.heap M H locs → lv_has ls 4 [(0, .ref (zad w 0)), (1, .int a1), (2, .int a2), (3, .int x_3)] → zlp1 (wpB_Model_runs_7 a1 a2  K26 post) n x_3 M → W p l e (zRm 7 167) s m ([.ref (zad w 0), .int a1, .int a2] : List Value).toArray below meth c H locs 0 0 (MQ below (va_Qv post (zB w) (zA w)) ([.ref (zad w 0), .int a1, .int a2] : List Value).toArray s 0 0 (zA w)) (F0 m 7 ls []) := by
    intro K26 zK26 n
    induction n with
    | zero => intro x_3 M H locs ls hW hl h; exact h.elim
    | succ n zJ =>
      intro x_3 M H locs ls hW hl h
      have h : wpB_Model_runs_7 a1 a2  K26 post (zlp1 (wpB_Model_runs_7 a1 a2  K26 post) n) x_3 M := h
      unfold wpB_Model_runs_7 at h
      refine lv_iload_n hx hb dX11_runs_7 rfl (lv_at hl 3 rfl) ?_
      refine lv_bipush hx hb dX11_runs_8 zc_b8 ?_
      refine lv_icmp_ge (tgt := 26) hx hb dX11_runs_10 rfl (fun c => ?_) (fun c => ?_)
      · replace h := h.1 c
        exact zK26 M H locs ls hW (lv_sub hl [0, 1, 2] rfl) h
      · replace h := h.2 c
        refine lv_aload_n hx hb dX11_runs_13 rfl (lv_at hl 0 rfl) ?_
        refine zg_Model_stood X hW h0 zu_1043 dX11_runs_14 ?_
        refine lv_iload_n hx hb dX11_runs_17 rfl (lv_at hl 3 rfl) ?_
        refine lv_iconst hx hb dX11_runs_18 zc_i0 ?_
        obtain ⟨g, h⟩ := h
        refine ziast X hW h0.2.2.2.2.2.2.2.2.2.2.1 g dX11_runs_19 (fun H locs zm3 ezm3 hW => ?_)
        replace h := h zm3 ezm3
        obtain ⟨zx4, ezx4⟩ : ∃ y : Int32, y = x_3 + 1 := ⟨_, rfl⟩
        replace h := h zx4 ezx4
        refine lv_iinc (v := zx4) (lv' := [(3, .int zx4), (0, .ref (zad w 0)), (1, .int a1), (2, .int a2)]) hx hb dX11_runs_20 hl (k := 3) rfl (by rw [ezx4, zc_i1]) (Nat.le_of_ble_eq_true rfl) rfl (fun ls hl => ?_)
        refine lv_goto (tgt := 7) hx hb dX11_runs_23 rfl ?_
        exact zJ zx4 zm3 H locs ls hW (lv_sub hl [1, 2, 3, 0] rfl) h
  have zL_28 : ∀ (K48 : zMem → Prop) (zK48 : ∀ (M : zMem) (H : Heap) (locs : List Loc) (ls : Array Slot), zWo w s.heap M H locs → lv_has ls 4 [(0, .ref (zad w 0)), (1, .int a1), (2, .int a2)] → K48 M → W p l e (zRm 7 167) s m ([.ref (zad w 0), .int a1, .int a2] : List Value).toArray below meth c H locs 0 0 (MQ below (va_Qv post (zB w) (zA w)) ([.ref (zad w 0), .int a1, .int a2] : List Value).toArray s 0 0 (zA w)) (F0 m 48 ls [])), ∀ (n : Nat) (x_3 : Int32) (M : zMem) (H : Heap) (locs : List Loc) (ls : Array Slot), zWo w s.heap M H locs → lv_has ls 4 [(0, .ref (zad w 0)), (1, .int a1), (2, .int a2), (3, .int x_3)] → zlp1 (wpB_Model_runs_28 a1 a2  K48 post) n x_3 M → W p l e (zRm 7 167) s m ([.ref (zad w 0), .int a1, .int a2] : List Value).toArray below meth c H locs 0 0 (MQ below (va_Qv post (zB w) (zA w)) ([.ref (zad w 0), .int a1, .int a2] : List Value).toArray s 0 0 (zA w)) (F0 m 28 ls []) := by
    intro K48 zK48 n
    induction n with
    | zero => intro x_3 M H locs ls hW hl h; exact h.elim
    | succ n zJ =>
      intro x_3 M H locs ls hW hl h
      have h : wpB_Model_runs_28 a1 a2  K48 post (zlp1 (wpB_Model_runs_28 a1 a2  K48 post) n) x_3 M := h
      unfold wpB_Model_runs_28 at h
      refine lv_iload_n hx hb dX11_runs_28 rfl (lv_at hl 3 rfl) ?_
      refine lv_sipush hx hb dX11_runs_29 zc_s9600 ?_
      refine lv_icmp_ge (tgt := 48) hx hb dX11_runs_32 rfl (fun c => ?_) (fun c => ?_)
      · replace h := h.1 c
        exact zK48 M H locs ls hW (lv_sub hl [0, 1, 2] rfl) h
      · replace h := h.2 c
        refine lv_aload_n hx hb dX11_runs_35 rfl (lv_at hl 0 rfl) ?_
        refine zg_Model_seen X hW h0 zu_1045 dX11_runs_36 ?_
        refine lv_iload_n hx hb dX11_runs_39 rfl (lv_at hl 3 rfl) ?_
        refine lv_iconst hx hb dX11_runs_40 zc_i0 ?_
        obtain ⟨g, h⟩ := h
        refine ziast X hW h0.2.2.2.2.2.2.2.2.2.2.2.1 g dX11_runs_41 (fun H locs zm6 ezm6 hW => ?_)
        replace h := h zm6 ezm6
        obtain ⟨zx7, ezx7⟩ : ∃ y : Int32, y = x_3 + 1 := ⟨_, rfl⟩
        replace h := h zx7 ezx7
        refine lv_iinc (v := zx7) (lv' := [(3, .int zx7), (0, .ref (zad w 0)), (1, .int a1), (2, .int a2)]) hx hb dX11_runs_42 hl (k := 3) rfl (by rw [ezx7, zc_i1]) (Nat.le_of_ble_eq_true rfl) rfl (fun ls hl => ?_)
        refine lv_goto (tgt := 28) hx hb dX11_runs_45 rfl ?_
        exact zJ zx7 zm6 H locs ls hW (lv_sub hl [1, 2, 3, 0] rfl) h
  have zL_64 :  ∀ (n : Nat) (M : zMem) (H : Heap) (locs : List Loc) (ls : Array Slot), zWo w s.heap M H locs → lv_has ls 4 [(0, .ref (zad w 0)), (1, .int a1), (2, .int a2)] → zlp0 (wpB_Model_runs_64 a1 a2   post) n M → W p l e (zRm 7 167) s m ([.ref (zad w 0), .int a1, .int a2] : List Value).toArray below meth c H locs 0 0 (MQ below (va_Qv post (zB w) (zA w)) ([.ref (zad w 0), .int a1, .int a2] : List Value).toArray s 0 0 (zA w)) (F0 m 64 ls []) := by
    intro n
    induction n with
    | zero => intro M H locs ls hW hl h; exact h.elim
    | succ n zJ =>
      intro M H locs ls hW hl h
      have h : wpB_Model_runs_64 a1 a2   post (zlp0 (wpB_Model_runs_64 a1 a2   post) n) M := h
      unfold wpB_Model_runs_64 at h
      refine lv_aload_n hx hb dX11_runs_64 rfl (lv_at hl 0 rfl) ?_
      refine lv_iconst hx hb dX11_runs_65 zc_i1 ?_
      refine lv_iconst hx hb dX11_runs_66 zc_i1 ?_
      refine zcalli (zrunV (As := [.int 1, .int 1]) (rest := []) X hml hl hW h0.1 rfl zk_Model_218 (c_Model_of h0 h) rfl ⟨Nat.le_of_ble_eq_true rfl, Nat.le_of_ble_eq_true rfl⟩ ⟨Nat.le_refl 0, Nat.le_refl 0⟩ rfl (Nat.le_of_ble_eq_true rfl) dX11_runs_67) hW (fun zr14 zm13 H locs h hW => ?_)
      refine lv_iload_n hx hb dX11_runs_70 rfl (lv_at hl 1 rfl) ?_
      refine lv_icmp_ge (tgt := 153) hx hb dX11_runs_71 rfl (fun c => ?_) (fun c => ?_)
      · replace h := h.1 c
        exact zretv X hr hlk hW h dX11_runs_153
      · replace h := h.2 c
        refine lv_aload_n hx hb dX11_runs_74 rfl (lv_at hl 0 rfl) ?_
        refine lv_iconst hx hb dX11_runs_75 zc_i1 ?_
        refine lv_iconst hx hb dX11_runs_76 zc_i3 ?_
        refine zcalli (zrunV (As := [.int 1, .int 3]) (rest := []) X hml hl hW h0.1 rfl zk_Model_218 (c_Model_of h0 h) rfl ⟨Nat.le_of_ble_eq_true rfl, Nat.le_of_ble_eq_true rfl⟩ ⟨Nat.le_refl 0, Nat.le_refl 0⟩ rfl (Nat.le_of_ble_eq_true rfl) dX11_runs_77) hW (fun zr16 zm15 H locs h hW => ?_)
        refine lv_if_ne (tgt := 153) hx hb dX11_runs_80 rfl (fun c => ?_) (fun c => ?_)
        · replace h := h.1 c
          exact zretv X hr hlk hW h dX11_runs_153
        · replace h := h.2 c
          refine lv_aload_n hx hb dX11_runs_83 rfl (lv_at hl 0 rfl) ?_
          refine lv_iconst hx hb dX11_runs_84 zc_i1 ?_
          refine lv_iconst hx hb dX11_runs_85 zc_i1 ?_
          refine zcalli (zrunV (As := [.int 1, .int 1]) (rest := []) X hml hl hW h0.1 rfl zk_Model_218 (c_Model_of h0 h) rfl ⟨Nat.le_of_ble_eq_true rfl, Nat.le_of_ble_eq_true rfl⟩ ⟨Nat.le_refl 0, Nat.le_refl 0⟩ rfl (Nat.le_of_ble_eq_true rfl) dX11_runs_86) hW (fun zr18 zm17 H locs h hW => ?_)
          refine lv_istore_n (lv' := [(3, .int zr18), (0, .ref (zad w 0)), (1, .int a1), (2, .int a2)]) hx hb dX11_runs_89 rfl hl (Nat.le_of_ble_eq_true rfl) rfl (fun ls hl => ?_)
          refine lv_aload_n hx hb dX11_runs_90 rfl (lv_at hl 1 rfl) ?_
          refine lv_iconst hx hb dX11_runs_91 zc_i1 ?_
          refine lv_aload_n hx hb dX11_runs_92 rfl (lv_at hl 1 rfl) ?_
          refine lv_iconst hx hb dX11_runs_93 zc_i1 ?_
          refine zcalli (zrunV (As := [.int 1]) (rest := [.int 1, .ref (zad w 0)]) X hml hl hW h0.1 rfl zk_Model_237 (c_Model_least h0 h) rfl ⟨Nat.le_of_ble_eq_true rfl, Nat.le_of_ble_eq_true rfl⟩ ⟨Nat.le_refl 0, Nat.le_refl 0⟩ rfl (Nat.le_of_ble_eq_true rfl) dX11_runs_94) hW (fun zr20 zm19 H locs h hW => ?_)
          refine zcallv (zrunV (As := [.int 1, .int zr20]) (rest := []) X hml hl hW h0.1 rfl zk_Model_254 (c_Model_pass h0 h) rfl ⟨Nat.le_of_ble_eq_true rfl, Nat.le_of_ble_eq_true rfl⟩ ⟨Nat.le_refl 0, Nat.le_refl 0⟩ rfl (Nat.le_of_ble_eq_true rfl) dX11_runs_97) hW (fun zm21 H locs h hW => ?_)
          refine lv_aload_n hx hb dX11_runs_100 rfl (lv_at hl 1 rfl) ?_
          refine lv_iconst hx hb dX11_runs_101 zc_i1 ?_
          refine zcallv (zrunV (As := [.int 1]) (rest := []) X hml hl hW h0.1 rfl zk_Model_246 (c_Model_settle h0 h) rfl ⟨Nat.le_of_ble_eq_true rfl, Nat.le_of_ble_eq_true rfl⟩ ⟨Nat.le_refl 0, Nat.le_refl 0⟩ rfl (Nat.le_of_ble_eq_true rfl) dX11_runs_102) hW (fun zm23 H locs h hW => ?_)
          refine lv_iload_n hx hb dX11_runs_105 rfl (lv_at hl 3 rfl) ?_
          refine lv_if_eq (tgt := 150) hx hb dX11_runs_106 rfl (fun c => ?_) (fun c => ?_)
          · replace h := h.1 c
            refine lv_goto (tgt := 64) hx hb dX11_runs_150 rfl ?_
            exact zJ zm23 H locs ls hW (lv_sub hl [1, 2, 3] rfl) h
          · replace h := h.2 c
            refine lv_aload_n hx hb dX11_runs_109 rfl (lv_at hl 1 rfl) ?_
            refine lv_iconst hx hb dX11_runs_110 zc_i1 ?_
            refine lv_iconst hx hb dX11_runs_111 zc_i1 ?_
            refine zcalli (zrunV (As := [.int 1, .int 1]) (rest := []) X hml hl hW h0.1 rfl zk_Model_218 (c_Model_of h0 h) rfl ⟨Nat.le_of_ble_eq_true rfl, Nat.le_of_ble_eq_true rfl⟩ ⟨Nat.le_refl 0, Nat.le_refl 0⟩ rfl (Nat.le_of_ble_eq_true rfl) dX11_runs_112) hW (fun zr26 zm25 H locs h hW => ?_)
            refine lv_iload_n hx hb dX11_runs_115 rfl (lv_at hl 0 rfl) ?_
            refine lv_icmp_le (tgt := 150) hx hb dX11_runs_116 rfl (fun c => ?_) (fun c => ?_)
            · replace h := h.1 c
              refine lv_goto (tgt := 64) hx hb dX11_runs_150 rfl ?_
              exact zJ zm25 H locs ls hW (lv_sub hl [1, 2, 3] rfl) h
            · replace h := h.2 c
              refine lv_aload_n hx hb dX11_runs_119 rfl (lv_at hl 1 rfl) ?_
              refine zg_Model_ringFrom X hW h0 zu_1049 dX11_runs_120 ?_
              refine lv_bipush hx hb dX11_runs_123 zc_bm4 ?_
              refine lv_icmp_ne (tgt := 150) hx hb dX11_runs_125 rfl (fun c => ?_) (fun c => ?_)
              · replace h := h.1 c
                refine lv_goto (tgt := 64) hx hb dX11_runs_150 rfl ?_
                exact zJ zm25 H locs ls hW (lv_sub hl [1, 2, 3] rfl) h
              · replace h := h.2 c
                refine lv_aload_n hx hb dX11_runs_128 rfl (lv_at hl 1 rfl) ?_
                refine zcallv (zrunV (As := []) (rest := []) X hml hl hW h0.1 rfl zk_Model_268 (c_Model_laySeen h0 h) rfl ⟨Nat.le_of_ble_eq_true rfl, Nat.le_of_ble_eq_true rfl⟩ ⟨Nat.le_refl 0, Nat.le_refl 0⟩ rfl (Nat.le_of_ble_eq_true rfl) dX11_runs_129) hW (fun zm27 H locs h hW => ?_)
                refine lv_aload_n hx hb dX11_runs_132 rfl (lv_at hl 1 rfl) ?_
                refine lv_aload_n hx hb dX11_runs_133 rfl (lv_at hl 1 rfl) ?_
                refine zcalli (zrunV (As := []) (rest := [.ref (zad w 0)]) X hml hl hW h0.1 rfl zk_Model_271 (c_Model_earlier h0 h) rfl ⟨Nat.le_of_ble_eq_true rfl, Nat.le_of_ble_eq_true rfl⟩ ⟨Nat.le_refl 0, Nat.le_refl 0⟩ rfl (Nat.le_of_ble_eq_true rfl) dX11_runs_134) hW (fun zr30 zm29 H locs h hW => ?_)
                refine zp_Model_ringFrom X hW h0 zu_1049 dX11_runs_137 (fun H locs zm31 ezm31 hW => ?_)
                replace h := h zm31 ezm31
                refine lv_aload_n hx hb dX11_runs_140 rfl (lv_at hl 1 rfl) ?_
                refine lv_aload_n hx hb dX11_runs_141 rfl (lv_at hl 1 rfl) ?_
                refine zg_Model_seenMany X hW h0 zu_1048 dX11_runs_142 ?_
                refine lv_iconst hx hb dX11_runs_145 zc_i1 ?_
                refine lv_isub hx hb dX11_runs_146 ?_
                refine zp_Model_ringTo X hW h0 zu_1050 dX11_runs_147 (fun H locs zm32 ezm32 hW => ?_)
                replace h := h zm32 ezm32
                refine lv_goto (tgt := 64) hx hb dX11_runs_150 rfl ?_
                exact zJ zm32 H locs ls hW (lv_sub hl [1, 2, 3] rfl) h
  unfold wp_Model_runs at h
  have zMain : ∀ (H : Heap) (locs : List Loc) (ls : Array Slot), zWo w s.heap M H locs → lv_has ls 4 [(0, .ref (zad w 0)), (1, .int a1), (2, .int a2)] → W p l e (zRm 7 167) s m ([.ref (zad w 0), .int a1, .int a2] : List Value).toArray below meth c H locs 0 0 (MQ below (va_Qv post (zB w) (zA w)) ([.ref (zad w 0), .int a1, .int a2] : List Value).toArray s 0 0 (zA w)) (F0 m 0 ls []) := by
    intro H locs ls hW hl
    refine lv_aload_n hx hb dX11_runs_0 rfl (lv_at hl 0 rfl) ?_
    refine lv_iconst hx hb dX11_runs_1 zc_i1 ?_
    refine zcallv (zrunV (As := [.int 1]) (rest := []) X hml hl hW h0.1 rfl zk_Model_249 (c_Model_clear h0 h) rfl ⟨Nat.le_of_ble_eq_true rfl, Nat.le_of_ble_eq_true rfl⟩ ⟨Nat.le_refl 0, Nat.le_refl 0⟩ rfl (Nat.le_of_ble_eq_true rfl) dX11_runs_2) hW (fun zm1 H locs h hW => ?_)
    refine lv_iconst hx hb dX11_runs_5 zc_i0 ?_
    refine lv_istore_n (lv' := [(3, .int 0), (0, .ref (zad w 0)), (1, .int a1), (2, .int a2)]) hx hb dX11_runs_6 rfl hl (Nat.le_of_ble_eq_true rfl) rfl (fun ls hl => ?_)
    obtain ⟨n, h⟩ := h
    refine zL_7  _ (fun  zm5 H locs ls hW hl h => ?_) n 0 zm1 H locs ls hW (lv_sub hl [1, 2, 3, 0] rfl) h
    · skip
      refine lv_iconst hx hb dX11_runs_26 zc_i0 ?_
      refine lv_istore_n (lv' := [(3, .int 0), (0, .ref (zad w 0)), (1, .int a1), (2, .int a2)]) hx hb dX11_runs_27 rfl hl (Nat.le_of_ble_eq_true rfl) rfl (fun ls hl => ?_)
      obtain ⟨n, h⟩ := h
      refine zL_28  _ (fun  zm8 H locs ls hW hl h => ?_) n 0 zm5 H locs ls hW (lv_sub hl [1, 2, 3, 0] rfl) h
      · skip
        refine lv_aload_n hx hb dX11_runs_48 rfl (lv_at hl 0 rfl) ?_
        refine lv_iconst hx hb dX11_runs_49 zc_i0 ?_
        refine zp_Model_seenMany X hW h0 zu_1048 dX11_runs_50 (fun H locs zm9 ezm9 hW => ?_)
        replace h := h zm9 ezm9
        refine lv_aload_n hx hb dX11_runs_53 rfl (lv_at hl 0 rfl) ?_
        refine lv_bipush hx hb dX11_runs_54 zc_bm4 ?_
        refine zp_Model_ringFrom X hW h0 zu_1049 dX11_runs_56 (fun H locs zm10 ezm10 hW => ?_)
        replace h := h zm10 ezm10
        refine lv_aload_n hx hb dX11_runs_59 rfl (lv_at hl 0 rfl) ?_
        refine lv_iconst hx hb dX11_runs_60 zc_i1 ?_
        refine zcallv (zrunV (As := [.int 1]) (rest := []) X hml hl hW h0.1 rfl zk_Model_246 (c_Model_settle h0 h) rfl ⟨Nat.le_of_ble_eq_true rfl, Nat.le_of_ble_eq_true rfl⟩ ⟨Nat.le_refl 0, Nat.le_refl 0⟩ rfl (Nat.le_of_ble_eq_true rfl) dX11_runs_61) hW (fun zm11 H locs h hW => ?_)
        obtain ⟨n, h⟩ := h
        refine zL_64   n  zm11 H locs ls hW (lv_sub hl [0, 1, 2] rfl) h
  exact zMain s.heap [] ls hW hl
def wp_Model_isRun (a1 : Int32) (M : zMem) (Q : Int32 → zMem → Prop) : Prop :=
  wp_Model_in a1.toInt64 1 120 M (fun zr2 zm1 => zbo zr2 ∧ Q zr2 zm1)
set_option maxHeartbeats 4000000 in
set_option maxRecDepth 20000 in
theorem c_Model_isRun {l : Launch} {w : zWd} {a1 : Int32} {M : zMem} {post : Int32 → zMem → Prop}  (h : wp_Model_isRun a1 M post) : zMi l ⟨"HandToHandModel", "isRun", "(I)Z"⟩ prog_13_method_63_code 1 (Option.some .boolean) 1 25 w [.int a1] M post := by
  refine zMet (by decide) (Nat.le_of_ble_eq_true rfl) ?_
  intro p e s m below meth c X hr hlk hml hW ls hl
  have hx := X.1
  have hb := X.2.1
  have hl : lv_has ls 1 [(0, .int a1)] := hl
  unfold wp_Model_isRun at h
  have zMain : ∀ (H : Heap) (locs : List Loc) (ls : Array Slot), zWo w s.heap M H locs → lv_has ls 1 [(0, .int a1)] → W p l e (zRm 1 25) s m ([.int a1] : List Value).toArray below meth c H locs 0 0 (MQ below (va_Qi post (zB w) (zA w)) ([.int a1] : List Value).toArray s 0 0 (zA w)) (F0 m 0 ls []) := by
    intro H locs ls hW hl
    refine lv_iload_n hx hb dX11_isRun_0 rfl (lv_at hl 0 rfl) ?_
    refine lv_i2l hx hb dX11_isRun_1 rfl ?_
    refine lv_lconst hx hb dX11_isRun_2 zc_l1 ?_
    refine lv_ldc2 hx hb X.2.2.1 (X.2.2.2.1 _ zu_1382) dX11_isRun_3 ?_
    refine zcalli (zrunS (As := [.long a1.toInt64, .long 1, .long 120]) (rest := []) X hml hl hW zk_Model_69 (c_Model_in  h) rfl ⟨Nat.le_of_ble_eq_true rfl, Nat.le_of_ble_eq_true rfl⟩ ⟨Nat.le_refl 0, Nat.le_refl 0⟩ rfl (Nat.le_of_ble_eq_true rfl) dX11_isRun_6) hW (fun zr2 zm1 H locs h hW => ?_)
    exact zretz X hr hlk hW (zbo_n h.1) h.2 dX11_isRun_9
  exact zMain s.heap [] ls hW hl
def wpB_Model_run_43 (a1 : Int32) (a2 : Int32) (x_4 : Int32) (x_5 : Int32) (K69 : Int32 → zMem → Prop) (Q : Int32 → zMem → Prop) (J : Int32 → Int32 → zMem → Prop) (x_3 : Int32) (x_6 : Int32) (M : zMem) : Prop :=
  ((M 0 18) ≤ x_6 → K69 x_3 M) ∧ (¬ (M 0 18) ≤ x_6 → wp_Model_at 1 x_6 5 M (fun zr10 zm9 => ∀ zx11 : Int32, zx11 = x_3 + zr10 → ∀ zx12 : Int32, zx12 = x_6 + 1 → J zx11 zx12 zm9))
def wpJ_Model_run_102 (a1 : Int32) (a2 : Int32) (K136 : Int32 → zMem → Prop) (J : Int32 → Int32 → Int32 → zMem → Prop) (Q : Int32 → zMem → Prop) (x_3 : Int32) (x_5 : Int32) (x_6 : Int32) (s_0 : Int32) (M : zMem) : Prop :=
  vp_in x_6 8 ∧ ((M 11 (ix x_6)) ≤ x_5 → ∀ zx15 : Int32, zx15 = x_6 + 1 → J s_0 x_5 zx15 M) ∧ (¬ (M 11 (ix x_6)) ≤ x_5 → vp_in x_6 8 ∧ ∀ zx16 : Int32, zx16 = M 11 (ix x_6) → ∀ zx17 : Int32, zx17 = x_6 + 1 → J s_0 zx16 zx17 M)
def wpB_Model_run_72 (a1 : Int32) (a2 : Int32) (x_3 : Int32) (K136 : Int32 → zMem → Prop) (Q : Int32 → zMem → Prop) (J : Int32 → Int32 → Int32 → zMem → Prop) (x_4 : Int32) (x_5 : Int32) (x_6 : Int32) (M : zMem) : Prop :=
  vp_in 0 100 ∧ ((M 4 (ix 0)) ≤ x_6 → K136 x_4 M) ∧ (¬ (M 4 (ix 0)) ≤ x_6 → vp_in x_6 8 ∧ ((M 11 (ix x_6)) ≤ x_5 → wpJ_Model_run_102 a1 a2 K136 J Q x_3 x_5 x_6 x_4 M) ∧ (¬ (M 11 (ix x_6)) ≤ x_5 → wpJ_Model_run_102 a1 a2 K136 J Q x_3 x_5 x_6 x_6 M))
def wp_Model_run (a1 : Int32) (a2 : Int32) (M : zMem) (Q : Int32 → zMem → Prop) : Prop :=
  wp_Model_isRun a1 M (fun zr2 zm1 => (zr2 = 0 → Q ((-1)) zm1) ∧ (¬ zr2 = 0 → wp_Model_in a2.toInt64 0 5 zm1 (fun zr4 zm3 => (¬ zr4 = 0 → wp_Model_asNumbered zm3 (fun zm5 => wp_Model_runs a1 0 zm5 (fun zm7 => ∃ n : Nat, zlp2 (wpB_Model_run_43 a1 a2 ((-4)) 0 (fun (zx14 : Int32) (zm13 : zMem) => ∃ n : Nat, zlp3 (wpB_Model_run_72 a1 a2 zx14 (fun (zx19 : Int32) (zm18 : zMem) => (4 ≤ a2 → (¬ a2 = 4 → Q zx19 zm18) ∧ (a2 = 4 → Q zx14 zm18)) ∧ (¬ 4 ≤ a2 → wp_Model_of 1 a2 zm18 (fun zr21 zm20 => Q zr21 zm20))) Q) n ((-4)) 0 0 zm13) Q) n 0 0 zm7))) ∧ (zr4 = 0 → Q ((-1)) zm3))))
set_option maxHeartbeats 4000000 in
set_option maxRecDepth 20000 in
theorem c_Model_run {l : Launch} {w : zWd} {a1 : Int32} {a2 : Int32} {M : zMem} {post : Int32 → zMem → Prop} (h0 : zI_Model w) (h : wp_Model_run a1 a2 M post) : zMi l ⟨"HandToHandModel", "run", "(II)I"⟩ prog_13_method_64_code 7 (Option.some .int) 8 190 w [.ref (zad w 0), .int a1, .int a2] M post := by
  refine zMet (by decide) (Nat.le_of_ble_eq_true rfl) ?_
  intro p e s m below meth c X hr hlk hml hW ls hl
  have hx := X.1
  have hb := X.2.1
  have hl : lv_has ls 7 [(0, .ref (zad w 0)), (1, .int a1), (2, .int a2)] := hl
  have zL_43 : ∀ (x_4 : Int32) (x_5 : Int32) (K69 : Int32 → zMem → Prop) (zK69 : ∀ (y_3 : Int32) (M : zMem) (H : Heap) (locs : List Loc) (ls : Array Slot), zWo w s.heap M H locs → lv_has ls 7 [(0, .ref (zad w 0)), (2, .int a2), (3, .int y_3), (4, .int x_4), (5, .int x_5)] → K69 y_3 M → W p l e (zRm 8 190) s m ([.ref (zad w 0), .int a1, .int a2] : List Value).toArray below meth c H locs 0 0 (MQ below (va_Qi post (zB w) (zA w)) ([.ref (zad w 0), .int a1, .int a2] : List Value).toArray s 0 0 (zA w)) (F0 m 69 ls [])), ∀ (n : Nat) (x_3 : Int32) (x_6 : Int32) (M : zMem) (H : Heap) (locs : List Loc) (ls : Array Slot), zWo w s.heap M H locs → lv_has ls 7 [(0, .ref (zad w 0)), (2, .int a2), (3, .int x_3), (4, .int x_4), (5, .int x_5), (6, .int x_6)] → zlp2 (wpB_Model_run_43 a1 a2 x_4 x_5 K69 post) n x_3 x_6 M → W p l e (zRm 8 190) s m ([.ref (zad w 0), .int a1, .int a2] : List Value).toArray below meth c H locs 0 0 (MQ below (va_Qi post (zB w) (zA w)) ([.ref (zad w 0), .int a1, .int a2] : List Value).toArray s 0 0 (zA w)) (F0 m 43 ls []) := by
    intro x_4 x_5 K69 zK69 n
    induction n with
    | zero => intro x_3 x_6 M H locs ls hW hl h; exact h.elim
    | succ n zJ =>
      intro x_3 x_6 M H locs ls hW hl h
      have h : wpB_Model_run_43 a1 a2 x_4 x_5 K69 post (zlp2 (wpB_Model_run_43 a1 a2 x_4 x_5 K69 post) n) x_3 x_6 M := h
      unfold wpB_Model_run_43 at h
      refine lv_iload hx hb dX11_run_43 (lv_at hl 5 rfl) ?_
      refine lv_aload_n hx hb dX11_run_45 rfl (lv_at hl 0 rfl) ?_
      refine zg_Model_many X hW h0 zu_1038 dX11_run_46 ?_
      refine lv_icmp_ge (tgt := 69) hx hb dX11_run_49 rfl (fun c => ?_) (fun c => ?_)
      · replace h := h.1 c
        exact zK69 x_3 M H locs ls hW (lv_sub hl [0, 1, 2, 3, 4] rfl) h
      · replace h := h.2 c
        refine lv_iload_n hx hb dX11_run_52 rfl (lv_at hl 2 rfl) ?_
        refine lv_aload_n hx hb dX11_run_53 rfl (lv_at hl 0 rfl) ?_
        refine lv_iconst hx hb dX11_run_54 zc_i1 ?_
        refine lv_iload hx hb dX11_run_55 (lv_at hl 5 rfl) ?_
        refine lv_iconst hx hb dX11_run_57 zc_i5 ?_
        refine zcalli (zrunV (As := [.int 1, .int x_6, .int 5]) (rest := [.int x_3]) X hml hl hW h0.1 rfl zk_Model_195 (c_Model_at h0 h) rfl ⟨Nat.le_of_ble_eq_true rfl, Nat.le_of_ble_eq_true rfl⟩ ⟨Nat.le_refl 0, Nat.le_refl 0⟩ rfl (Nat.le_of_ble_eq_true rfl) dX11_run_58) hW (fun zr10 zm9 H locs h hW => ?_)
        refine lv_iadd hx hb dX11_run_61 ?_
        refine lv_topi (fun zx11 ezx11 => ?_)
        replace h := h zx11 ezx11
        refine lv_istore_n (lv' := [(3, .int zx11), (0, .ref (zad w 0)), (2, .int a2), (4, .int x_4), (5, .int x_5), (6, .int x_6)]) hx hb dX11_run_62 rfl hl (Nat.le_of_ble_eq_true rfl) rfl (fun ls hl => ?_)
        obtain ⟨zx12, ezx12⟩ : ∃ y : Int32, y = x_6 + 1 := ⟨_, rfl⟩
        replace h := h zx12 ezx12
        refine lv_iinc (v := zx12) (lv' := [(6, .int zx12), (3, .int zx11), (0, .ref (zad w 0)), (2, .int a2), (4, .int x_4), (5, .int x_5)]) hx hb dX11_run_63 hl (k := 5) rfl (by rw [ezx12, zc_i1]) (Nat.le_of_ble_eq_true rfl) rfl (fun ls hl => ?_)
        refine lv_goto (tgt := 43) hx hb dX11_run_66 rfl ?_
        exact zJ zx11 zx12 zm9 H locs ls hW (lv_sub hl [2, 3, 1, 4, 5, 0] rfl) h
  have zJ_102 : ∀ (x_3 : Int32) (x_5 : Int32) (x_6 : Int32) (s_0 : Int32) (K136 : Int32 → zMem → Prop) (zK136 : ∀ (y_4 : Int32) (M : zMem) (H : Heap) (locs : List Loc) (ls : Array Slot), zWo w s.heap M H locs → lv_has ls 7 [(0, .ref (zad w 0)), (2, .int a2), (3, .int x_3), (4, .int y_4)] → K136 y_4 M → W p l e (zRm 8 190) s m ([.ref (zad w 0), .int a1, .int a2] : List Value).toArray below meth c H locs 0 0 (MQ below (va_Qi post (zB w) (zA w)) ([.ref (zad w 0), .int a1, .int a2] : List Value).toArray s 0 0 (zA w)) (F0 m 136 ls [])) (J : Int32 → Int32 → Int32 → zMem → Prop) (zJ : ∀ (y_4 : Int32) (y_5 : Int32) (y_6 : Int32) (M : zMem) (H : Heap) (locs : List Loc) (ls : Array Slot), zWo w s.heap M H locs → lv_has ls 7 [(0, .ref (zad w 0)), (2, .int a2), (3, .int x_3), (4, .int y_4), (5, .int y_5), (6, .int y_6)] → J y_4 y_5 y_6 M → W p l e (zRm 8 190) s m ([.ref (zad w 0), .int a1, .int a2] : List Value).toArray below meth c H locs 0 0 (MQ below (va_Qi post (zB w) (zA w)) ([.ref (zad w 0), .int a1, .int a2] : List Value).toArray s 0 0 (zA w)) (F0 m 72 ls [])) (M : zMem) (H : Heap) (locs : List Loc) (ls : Array Slot), zWo w s.heap M H locs → lv_has ls 7 [(0, .ref (zad w 0)), (2, .int a2), (3, .int x_3), (5, .int x_5), (6, .int x_6)] → wpJ_Model_run_102 a1 a2 K136 J post x_3 x_5 x_6 s_0 M → W p l e (zRm 8 190) s m ([.ref (zad w 0), .int a1, .int a2] : List Value).toArray below meth c H locs 0 0 (MQ below (va_Qi post (zB w) (zA w)) ([.ref (zad w 0), .int a1, .int a2] : List Value).toArray s 0 0 (zA w)) (F0 m 102 ls [.int s_0]) := by
    intro x_3 x_5 x_6 s_0 K136 zK136 J zJ M H locs ls hW hl h
    unfold wpJ_Model_run_102 at h
    refine lv_istore (lv' := [(4, .int s_0), (0, .ref (zad w 0)), (2, .int a2), (3, .int x_3), (5, .int x_5), (6, .int x_6)]) hx hb dX11_run_102 hl (Nat.le_of_ble_eq_true rfl) rfl (fun ls hl => ?_)
    refine lv_aload_n hx hb dX11_run_104 rfl (lv_at hl 1 rfl) ?_
    refine zg_Model_stood X hW h0 zu_1043 dX11_run_105 ?_
    refine lv_iload hx hb dX11_run_108 (lv_at hl 5 rfl) ?_
    obtain ⟨g, h⟩ := h
    refine ziald X hW h0.2.2.2.2.2.2.2.2.2.2.1 g dX11_run_110 ?_
    refine lv_iload hx hb dX11_run_111 (lv_at hl 4 rfl) ?_
    refine lv_icmp_le (tgt := 126) hx hb dX11_run_113 rfl (fun c => ?_) (fun c => ?_)
    · replace h := h.1 c
      refine lv_iload hx hb dX11_run_126 (lv_at hl 4 rfl) ?_
      refine lv_istore (lv' := [(5, .int x_5), (4, .int s_0), (0, .ref (zad w 0)), (2, .int a2), (3, .int x_3), (6, .int x_6)]) hx hb dX11_run_128 hl (Nat.le_of_ble_eq_true rfl) rfl (fun ls hl => ?_)
      obtain ⟨zx15, ezx15⟩ : ∃ y : Int32, y = x_6 + 1 := ⟨_, rfl⟩
      replace h := h zx15 ezx15
      refine lv_iinc (v := zx15) (lv' := [(6, .int zx15), (5, .int x_5), (4, .int s_0), (0, .ref (zad w 0)), (2, .int a2), (3, .int x_3)]) hx hb dX11_run_130 hl (k := 5) rfl (by rw [ezx15, zc_i1]) (Nat.le_of_ble_eq_true rfl) rfl (fun ls hl => ?_)
      refine lv_goto (tgt := 72) hx hb dX11_run_133 rfl ?_
      exact zJ s_0 x_5 zx15 M H locs ls hW (lv_sub hl [3, 4, 5, 2, 1, 0] rfl) h
    · replace h := h.2 c
      refine lv_aload_n hx hb dX11_run_116 rfl (lv_at hl 1 rfl) ?_
      refine zg_Model_stood X hW h0 zu_1043 dX11_run_117 ?_
      refine lv_iload hx hb dX11_run_120 (lv_at hl 5 rfl) ?_
      obtain ⟨g, h⟩ := h
      refine ziald X hW h0.2.2.2.2.2.2.2.2.2.2.1 g dX11_run_122 ?_
      refine lv_goto (tgt := 128) hx hb dX11_run_123 rfl ?_
      refine lv_topi (fun zx16 ezx16 => ?_)
      replace h := h zx16 ezx16
      refine lv_istore (lv' := [(5, .int zx16), (4, .int s_0), (0, .ref (zad w 0)), (2, .int a2), (3, .int x_3), (6, .int x_6)]) hx hb dX11_run_128 hl (Nat.le_of_ble_eq_true rfl) rfl (fun ls hl => ?_)
      obtain ⟨zx17, ezx17⟩ : ∃ y : Int32, y = x_6 + 1 := ⟨_, rfl⟩
      replace h := h zx17 ezx17
      refine lv_iinc (v := zx17) (lv' := [(6, .int zx17), (5, .int zx16), (4, .int s_0), (0, .ref (zad w 0)), (2, .int a2), (3, .int x_3)]) hx hb dX11_run_130 hl (k := 5) rfl (by rw [ezx17, zc_i1]) (Nat.le_of_ble_eq_true rfl) rfl (fun ls hl => ?_)
      refine lv_goto (tgt := 72) hx hb dX11_run_133 rfl ?_
      exact zJ s_0 zx16 zx17 M H locs ls hW (lv_sub hl [3, 4, 5, 2, 1, 0] rfl) h
  have zL_72 : ∀ (x_3 : Int32) (K136 : Int32 → zMem → Prop) (zK136 : ∀ (y_4 : Int32) (M : zMem) (H : Heap) (locs : List Loc) (ls : Array Slot), zWo w s.heap M H locs → lv_has ls 7 [(0, .ref (zad w 0)), (2, .int a2), (3, .int x_3), (4, .int y_4)] → K136 y_4 M → W p l e (zRm 8 190) s m ([.ref (zad w 0), .int a1, .int a2] : List Value).toArray below meth c H locs 0 0 (MQ below (va_Qi post (zB w) (zA w)) ([.ref (zad w 0), .int a1, .int a2] : List Value).toArray s 0 0 (zA w)) (F0 m 136 ls [])), ∀ (n : Nat) (x_4 : Int32) (x_5 : Int32) (x_6 : Int32) (M : zMem) (H : Heap) (locs : List Loc) (ls : Array Slot), zWo w s.heap M H locs → lv_has ls 7 [(0, .ref (zad w 0)), (2, .int a2), (3, .int x_3), (4, .int x_4), (5, .int x_5), (6, .int x_6)] → zlp3 (wpB_Model_run_72 a1 a2 x_3 K136 post) n x_4 x_5 x_6 M → W p l e (zRm 8 190) s m ([.ref (zad w 0), .int a1, .int a2] : List Value).toArray below meth c H locs 0 0 (MQ below (va_Qi post (zB w) (zA w)) ([.ref (zad w 0), .int a1, .int a2] : List Value).toArray s 0 0 (zA w)) (F0 m 72 ls []) := by
    intro x_3 K136 zK136 n
    induction n with
    | zero => intro x_4 x_5 x_6 M H locs ls hW hl h; exact h.elim
    | succ n zJ =>
      intro x_4 x_5 x_6 M H locs ls hW hl h
      have h : wpB_Model_run_72 a1 a2 x_3 K136 post (zlp3 (wpB_Model_run_72 a1 a2 x_3 K136 post) n) x_4 x_5 x_6 M := h
      unfold wpB_Model_run_72 at h
      refine lv_iload hx hb dX11_run_72 (lv_at hl 5 rfl) ?_
      refine lv_aload_n hx hb dX11_run_74 rfl (lv_at hl 0 rfl) ?_
      refine zg_Model_holds X hW h0 zu_1031 dX11_run_75 ?_
      refine lv_iconst hx hb dX11_run_78 zc_i0 ?_
      obtain ⟨g, h⟩ := h
      refine ziald X hW h0.2.2.2.2.1 g dX11_run_79 ?_
      refine lv_icmp_ge (tgt := 136) hx hb dX11_run_80 rfl (fun c => ?_) (fun c => ?_)
      · replace h := h.1 c
        exact zK136 x_4 M H locs ls hW (lv_sub hl [0, 1, 2, 3] rfl) h
      · replace h := h.2 c
        refine lv_aload_n hx hb dX11_run_83 rfl (lv_at hl 0 rfl) ?_
        refine zg_Model_stood X hW h0 zu_1043 dX11_run_84 ?_
        refine lv_iload hx hb dX11_run_87 (lv_at hl 5 rfl) ?_
        obtain ⟨g, h⟩ := h
        refine ziald X hW h0.2.2.2.2.2.2.2.2.2.2.1 g dX11_run_89 ?_
        refine lv_iload hx hb dX11_run_90 (lv_at hl 4 rfl) ?_
        refine lv_icmp_le (tgt := 100) hx hb dX11_run_92 rfl (fun c => ?_) (fun c => ?_)
        · replace h := h.1 c
          refine lv_iload hx hb dX11_run_100 (lv_at hl 3 rfl) ?_
          exact zJ_102 x_3 x_5 x_6 x_4 _ zK136 _ zJ M H locs ls hW (lv_sub hl [0, 1, 2, 4, 5] rfl) h
        · replace h := h.2 c
          refine lv_iload hx hb dX11_run_95 (lv_at hl 5 rfl) ?_
          refine lv_goto (tgt := 102) hx hb dX11_run_97 rfl ?_
          exact zJ_102 x_3 x_5 x_6 x_6 _ zK136 _ zJ M H locs ls hW (lv_sub hl [0, 1, 2, 4, 5] rfl) h
  unfold wp_Model_run at h
  have zMain : ∀ (H : Heap) (locs : List Loc) (ls : Array Slot), zWo w s.heap M H locs → lv_has ls 7 [(0, .ref (zad w 0)), (1, .int a1), (2, .int a2)] → W p l e (zRm 8 190) s m ([.ref (zad w 0), .int a1, .int a2] : List Value).toArray below meth c H locs 0 0 (MQ below (va_Qi post (zB w) (zA w)) ([.ref (zad w 0), .int a1, .int a2] : List Value).toArray s 0 0 (zA w)) (F0 m 0 ls []) := by
    intro H locs ls hW hl
    refine lv_iload_n hx hb dX11_run_0 rfl (lv_at hl 1 rfl) ?_
    refine zcalli (zrunS (As := [.int a1]) (rest := []) X hml hl hW zk_Model_279 (c_Model_isRun  h) rfl ⟨Nat.le_of_ble_eq_true rfl, Nat.le_of_ble_eq_true rfl⟩ ⟨Nat.le_refl 0, Nat.le_refl 0⟩ rfl (Nat.le_of_ble_eq_true rfl) dX11_run_1) hW (fun zr2 zm1 H locs h hW => ?_)
    refine lv_if_eq (tgt := 19) hx hb dX11_run_4 rfl (fun c => ?_) (fun c => ?_)
    · replace h := h.1 c
      refine lv_iconst hx hb dX11_run_19 zc_im1 ?_
      exact zreti X hr hlk hW h dX11_run_20
    · replace h := h.2 c
      refine lv_iload_n hx hb dX11_run_7 rfl (lv_at hl 2 rfl) ?_
      refine lv_i2l hx hb dX11_run_8 rfl ?_
      refine lv_lconst hx hb dX11_run_9 zc_l0 ?_
      refine lv_ldc2 hx hb X.2.2.1 (X.2.2.2.1 _ zu_1358) dX11_run_10 ?_
      refine zcalli (zrunS (As := [.long a2.toInt64, .long 0, .long 5]) (rest := []) X hml hl hW zk_Model_69 (c_Model_in  h) rfl ⟨Nat.le_of_ble_eq_true rfl, Nat.le_of_ble_eq_true rfl⟩ ⟨Nat.le_refl 0, Nat.le_refl 0⟩ rfl (Nat.le_of_ble_eq_true rfl) dX11_run_13) hW (fun zr4 zm3 H locs h hW => ?_)
      refine lv_if_ne (tgt := 21) hx hb dX11_run_16 rfl (fun c => ?_) (fun c => ?_)
      · replace h := h.1 c
        refine lv_aload_n hx hb dX11_run_21 rfl (lv_at hl 0 rfl) ?_
        refine zcallv (zrunV (As := []) (rest := []) X hml hl hW h0.1 rfl zk_Model_243 (c_Model_asNumbered h0 h) rfl ⟨Nat.le_of_ble_eq_true rfl, Nat.le_of_ble_eq_true rfl⟩ ⟨Nat.le_refl 0, Nat.le_refl 0⟩ rfl (Nat.le_of_ble_eq_true rfl) dX11_run_22) hW (fun zm5 H locs h hW => ?_)
        refine lv_aload_n hx hb dX11_run_25 rfl (lv_at hl 0 rfl) ?_
        refine lv_iload_n hx hb dX11_run_26 rfl (lv_at hl 1 rfl) ?_
        refine lv_iconst hx hb dX11_run_27 zc_i0 ?_
        refine zcallv (zrunV (As := [.int a1, .int 0]) (rest := []) X hml hl hW h0.1 rfl zk_Model_282 (c_Model_runs h0 h) rfl ⟨Nat.le_of_ble_eq_true rfl, Nat.le_of_ble_eq_true rfl⟩ ⟨Nat.le_refl 0, Nat.le_refl 0⟩ rfl (Nat.le_of_ble_eq_true rfl) dX11_run_28) hW (fun zm7 H locs h hW => ?_)
        refine lv_iconst hx hb dX11_run_31 zc_i0 ?_
        refine lv_istore_n (lv' := [(3, .int 0), (0, .ref (zad w 0)), (1, .int a1), (2, .int a2)]) hx hb dX11_run_32 rfl hl (Nat.le_of_ble_eq_true rfl) rfl (fun ls hl => ?_)
        refine lv_bipush hx hb dX11_run_33 zc_bm4 ?_
        refine lv_istore (lv' := [(4, .int ((-4))), (3, .int 0), (0, .ref (zad w 0)), (1, .int a1), (2, .int a2)]) hx hb dX11_run_35 hl (Nat.le_of_ble_eq_true rfl) rfl (fun ls hl => ?_)
        refine lv_iconst hx hb dX11_run_37 zc_i0 ?_
        refine lv_istore (lv' := [(5, .int 0), (4, .int ((-4))), (3, .int 0), (0, .ref (zad w 0)), (1, .int a1), (2, .int a2)]) hx hb dX11_run_38 hl (Nat.le_of_ble_eq_true rfl) rfl (fun ls hl => ?_)
        refine lv_iconst hx hb dX11_run_40 zc_i0 ?_
        refine lv_istore (lv' := [(6, .int 0), (5, .int 0), (4, .int ((-4))), (3, .int 0), (0, .ref (zad w 0)), (1, .int a1), (2, .int a2)]) hx hb dX11_run_41 hl (Nat.le_of_ble_eq_true rfl) rfl (fun ls hl => ?_)
        obtain ⟨n, h⟩ := h
        refine zL_43 ((-4)) 0 _ (fun zx14 zm13 H locs ls hW hl h => ?_) n 0 0 zm7 H locs ls hW (lv_sub hl [4, 6, 3, 2, 1, 0] rfl) h
        · skip
          refine lv_iconst hx hb dX11_run_69 zc_i0 ?_
          refine lv_istore (lv' := [(6, .int 0), (0, .ref (zad w 0)), (2, .int a2), (3, .int zx14), (4, .int ((-4))), (5, .int 0)]) hx hb dX11_run_70 hl (Nat.le_of_ble_eq_true rfl) rfl (fun ls hl => ?_)
          obtain ⟨n, h⟩ := h
          refine zL_72 zx14 _ (fun zx19 zm18 H locs ls hW hl h => ?_) n ((-4)) 0 0 zm13 H locs ls hW (lv_sub hl [1, 2, 3, 4, 5, 0] rfl) h
          · skip
            refine lv_iload_n hx hb dX11_run_136 rfl (lv_at hl 1 rfl) ?_
            refine lv_iconst hx hb dX11_run_137 zc_i4 ?_
            refine lv_icmp_ge (tgt := 150) hx hb dX11_run_138 rfl (fun c => ?_) (fun c => ?_)
            · replace h := h.1 c
              refine lv_iload_n hx hb dX11_run_150 rfl (lv_at hl 1 rfl) ?_
              refine lv_iconst hx hb dX11_run_151 zc_i4 ?_
              refine lv_icmp_ne (tgt := 159) hx hb dX11_run_152 rfl (fun c => ?_) (fun c => ?_)
              · replace h := h.1 c
                refine lv_iload hx hb dX11_run_159 (lv_at hl 3 rfl) ?_
                exact zreti X hr hlk hW h dX11_run_161
              · replace h := h.2 c
                refine lv_iload_n hx hb dX11_run_155 rfl (lv_at hl 2 rfl) ?_
                refine lv_goto (tgt := 161) hx hb dX11_run_156 rfl ?_
                exact zreti X hr hlk hW h dX11_run_161
            · replace h := h.2 c
              refine lv_aload_n hx hb dX11_run_141 rfl (lv_at hl 0 rfl) ?_
              refine lv_iconst hx hb dX11_run_142 zc_i1 ?_
              refine lv_iload_n hx hb dX11_run_143 rfl (lv_at hl 1 rfl) ?_
              refine zcalli (zrunV (As := [.int 1, .int a2]) (rest := []) X hml hl hW h0.1 rfl zk_Model_218 (c_Model_of h0 h) rfl ⟨Nat.le_of_ble_eq_true rfl, Nat.le_of_ble_eq_true rfl⟩ ⟨Nat.le_refl 0, Nat.le_refl 0⟩ rfl (Nat.le_of_ble_eq_true rfl) dX11_run_144) hW (fun zr21 zm20 H locs h hW => ?_)
              refine lv_goto (tgt := 161) hx hb dX11_run_147 rfl ?_
              exact zreti X hr hlk hW h dX11_run_161
      · replace h := h.2 c
        refine lv_iconst hx hb dX11_run_19 zc_im1 ?_
        exact zreti X hr hlk hW h dX11_run_20
  exact zMain s.heap [] ls hW hl
def wp_Model_waits (a1 : Int32) (a2 : Int32) (M : zMem) (Q : Int32 → zMem → Prop) : Prop :=
  wp_Model_isRun a1 M (fun zr2 zm1 => (zr2 = 0 → Q ((-1)) zm1) ∧ (¬ zr2 = 0 → wp_Model_isHand a2 zm1 (fun zr4 zm3 => (¬ zr4 = 0 → wp_Model_asNumbered zm3 (fun zm5 => wp_Model_runs a1 0 zm5 (fun zm7 => wp_Model_at 1 a2 5 zm7 (fun zr10 zm9 => Q zr10 zm9)))) ∧ (zr4 = 0 → Q ((-1)) zm3))))
set_option maxHeartbeats 4000000 in
set_option maxRecDepth 20000 in
theorem c_Model_waits {l : Launch} {w : zWd} {a1 : Int32} {a2 : Int32} {M : zMem} {post : Int32 → zMem → Prop} (h0 : zI_Model w) (h : wp_Model_waits a1 a2 M post) : zMi l ⟨"HandToHandModel", "waits", "(II)I"⟩ prog_13_method_65_code 3 (Option.some .int) 8 190 w [.ref (zad w 0), .int a1, .int a2] M post := by
  refine zMet (by decide) (Nat.le_of_ble_eq_true rfl) ?_
  intro p e s m below meth c X hr hlk hml hW ls hl
  have hx := X.1
  have hb := X.2.1
  have hl : lv_has ls 3 [(0, .ref (zad w 0)), (1, .int a1), (2, .int a2)] := hl
  unfold wp_Model_waits at h
  have zMain : ∀ (H : Heap) (locs : List Loc) (ls : Array Slot), zWo w s.heap M H locs → lv_has ls 3 [(0, .ref (zad w 0)), (1, .int a1), (2, .int a2)] → W p l e (zRm 8 190) s m ([.ref (zad w 0), .int a1, .int a2] : List Value).toArray below meth c H locs 0 0 (MQ below (va_Qi post (zB w) (zA w)) ([.ref (zad w 0), .int a1, .int a2] : List Value).toArray s 0 0 (zA w)) (F0 m 0 ls []) := by
    intro H locs ls hW hl
    refine lv_iload_n hx hb dX11_waits_0 rfl (lv_at hl 1 rfl) ?_
    refine zcalli (zrunS (As := [.int a1]) (rest := []) X hml hl hW zk_Model_279 (c_Model_isRun  h) rfl ⟨Nat.le_of_ble_eq_true rfl, Nat.le_of_ble_eq_true rfl⟩ ⟨Nat.le_refl 0, Nat.le_refl 0⟩ rfl (Nat.le_of_ble_eq_true rfl) dX11_waits_1) hW (fun zr2 zm1 H locs h hW => ?_)
    refine lv_if_eq (tgt := 15) hx hb dX11_waits_4 rfl (fun c => ?_) (fun c => ?_)
    · replace h := h.1 c
      refine lv_iconst hx hb dX11_waits_15 zc_im1 ?_
      exact zreti X hr hlk hW h dX11_waits_16
    · replace h := h.2 c
      refine lv_aload_n hx hb dX11_waits_7 rfl (lv_at hl 0 rfl) ?_
      refine lv_iload_n hx hb dX11_waits_8 rfl (lv_at hl 2 rfl) ?_
      refine zcalli (zrunV (As := [.int a2]) (rest := []) X hml hl hW h0.1 rfl zk_Model_166 (c_Model_isHand h0 h) rfl ⟨Nat.le_of_ble_eq_true rfl, Nat.le_of_ble_eq_true rfl⟩ ⟨Nat.le_refl 0, Nat.le_refl 0⟩ rfl (Nat.le_of_ble_eq_true rfl) dX11_waits_9) hW (fun zr4 zm3 H locs h hW => ?_)
      refine lv_if_ne (tgt := 17) hx hb dX11_waits_12 rfl (fun c => ?_) (fun c => ?_)
      · replace h := h.1 c
        refine lv_aload_n hx hb dX11_waits_17 rfl (lv_at hl 0 rfl) ?_
        refine zcallv (zrunV (As := []) (rest := []) X hml hl hW h0.1 rfl zk_Model_243 (c_Model_asNumbered h0 h) rfl ⟨Nat.le_of_ble_eq_true rfl, Nat.le_of_ble_eq_true rfl⟩ ⟨Nat.le_refl 0, Nat.le_refl 0⟩ rfl (Nat.le_of_ble_eq_true rfl) dX11_waits_18) hW (fun zm5 H locs h hW => ?_)
        refine lv_aload_n hx hb dX11_waits_21 rfl (lv_at hl 0 rfl) ?_
        refine lv_iload_n hx hb dX11_waits_22 rfl (lv_at hl 1 rfl) ?_
        refine lv_iconst hx hb dX11_waits_23 zc_i0 ?_
        refine zcallv (zrunV (As := [.int a1, .int 0]) (rest := []) X hml hl hW h0.1 rfl zk_Model_282 (c_Model_runs h0 h) rfl ⟨Nat.le_of_ble_eq_true rfl, Nat.le_of_ble_eq_true rfl⟩ ⟨Nat.le_refl 0, Nat.le_refl 0⟩ rfl (Nat.le_of_ble_eq_true rfl) dX11_waits_24) hW (fun zm7 H locs h hW => ?_)
        refine lv_aload_n hx hb dX11_waits_27 rfl (lv_at hl 0 rfl) ?_
        refine lv_iconst hx hb dX11_waits_28 zc_i1 ?_
        refine lv_iload_n hx hb dX11_waits_29 rfl (lv_at hl 2 rfl) ?_
        refine lv_iconst hx hb dX11_waits_30 zc_i5 ?_
        refine zcalli (zrunV (As := [.int 1, .int a2, .int 5]) (rest := []) X hml hl hW h0.1 rfl zk_Model_195 (c_Model_at h0 h) rfl ⟨Nat.le_of_ble_eq_true rfl, Nat.le_of_ble_eq_true rfl⟩ ⟨Nat.le_refl 0, Nat.le_refl 0⟩ rfl (Nat.le_of_ble_eq_true rfl) dX11_waits_31) hW (fun zr10 zm9 H locs h hW => ?_)
        exact zreti X hr hlk hW h dX11_waits_34
      · replace h := h.2 c
        refine lv_iconst hx hb dX11_waits_15 zc_im1 ?_
        exact zreti X hr hlk hW h dX11_waits_16
  exact zMain s.heap [] ls hW hl
def wp_Model_oversKept  (M : zMem) (Q : Int32 → zMem → Prop) : Prop :=
  wp_Model_of 1 2 M (fun zr2 zm1 => (600 ≤ zr2 → Q 600 zm1) ∧ (¬ 600 ≤ zr2 → wp_Model_of 1 2 zm1 (fun zr4 zm3 => Q zr4 zm3)))
set_option maxHeartbeats 4000000 in
set_option maxRecDepth 20000 in
theorem c_Model_oversKept {l : Launch} {w : zWd} {M : zMem} {post : Int32 → zMem → Prop} (h0 : zI_Model w) (h : wp_Model_oversKept  M post) : zMi l ⟨"HandToHandModel", "oversKept", "()I"⟩ prog_13_method_66_code 1 (Option.some .int) 1 22 w [.ref (zad w 0)] M post := by
  refine zMet (by decide) (Nat.le_of_ble_eq_true rfl) ?_
  intro p e s m below meth c X hr hlk hml hW ls hl
  have hx := X.1
  have hb := X.2.1
  have hl : lv_has ls 1 [(0, .ref (zad w 0))] := hl
  unfold wp_Model_oversKept at h
  have zMain : ∀ (H : Heap) (locs : List Loc) (ls : Array Slot), zWo w s.heap M H locs → lv_has ls 1 [(0, .ref (zad w 0))] → W p l e (zRm 1 22) s m ([.ref (zad w 0)] : List Value).toArray below meth c H locs 0 0 (MQ below (va_Qi post (zB w) (zA w)) ([.ref (zad w 0)] : List Value).toArray s 0 0 (zA w)) (F0 m 0 ls []) := by
    intro H locs ls hW hl
    refine lv_aload_n hx hb dX11_oversKept_0 rfl (lv_at hl 0 rfl) ?_
    refine lv_iconst hx hb dX11_oversKept_1 zc_i1 ?_
    refine lv_iconst hx hb dX11_oversKept_2 zc_i2 ?_
    refine zcalli (zrunV (As := [.int 1, .int 2]) (rest := []) X hml hl hW h0.1 rfl zk_Model_218 (c_Model_of h0 h) rfl ⟨Nat.le_of_ble_eq_true rfl, Nat.le_of_ble_eq_true rfl⟩ ⟨Nat.le_refl 0, Nat.le_refl 0⟩ rfl (Nat.le_of_ble_eq_true rfl) dX11_oversKept_3) hW (fun zr2 zm1 H locs h hW => ?_)
    refine lv_sipush hx hb dX11_oversKept_6 zc_s600 ?_
    refine lv_icmp_ge (tgt := 21) hx hb dX11_oversKept_9 rfl (fun c => ?_) (fun c => ?_)
    · replace h := h.1 c
      refine lv_sipush hx hb dX11_oversKept_21 zc_s600 ?_
      exact zreti X hr hlk hW h dX11_oversKept_24
    · replace h := h.2 c
      refine lv_aload_n hx hb dX11_oversKept_12 rfl (lv_at hl 0 rfl) ?_
      refine lv_iconst hx hb dX11_oversKept_13 zc_i1 ?_
      refine lv_iconst hx hb dX11_oversKept_14 zc_i2 ?_
      refine zcalli (zrunV (As := [.int 1, .int 2]) (rest := []) X hml hl hW h0.1 rfl zk_Model_218 (c_Model_of h0 h) rfl ⟨Nat.le_of_ble_eq_true rfl, Nat.le_of_ble_eq_true rfl⟩ ⟨Nat.le_refl 0, Nat.le_refl 0⟩ rfl (Nat.le_of_ble_eq_true rfl) dX11_oversKept_15) hW (fun zr4 zm3 H locs h hW => ?_)
      refine lv_goto (tgt := 24) hx hb dX11_oversKept_18 rfl ?_
      exact zreti X hr hlk hW h dX11_oversKept_24
  exact zMain s.heap [] ls hW hl
def wp_Model_over (a1 : Int32) (a2 : Int32) (a3 : Int32) (M : zMem) (Q : Int32 → zMem → Prop) : Prop :=
  wp_Model_isRun a1 M (fun zr2 zm1 => (zr2 = 0 → Q ((-1)) zm1) ∧ (¬ zr2 = 0 → (a2 < 0 → Q ((-1)) zm1) ∧ (¬ a2 < 0 → wp_Model_in a3.toInt64 0 4 zm1 (fun zr4 zm3 => (¬ zr4 = 0 → wp_Model_asNumbered zm3 (fun zm5 => wp_Model_runs a1 0 zm5 (fun zm7 => wp_Model_oversKept zm7 (fun zr10 zm9 => (zr10 ≤ a2 → Q ((-1)) zm9) ∧ (¬ zr10 ≤ a2 → vp_in ((5 * a2) + a3) 3000 ∧ Q (zm9 10 (ix ((5 * a2) + a3))) zm9))))) ∧ (zr4 = 0 → Q ((-1)) zm3)))))
set_option maxHeartbeats 4000000 in
set_option maxRecDepth 20000 in
theorem c_Model_over {l : Launch} {w : zWd} {a1 : Int32} {a2 : Int32} {a3 : Int32} {M : zMem} {post : Int32 → zMem → Prop} (h0 : zI_Model w) (h : wp_Model_over a1 a2 a3 M post) : zMi l ⟨"HandToHandModel", "over", "(III)I"⟩ prog_13_method_67_code 4 (Option.some .int) 8 190 w [.ref (zad w 0), .int a1, .int a2, .int a3] M post := by
  refine zMet (by decide) (Nat.le_of_ble_eq_true rfl) ?_
  intro p e s m below meth c X hr hlk hml hW ls hl
  have hx := X.1
  have hb := X.2.1
  have hl : lv_has ls 4 [(0, .ref (zad w 0)), (1, .int a1), (2, .int a2), (3, .int a3)] := hl
  unfold wp_Model_over at h
  have zMain : ∀ (H : Heap) (locs : List Loc) (ls : Array Slot), zWo w s.heap M H locs → lv_has ls 4 [(0, .ref (zad w 0)), (1, .int a1), (2, .int a2), (3, .int a3)] → W p l e (zRm 8 190) s m ([.ref (zad w 0), .int a1, .int a2, .int a3] : List Value).toArray below meth c H locs 0 0 (MQ below (va_Qi post (zB w) (zA w)) ([.ref (zad w 0), .int a1, .int a2, .int a3] : List Value).toArray s 0 0 (zA w)) (F0 m 0 ls []) := by
    intro H locs ls hW hl
    refine lv_iload_n hx hb dX11_over_0 rfl (lv_at hl 1 rfl) ?_
    refine zcalli (zrunS (As := [.int a1]) (rest := []) X hml hl hW zk_Model_279 (c_Model_isRun  h) rfl ⟨Nat.le_of_ble_eq_true rfl, Nat.le_of_ble_eq_true rfl⟩ ⟨Nat.le_refl 0, Nat.le_refl 0⟩ rfl (Nat.le_of_ble_eq_true rfl) dX11_over_1) hW (fun zr2 zm1 H locs h hW => ?_)
    refine lv_if_eq (tgt := 23) hx hb dX11_over_4 rfl (fun c => ?_) (fun c => ?_)
    · replace h := h.1 c
      refine lv_iconst hx hb dX11_over_23 zc_im1 ?_
      exact zreti X hr hlk hW h dX11_over_24
    · replace h := h.2 c
      refine lv_iload_n hx hb dX11_over_7 rfl (lv_at hl 2 rfl) ?_
      refine lv_if_lt (tgt := 23) hx hb dX11_over_8 rfl (fun c => ?_) (fun c => ?_)
      · replace h := h.1 c
        refine lv_iconst hx hb dX11_over_23 zc_im1 ?_
        exact zreti X hr hlk hW h dX11_over_24
      · replace h := h.2 c
        refine lv_iload_n hx hb dX11_over_11 rfl (lv_at hl 3 rfl) ?_
        refine lv_i2l hx hb dX11_over_12 rfl ?_
        refine lv_lconst hx hb dX11_over_13 zc_l0 ?_
        refine lv_ldc2 hx hb X.2.2.1 (X.2.2.2.1 _ zu_1249) dX11_over_14 ?_
        refine zcalli (zrunS (As := [.long a3.toInt64, .long 0, .long 4]) (rest := []) X hml hl hW zk_Model_69 (c_Model_in  h) rfl ⟨Nat.le_of_ble_eq_true rfl, Nat.le_of_ble_eq_true rfl⟩ ⟨Nat.le_refl 0, Nat.le_refl 0⟩ rfl (Nat.le_of_ble_eq_true rfl) dX11_over_17) hW (fun zr4 zm3 H locs h hW => ?_)
        refine lv_if_ne (tgt := 25) hx hb dX11_over_20 rfl (fun c => ?_) (fun c => ?_)
        · replace h := h.1 c
          refine lv_aload_n hx hb dX11_over_25 rfl (lv_at hl 0 rfl) ?_
          refine zcallv (zrunV (As := []) (rest := []) X hml hl hW h0.1 rfl zk_Model_243 (c_Model_asNumbered h0 h) rfl ⟨Nat.le_of_ble_eq_true rfl, Nat.le_of_ble_eq_true rfl⟩ ⟨Nat.le_refl 0, Nat.le_refl 0⟩ rfl (Nat.le_of_ble_eq_true rfl) dX11_over_26) hW (fun zm5 H locs h hW => ?_)
          refine lv_aload_n hx hb dX11_over_29 rfl (lv_at hl 0 rfl) ?_
          refine lv_iload_n hx hb dX11_over_30 rfl (lv_at hl 1 rfl) ?_
          refine lv_iconst hx hb dX11_over_31 zc_i0 ?_
          refine zcallv (zrunV (As := [.int a1, .int 0]) (rest := []) X hml hl hW h0.1 rfl zk_Model_282 (c_Model_runs h0 h) rfl ⟨Nat.le_of_ble_eq_true rfl, Nat.le_of_ble_eq_true rfl⟩ ⟨Nat.le_refl 0, Nat.le_refl 0⟩ rfl (Nat.le_of_ble_eq_true rfl) dX11_over_32) hW (fun zm7 H locs h hW => ?_)
          refine lv_iload_n hx hb dX11_over_35 rfl (lv_at hl 2 rfl) ?_
          refine lv_aload_n hx hb dX11_over_36 rfl (lv_at hl 0 rfl) ?_
          refine zcalli (zrunV (As := []) (rest := [.int a2]) X hml hl hW h0.1 rfl zk_Model_286 (c_Model_oversKept h0 h) rfl ⟨Nat.le_of_ble_eq_true rfl, Nat.le_of_ble_eq_true rfl⟩ ⟨Nat.le_refl 0, Nat.le_refl 0⟩ rfl (Nat.le_of_ble_eq_true rfl) dX11_over_37) hW (fun zr10 zm9 H locs h hW => ?_)
          refine lv_icmp_ge (tgt := 56) hx hb dX11_over_40 rfl (fun c => ?_) (fun c => ?_)
          · replace h := h.1 c
            refine lv_iconst hx hb dX11_over_56 zc_im1 ?_
            exact zreti X hr hlk hW h dX11_over_57
          · replace h := h.2 c
            refine lv_aload_n hx hb dX11_over_43 rfl (lv_at hl 0 rfl) ?_
            refine zg_Model_overs X hW h0 zu_1042 dX11_over_44 ?_
            refine lv_iconst hx hb dX11_over_47 zc_i5 ?_
            refine lv_iload_n hx hb dX11_over_48 rfl (lv_at hl 2 rfl) ?_
            refine lv_imul hx hb dX11_over_49 ?_
            refine lv_iload_n hx hb dX11_over_50 rfl (lv_at hl 3 rfl) ?_
            refine lv_iadd hx hb dX11_over_51 ?_
            obtain ⟨g, h⟩ := h
            refine ziald X hW h0.2.2.2.2.2.2.2.2.2.1 g dX11_over_52 ?_
            refine lv_goto (tgt := 57) hx hb dX11_over_53 rfl ?_
            exact zreti X hr hlk hW h dX11_over_57
        · replace h := h.2 c
          refine lv_iconst hx hb dX11_over_23 zc_im1 ?_
          exact zreti X hr hlk hW h dX11_over_24
  exact zMain s.heap [] ls hW hl
