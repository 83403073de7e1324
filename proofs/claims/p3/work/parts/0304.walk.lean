def wpB_Bench_mostStoodAt_4 (k : Nat)   (Q : Int32 → zMem → Prop) (J : Int32 → Int32 → zMem → Prop) (x_1 : Int32) (x_2 : Int32) (M : zMem) : Prop :=
  ((M (ztc (M k 0)) 0) ≤ x_2 → vp_in x_1 8 ∧ ((M (k + 8) (ix x_1)) ≤ 0 → Q ((-4)) M) ∧ (¬ (M (k + 8) (ix x_1)) ≤ 0 → Q x_1 M)) ∧ (¬ (M (ztc (M k 0)) 0) ≤ x_2 → vp_in x_2 8 ∧ vp_in x_1 8 ∧ ((M (k + 8) (ix x_2)) ≤ (M (k + 8) (ix x_1)) → ∀ zx1 : Int32, zx1 = x_2 + 1 → J x_1 zx1 M) ∧ (¬ (M (k + 8) (ix x_2)) ≤ (M (k + 8) (ix x_1)) → ∀ zx2 : Int32, zx2 = x_2 + 1 → J x_2 zx2 M))
def wp_Bench_mostStoodAt (k : Nat) (M : zMem) (Q : Int32 → zMem → Prop) : Prop :=
  ∃ n : Nat, zlp2 (wpB_Bench_mostStoodAt_4 k   Q) n 0 1 M
set_option maxHeartbeats 4000000 in
set_option maxRecDepth 20000 in
theorem c_Bench_mostStoodAt {l : Launch} {w : zWd} {k : Nat} {M : zMem} {post : Int32 → zMem → Prop} (h0 : zI_Bench w k) (h : wp_Bench_mostStoodAt k M post) : zMi l ⟨"HandToHand$Bench", "mostStoodAt", "()I"⟩ prog_2_method_18_code 3 (Option.some .int) 0 0 w [.ref (zad w k)] M post := by
  refine zMet (by decide) (Nat.le_of_ble_eq_true rfl) ?_
  intro p e s m below meth c X hr hlk hml hW ls hl
  have hx := X.1
  have hb := X.2.1
  have hl : lv_has ls 3 [(0, .ref (zad w k))] := hl
  have zL_4 :  ∀ (n : Nat) (x_1 : Int32) (x_2 : Int32) (M : zMem) (H : Heap) (locs : List Loc) (ls : Array Slot), zWo w s.heap M H locs → lv_has ls 3 [(0, .ref (zad w k)), (1, .int x_1), (2, .int x_2)] → zlp2 (wpB_Bench_mostStoodAt_4 k   post) n x_1 x_2 M → W p l e (zRm 0 0) s m ([.ref (zad w k)] : List Value).toArray below meth c H locs 0 0 (MQ below (va_Qi post (zB w) (zA w)) ([.ref (zad w k)] : List Value).toArray s 0 0 (zA w)) (F0 m 4 ls []) := by
    intro n
    induction n with
    | zero => intro x_1 x_2 M H locs ls hW hl h; exact h.elim
    | succ n zJ =>
      intro x_1 x_2 M H locs ls hW hl h
      have h : wpB_Bench_mostStoodAt_4 k   post (zlp2 (wpB_Bench_mostStoodAt_4 k   post) n) x_1 x_2 M := h
      unfold wpB_Bench_mostStoodAt_4 at h
      refine lv_iload_n hx hb dX0_mostStoodAt_4 rfl (lv_at hl 2 rfl) ?_
      refine lv_aload_n hx hb dX0_mostStoodAt_5 rfl (lv_at hl 0 rfl) ?_
      refine zg_Bench_told X hW h0 zu_160 dX0_mostStoodAt_6 ?_
      refine zg_Told_pieces X hW (h0.2.2.2.2.2.2.2.2.2.1 _) zu_36 dX0_mostStoodAt_9 ?_
      refine lv_icmp_ge (tgt := 38) hx hb dX0_mostStoodAt_12 rfl (fun c => ?_) (fun c => ?_)
      · replace h := h.1 c
        refine lv_aload_n hx hb dX0_mostStoodAt_38 rfl (lv_at hl 0 rfl) ?_
        refine zg_Bench_stood X hW h0 zu_190 dX0_mostStoodAt_39 ?_
        refine lv_iload_n hx hb dX0_mostStoodAt_42 rfl (lv_at hl 1 rfl) ?_
        obtain ⟨g, h⟩ := h
        refine ziald X hW h0.2.2.2.2.2.2.2.2.1 g dX0_mostStoodAt_43 ?_
        refine lv_if_le (tgt := 51) hx hb dX0_mostStoodAt_44 rfl (fun c => ?_) (fun c => ?_)
        · replace h := h.1 c
          refine lv_bipush hx hb dX0_mostStoodAt_51 zc_bm4 ?_
          exact zreti X hr hlk hW h dX0_mostStoodAt_53
        · replace h := h.2 c
          refine lv_iload_n hx hb dX0_mostStoodAt_47 rfl (lv_at hl 1 rfl) ?_
          refine lv_goto (tgt := 53) hx hb dX0_mostStoodAt_48 rfl ?_
          exact zreti X hr hlk hW h dX0_mostStoodAt_53
      · replace h := h.2 c
        refine lv_aload_n hx hb dX0_mostStoodAt_15 rfl (lv_at hl 0 rfl) ?_
        refine zg_Bench_stood X hW h0 zu_190 dX0_mostStoodAt_16 ?_
        refine lv_iload_n hx hb dX0_mostStoodAt_19 rfl (lv_at hl 2 rfl) ?_
        obtain ⟨g, h⟩ := h
        refine ziald X hW h0.2.2.2.2.2.2.2.2.1 g dX0_mostStoodAt_20 ?_
        refine lv_aload_n hx hb dX0_mostStoodAt_21 rfl (lv_at hl 0 rfl) ?_
        refine zg_Bench_stood X hW h0 zu_190 dX0_mostStoodAt_22 ?_
        refine lv_iload_n hx hb dX0_mostStoodAt_25 rfl (lv_at hl 1 rfl) ?_
        obtain ⟨g, h⟩ := h
        refine ziald X hW h0.2.2.2.2.2.2.2.2.1 g dX0_mostStoodAt_26 ?_
        refine lv_icmp_le (tgt := 32) hx hb dX0_mostStoodAt_27 rfl (fun c => ?_) (fun c => ?_)
        · replace h := h.1 c
          obtain ⟨zx1, ezx1⟩ : ∃ y : Int32, y = x_2 + 1 := ⟨_, rfl⟩
          replace h := h zx1 ezx1
          refine lv_iinc (v := zx1) (lv' := [(2, .int zx1), (0, .ref (zad w k)), (1, .int x_1)]) hx hb dX0_mostStoodAt_32 hl (k := 2) rfl (by rw [ezx1, zc_i1]) (Nat.le_of_ble_eq_true rfl) rfl (fun ls hl => ?_)
          refine lv_goto (tgt := 4) hx hb dX0_mostStoodAt_35 rfl ?_
          exact zJ x_1 zx1 M H locs ls hW (lv_sub hl [1, 2, 0] rfl) h
        · replace h := h.2 c
          refine lv_iload_n hx hb dX0_mostStoodAt_30 rfl (lv_at hl 2 rfl) ?_
          refine lv_istore_n (lv' := [(1, .int x_2), (0, .ref (zad w k)), (2, .int x_2)]) hx hb dX0_mostStoodAt_31 rfl hl (Nat.le_of_ble_eq_true rfl) rfl (fun ls hl => ?_)
          obtain ⟨zx2, ezx2⟩ : ∃ y : Int32, y = x_2 + 1 := ⟨_, rfl⟩
          replace h := h zx2 ezx2
          refine lv_iinc (v := zx2) (lv' := [(2, .int zx2), (1, .int x_2), (0, .ref (zad w k))]) hx hb dX0_mostStoodAt_32 hl (k := 2) rfl (by rw [ezx2, zc_i1]) (Nat.le_of_ble_eq_true rfl) rfl (fun ls hl => ?_)
          refine lv_goto (tgt := 4) hx hb dX0_mostStoodAt_35 rfl ?_
          exact zJ x_2 zx2 M H locs ls hW (lv_sub hl [2, 1, 0] rfl) h
  unfold wp_Bench_mostStoodAt at h
  have zMain : ∀ (H : Heap) (locs : List Loc) (ls : Array Slot), zWo w s.heap M H locs → lv_has ls 3 [(0, .ref (zad w k))] → W p l e (zRm 0 0) s m ([.ref (zad w k)] : List Value).toArray below meth c H locs 0 0 (MQ below (va_Qi post (zB w) (zA w)) ([.ref (zad w k)] : List Value).toArray s 0 0 (zA w)) (F0 m 0 ls []) := by
    intro H locs ls hW hl
    refine lv_iconst hx hb dX0_mostStoodAt_0 zc_i0 ?_
    refine lv_istore_n (lv' := [(1, .int 0), (0, .ref (zad w k))]) hx hb dX0_mostStoodAt_1 rfl hl (Nat.le_of_ble_eq_true rfl) rfl (fun ls hl => ?_)
    refine lv_iconst hx hb dX0_mostStoodAt_2 zc_i1 ?_
    refine lv_istore_n (lv' := [(2, .int 1), (1, .int 0), (0, .ref (zad w k))]) hx hb dX0_mostStoodAt_3 rfl hl (Nat.le_of_ble_eq_true rfl) rfl (fun ls hl => ?_)
    obtain ⟨n, h⟩ := h
    refine zL_4   n 0 1 M H locs ls hW (lv_sub hl [2, 1, 0] rfl) h
  exact zMain s.heap [] ls hW hl
def wp_Ring_lose (k : Nat) (M : zMem) (Q : zMem → Prop) : Prop :=
  ∀ zm1 : zMem, zm1 = zup M k 0 1 → ∀ zm2 : zMem, zm2 = zup zm1 k 1 0 → ∀ zm3 : zMem, zm3 = zup zm2 k 6 0 → ∀ zm4 : zMem, zm4 = zup zm3 k 7 1 → Q zm4
set_option maxHeartbeats 4000000 in
set_option maxRecDepth 20000 in
theorem c_Ring_lose {l : Launch} {w : zWd} {k : Nat} {M : zMem} {post : zMem → Prop} (h0 : zI_Ring w k) (h : wp_Ring_lose k M post) : zMv l ⟨"HandToHand$Ring", "lose", "()V"⟩ prog_8_method_2_code 1 none 0 0 w [.ref (zad w k)] M post := by
  refine zMet (by decide) (Nat.le_of_ble_eq_true rfl) ?_
  intro p e s m below meth c X hr hlk hml hW ls hl
  have hx := X.1
  have hb := X.2.1
  have hl : lv_has ls 1 [(0, .ref (zad w k))] := hl
  unfold wp_Ring_lose at h
  have zMain : ∀ (H : Heap) (locs : List Loc) (ls : Array Slot), zWo w s.heap M H locs → lv_has ls 1 [(0, .ref (zad w k))] → W p l e (zRm 0 0) s m ([.ref (zad w k)] : List Value).toArray below meth c H locs 0 0 (MQ below (va_Qv post (zB w) (zA w)) ([.ref (zad w k)] : List Value).toArray s 0 0 (zA w)) (F0 m 0 ls []) := by
    intro H locs ls hW hl
    refine lv_aload_n hx hb dX6_lose_0 rfl (lv_at hl 0 rfl) ?_
    refine lv_iconst hx hb dX6_lose_1 zc_i1 ?_
    refine zp_Ring_known X hW h0 zbo_1 zu_292 dX6_lose_2 (fun H locs zm1 ezm1 hW => ?_)
    replace h := h zm1 ezm1
    refine lv_aload_n hx hb dX6_lose_5 rfl (lv_at hl 0 rfl) ?_
    refine lv_iconst hx hb dX6_lose_6 zc_i0 ?_
    refine zp_Ring_found X hW h0 zbo_0 zu_294 dX6_lose_7 (fun H locs zm2 ezm2 hW => ?_)
    replace h := h zm2 ezm2
    refine lv_aload_n hx hb dX6_lose_10 rfl (lv_at hl 0 rfl) ?_
    refine lv_iconst hx hb dX6_lose_11 zc_i0 ?_
    refine zp_Ring_top X hW h0 zu_307 dX6_lose_12 (fun H locs zm3 ezm3 hW => ?_)
    replace h := h zm3 ezm3
    refine lv_aload_n hx hb dX6_lose_15 rfl (lv_at hl 0 rfl) ?_
    refine lv_iconst hx hb dX6_lose_16 zc_i1 ?_
    refine zp_Ring_bottom X hW h0 zu_310 dX6_lose_17 (fun H locs zm4 ezm4 hW => ?_)
    replace h := h zm4 ezm4
    exact zretv X hr hlk hW h dX6_lose_20
  exact zMain s.heap [] ls hW hl
def wpB_Main_commonDivisor_3 (a1 : Int64) (a2 : Int64)   (Q : Int64 → zMem → Prop) (J : Int64 → Int64 → Int32 → zMem → Prop) (x_0 : Int64) (x_2 : Int64) (x_4 : Int32) (M : zMem) : Prop :=
  (1000000 ≤ x_4 → Q x_0 M) ∧ (¬ 1000000 ≤ x_4 → ((lg_cmp x_2 0) = 0 → Q x_0 M) ∧ (¬ (lg_cmp x_2 0) = 0 → (¬ x_2 = 0) ∧ ∀ zx1 : Int64, zx1 = x_0 - x_0 / x_2 * x_2 → ∀ zx2 : Int32, zx2 = x_4 + 1 → J x_2 zx1 zx2 M))
def wp_Main_commonDivisor (a1 : Int64) (a2 : Int64) (M : zMem) (Q : Int64 → zMem → Prop) : Prop :=
  ∃ n : Nat, zlp3 (wpB_Main_commonDivisor_3 a1 a2   Q) n a1 a2 0 M
set_option maxHeartbeats 4000000 in
set_option maxRecDepth 20000 in
theorem c_Main_commonDivisor {l : Launch} {w : zWd} {a1 : Int64} {a2 : Int64} {M : zMem} {post : Int64 → zMem → Prop}  (h : wp_Main_commonDivisor a1 a2 M post) : zMl l ⟨"HandToHand", "commonDivisor", "(JJ)J"⟩ prog_1_method_47_code 7 (Option.some .long) 0 0 w [.long a1, .long a2] M post := by
  refine zMet (by decide) (Nat.le_of_ble_eq_true rfl) ?_
  intro p e s m below meth c X hr hlk hml hW ls hl
  have hx := X.1
  have hb := X.2.1
  have hl : lv_has ls 7 [(0, .long a1), (2, .long a2)] := hl
  have zL_3 :  ∀ (n : Nat) (x_0 : Int64) (x_2 : Int64) (x_4 : Int32) (M : zMem) (H : Heap) (locs : List Loc) (ls : Array Slot), zWo w s.heap M H locs → lv_has ls 7 [(0, .long x_0), (2, .long x_2), (4, .int x_4)] → zlp3 (wpB_Main_commonDivisor_3 a1 a2   post) n x_0 x_2 x_4 M → W p l e (zRm 0 0) s m ([.long a1, .long a2] : List Value).toArray below meth c H locs 0 0 (MQ below (va_Ql post (zB w) (zA w)) ([.long a1, .long a2] : List Value).toArray s 0 0 (zA w)) (F0 m 3 ls []) := by
    intro n
    induction n with
    | zero => intro x_0 x_2 x_4 M H locs ls hW hl h; exact h.elim
    | succ n zJ =>
      intro x_0 x_2 x_4 M H locs ls hW hl h
      have h : wpB_Main_commonDivisor_3 a1 a2   post (zlp3 (wpB_Main_commonDivisor_3 a1 a2   post) n) x_0 x_2 x_4 M := h
      unfold wpB_Main_commonDivisor_3 at h
      refine lv_iload hx hb dX10_commonDivisor_3 (lv_at hl 2 rfl) ?_
      refine lv_ldcw hx hb X.2.2.1 (X.2.2.2.1 _ zu_871) dX10_commonDivisor_5 ?_
      refine lv_icmp_ge (tgt := 33) hx hb dX10_commonDivisor_8 rfl (fun c => ?_) (fun c => ?_)
      · replace h := h.1 c
        refine lv_lload_n hx hb dX10_commonDivisor_33 rfl (lv_at hl 0 rfl) ?_
        exact zretl X hr hlk hW h dX10_commonDivisor_34
      · replace h := h.2 c
        refine lv_lload_n hx hb dX10_commonDivisor_11 rfl (lv_at hl 1 rfl) ?_
        refine lv_lconst hx hb dX10_commonDivisor_12 zc_l0 ?_
        refine W.lcmp hx hb dX10_commonDivisor_13 ?_
        refine lv_if_eq (tgt := 33) hx hb dX10_commonDivisor_14 rfl (fun c => ?_) (fun c => ?_)
        · replace h := h.1 c
          refine lv_lload_n hx hb dX10_commonDivisor_33 rfl (lv_at hl 0 rfl) ?_
          exact zretl X hr hlk hW h dX10_commonDivisor_34
        · replace h := h.2 c
          refine lv_lload_n hx hb dX10_commonDivisor_17 rfl (lv_at hl 0 rfl) ?_
          refine lv_lload_n hx hb dX10_commonDivisor_18 rfl (lv_at hl 1 rfl) ?_
          obtain ⟨g, h⟩ := h
          refine lv_lrem hx hb dX10_commonDivisor_19 g ?_
          refine lv_topl (fun zx1 ezx1 => ?_)
          replace h := h zx1 ezx1
          refine lv_lstore (lv' := [(5, .long zx1), (0, .long x_0), (2, .long x_2), (4, .int x_4)]) hx hb dX10_commonDivisor_20 hl (Nat.le_of_ble_eq_true rfl) rfl (fun ls hl => ?_)
          refine lv_lload_n hx hb dX10_commonDivisor_22 rfl (lv_at hl 2 rfl) ?_
          refine lv_lstore_n (lv' := [(0, .long x_2), (5, .long zx1), (2, .long x_2), (4, .int x_4)]) hx hb dX10_commonDivisor_23 rfl hl (Nat.le_of_ble_eq_true rfl) rfl (fun ls hl => ?_)
          refine lv_lload hx hb dX10_commonDivisor_24 (lv_at hl 1 rfl) ?_
          refine lv_lstore_n (lv' := [(2, .long zx1), (0, .long x_2), (5, .long zx1), (4, .int x_4)]) hx hb dX10_commonDivisor_26 rfl hl (Nat.le_of_ble_eq_true rfl) rfl (fun ls hl => ?_)
          obtain ⟨zx2, ezx2⟩ : ∃ y : Int32, y = x_4 + 1 := ⟨_, rfl⟩
          replace h := h zx2 ezx2
          refine lv_iinc (v := zx2) (lv' := [(4, .int zx2), (2, .long zx1), (0, .long x_2), (5, .long zx1)]) hx hb dX10_commonDivisor_27 hl (k := 3) rfl (by rw [ezx2, zc_i1]) (Nat.le_of_ble_eq_true rfl) rfl (fun ls hl => ?_)
          refine lv_goto (tgt := 3) hx hb dX10_commonDivisor_30 rfl ?_
          exact zJ x_2 zx1 zx2 M H locs ls hW (lv_sub hl [2, 1, 0] rfl) h
  unfold wp_Main_commonDivisor at h
  have zMain : ∀ (H : Heap) (locs : List Loc) (ls : Array Slot), zWo w s.heap M H locs → lv_has ls 7 [(0, .long a1), (2, .long a2)] → W p l e (zRm 0 0) s m ([.long a1, .long a2] : List Value).toArray below meth c H locs 0 0 (MQ below (va_Ql post (zB w) (zA w)) ([.long a1, .long a2] : List Value).toArray s 0 0 (zA w)) (F0 m 0 ls []) := by
    intro H locs ls hW hl
    refine lv_iconst hx hb dX10_commonDivisor_0 zc_i0 ?_
    refine lv_istore (lv' := [(4, .int 0), (0, .long a1), (2, .long a2)]) hx hb dX10_commonDivisor_1 hl (Nat.le_of_ble_eq_true rfl) rfl (fun ls hl => ?_)
    obtain ⟨n, h⟩ := h
    refine zL_3   n a1 a2 0 M H locs ls hW (lv_sub hl [1, 2, 0] rfl) h
  exact zMain s.heap [] ls hW hl
def wp_Ring_close (k : Nat) (a1 : Int32) (a2 : Int32) (a3 : Int32) (a4 : Int32) (M : zMem) (Q : zMem → Prop) : Prop :=
  ∀ zm1 : zMem, zm1 = zup M k 1 1 → ∀ zm2 : zMem, zm2 = zup zm1 k 2 a1 → ∀ zm3 : zMem, zm3 = zup zm2 k 5 a2 → ∀ zm4 : zMem, zm4 = zup zm3 k 3 (a3 - a1) → ∀ zm5 : zMem, zm5 = zup zm4 k 4 (a4 - a2) → wp_Main_commonDivisor ((zm5 k 3).toInt64) ((zm5 k 4).toInt64) zm5 (fun zr7 zm6 => ∀ zx8 : Int32, zx8 = zr7.toInt32 → (zx8 ≤ 0 → ∀ zm9 : zMem, zm9 = zup zm6 k 6 (zm6 k 3) → (zx8 ≤ 0 → ∀ zm10 : zMem, zm10 = zup zm9 k 7 (zm9 k 4) → Q zm10) ∧ (¬ zx8 ≤ 0 → (¬ zx8 = 0) ∧ ∀ zm11 : zMem, zm11 = zup zm9 k 7 ((zm9 k 4) / zx8) → Q zm11)) ∧ (¬ zx8 ≤ 0 → (¬ zx8 = 0) ∧ ∀ zm12 : zMem, zm12 = zup zm6 k 6 ((zm6 k 3) / zx8) → (zx8 ≤ 0 → ∀ zm13 : zMem, zm13 = zup zm12 k 7 (zm12 k 4) → Q zm13) ∧ (¬ zx8 ≤ 0 → (¬ zx8 = 0) ∧ ∀ zm14 : zMem, zm14 = zup zm12 k 7 ((zm12 k 4) / zx8) → Q zm14)))
set_option maxHeartbeats 4000000 in
set_option maxRecDepth 20000 in
theorem c_Ring_close {l : Launch} {w : zWd} {k : Nat} {a1 : Int32} {a2 : Int32} {a3 : Int32} {a4 : Int32} {M : zMem} {post : zMem → Prop} (h0 : zI_Ring w k) (h : wp_Ring_close k a1 a2 a3 a4 M post) : zMv l ⟨"HandToHand$Ring", "close", "(IIII)V"⟩ prog_8_method_3_code 6 none 1 26 w [.ref (zad w k), .int a1, .int a2, .int a3, .int a4] M post := by
  refine zMet (by decide) (Nat.le_of_ble_eq_true rfl) ?_
  intro p e s m below meth c X hr hlk hml hW ls hl
  have hx := X.1
  have hb := X.2.1
  have hl : lv_has ls 6 [(0, .ref (zad w k)), (1, .int a1), (2, .int a2), (3, .int a3), (4, .int a4)] := hl
  unfold wp_Ring_close at h
  have zMain : ∀ (H : Heap) (locs : List Loc) (ls : Array Slot), zWo w s.heap M H locs → lv_has ls 6 [(0, .ref (zad w k)), (1, .int a1), (2, .int a2), (3, .int a3), (4, .int a4)] → W p l e (zRm 1 26) s m ([.ref (zad w k), .int a1, .int a2, .int a3, .int a4] : List Value).toArray below meth c H locs 0 0 (MQ below (va_Qv post (zB w) (zA w)) ([.ref (zad w k), .int a1, .int a2, .int a3, .int a4] : List Value).toArray s 0 0 (zA w)) (F0 m 0 ls []) := by
    intro H locs ls hW hl
    refine lv_aload_n hx hb dX6_close_0 rfl (lv_at hl 0 rfl) ?_
    refine lv_iconst hx hb dX6_close_1 zc_i1 ?_
    refine zp_Ring_found X hW h0 zbo_1 zu_294 dX6_close_2 (fun H locs zm1 ezm1 hW => ?_)
    replace h := h zm1 ezm1
    refine lv_aload_n hx hb dX6_close_5 rfl (lv_at hl 0 rfl) ?_
    refine lv_iload_n hx hb dX6_close_6 rfl (lv_at hl 1 rfl) ?_
    refine zp_Ring_ahead X hW h0 zu_297 dX6_close_7 (fun H locs zm2 ezm2 hW => ?_)
    replace h := h zm2 ezm2
    refine lv_aload_n hx hb dX6_close_10 rfl (lv_at hl 0 rfl) ?_
    refine lv_iload_n hx hb dX6_close_11 rfl (lv_at hl 2 rfl) ?_
    refine zp_Ring_from X hW h0 zu_304 dX6_close_12 (fun H locs zm3 ezm3 hW => ?_)
    replace h := h zm3 ezm3
    refine lv_aload_n hx hb dX6_close_15 rfl (lv_at hl 0 rfl) ?_
    refine lv_iload_n hx hb dX6_close_16 rfl (lv_at hl 3 rfl) ?_
    refine lv_iload_n hx hb dX6_close_17 rfl (lv_at hl 1 rfl) ?_
    refine lv_isub hx hb dX6_close_18 ?_
    refine zp_Ring_coats X hW h0 zu_299 dX6_close_19 (fun H locs zm4 ezm4 hW => ?_)
    replace h := h zm4 ezm4
    refine lv_aload_n hx hb dX6_close_22 rfl (lv_at hl 0 rfl) ?_
    refine lv_iload hx hb dX6_close_23 (lv_at hl 4 rfl) ?_
    refine lv_iload_n hx hb dX6_close_25 rfl (lv_at hl 2 rfl) ?_
    refine lv_isub hx hb dX6_close_26 ?_
    refine zp_Ring_ticks X hW h0 zu_301 dX6_close_27 (fun H locs zm5 ezm5 hW => ?_)
    replace h := h zm5 ezm5
    refine lv_aload_n hx hb dX6_close_30 rfl (lv_at hl 0 rfl) ?_
    refine zg_Ring_coats X hW h0 zu_299 dX6_close_31 ?_
    refine lv_i2l hx hb dX6_close_34 rfl ?_
    refine lv_aload_n hx hb dX6_close_35 rfl (lv_at hl 0 rfl) ?_
    refine zg_Ring_ticks X hW h0 zu_301 dX6_close_36 ?_
    refine lv_i2l hx hb dX6_close_39 rfl ?_
    refine zcalll (zrunSN (As := [.long ((zm5 k 3).toInt64), .long ((zm5 k 4).toInt64)]) (rest := []) X hml hl hW zk_Ring_35 (c_Main_commonDivisor  h) rfl ⟨Nat.le_of_ble_eq_true rfl, Nat.le_of_ble_eq_true rfl⟩ ⟨Nat.le_refl 0, Nat.le_refl 0⟩ rfl (Nat.le_of_ble_eq_true rfl) dX6_close_40) hW (fun zr7 zm6 H locs h hW => ?_)
    refine lv_l2i hx hb dX6_close_43 rfl ?_
    refine lv_topi (fun zx8 ezx8 => ?_)
    replace h := h zx8 ezx8
    refine lv_istore (lv' := [(5, .int zx8), (0, .ref (zad w k)), (1, .int a1), (2, .int a2), (3, .int a3), (4, .int a4)]) hx hb dX6_close_44 hl (Nat.le_of_ble_eq_true rfl) rfl (fun ls hl => ?_)
    refine lv_aload_n hx hb dX6_close_46 rfl (lv_at hl 1 rfl) ?_
    refine lv_iload hx hb dX6_close_47 (lv_at hl 0 rfl) ?_
    refine lv_if_le (tgt := 62) hx hb dX6_close_49 rfl (fun c => ?_) (fun c => ?_)
    · replace h := h.1 c
      refine lv_aload_n hx hb dX6_close_62 rfl (lv_at hl 1 rfl) ?_
      refine zg_Ring_coats X hW h0 zu_299 dX6_close_63 ?_
      refine zp_Ring_top X hW h0 zu_307 dX6_close_66 (fun H locs zm9 ezm9 hW => ?_)
      replace h := h zm9 ezm9
      refine lv_aload_n hx hb dX6_close_69 rfl (lv_at hl 1 rfl) ?_
      refine lv_iload hx hb dX6_close_70 (lv_at hl 0 rfl) ?_
      refine lv_if_le (tgt := 85) hx hb dX6_close_72 rfl (fun c => ?_) (fun c => ?_)
      · replace h := h.1 c
        refine lv_aload_n hx hb dX6_close_85 rfl (lv_at hl 1 rfl) ?_
        refine zg_Ring_ticks X hW h0 zu_301 dX6_close_86 ?_
        refine zp_Ring_bottom X hW h0 zu_310 dX6_close_89 (fun H locs zm10 ezm10 hW => ?_)
        replace h := h zm10 ezm10
        exact zretv X hr hlk hW h dX6_close_92
      · replace h := h.2 c
        refine lv_aload_n hx hb dX6_close_75 rfl (lv_at hl 1 rfl) ?_
        refine zg_Ring_ticks X hW h0 zu_301 dX6_close_76 ?_
        refine lv_iload hx hb dX6_close_79 (lv_at hl 0 rfl) ?_
        obtain ⟨g, h⟩ := h
        refine lv_idiv hx hb dX6_close_81 g ?_
        refine lv_goto (tgt := 89) hx hb dX6_close_82 rfl ?_
        refine zp_Ring_bottom X hW h0 zu_310 dX6_close_89 (fun H locs zm11 ezm11 hW => ?_)
        replace h := h zm11 ezm11
        exact zretv X hr hlk hW h dX6_close_92
    · replace h := h.2 c
      refine lv_aload_n hx hb dX6_close_52 rfl (lv_at hl 1 rfl) ?_
      refine zg_Ring_coats X hW h0 zu_299 dX6_close_53 ?_
      refine lv_iload hx hb dX6_close_56 (lv_at hl 0 rfl) ?_
      obtain ⟨g, h⟩ := h
      refine lv_idiv hx hb dX6_close_58 g ?_
      refine lv_goto (tgt := 66) hx hb dX6_close_59 rfl ?_
      refine zp_Ring_top X hW h0 zu_307 dX6_close_66 (fun H locs zm12 ezm12 hW => ?_)
      replace h := h zm12 ezm12
      refine lv_aload_n hx hb dX6_close_69 rfl (lv_at hl 1 rfl) ?_
      refine lv_iload hx hb dX6_close_70 (lv_at hl 0 rfl) ?_
      refine lv_if_le (tgt := 85) hx hb dX6_close_72 rfl (fun c => ?_) (fun c => ?_)
      · replace h := h.1 c
        refine lv_aload_n hx hb dX6_close_85 rfl (lv_at hl 1 rfl) ?_
        refine zg_Ring_ticks X hW h0 zu_301 dX6_close_86 ?_
        refine zp_Ring_bottom X hW h0 zu_310 dX6_close_89 (fun H locs zm13 ezm13 hW => ?_)
        replace h := h zm13 ezm13
        exact zretv X hr hlk hW h dX6_close_92
      · replace h := h.2 c
        refine lv_aload_n hx hb dX6_close_75 rfl (lv_at hl 1 rfl) ?_
        refine zg_Ring_ticks X hW h0 zu_301 dX6_close_76 ?_
        refine lv_iload hx hb dX6_close_79 (lv_at hl 0 rfl) ?_
        obtain ⟨g, h⟩ := h
        refine lv_idiv hx hb dX6_close_81 g ?_
        refine lv_goto (tgt := 89) hx hb dX6_close_82 rfl ?_
        refine zp_Ring_bottom X hW h0 zu_310 dX6_close_89 (fun H locs zm14 ezm14 hW => ?_)
        replace h := h zm14 ezm14
        exact zretv X hr hlk hW h dX6_close_92
  exact zMain s.heap [] ls hW hl
def wpB_Course_runFor_43 (k : Nat) (a1 : Int32)   (Q : zMem → Prop) (J : Int32 → zMem → Prop) (x_2 : Int32) (M : zMem) : Prop :=
  (1000000 ≤ x_2 → Q M) ∧ (¬ 1000000 ≤ x_2 → (a1 ≤ (M (k + 3) 3) → Q M) ∧ (¬ a1 ≤ (M (k + 3) 3) → (¬ (M k 3) = 0 → Q M) ∧ ((M k 3) = 0 → wp_Bench_leastLeft (k + 3) M (fun zr9 zm8 => (¬ zr9 = 0 → wp_Bench_letPass (k + 3) zr9 zm8 (fun zm10 => wp_Bench_doAll (k + 3) zm10 (fun zm12 => ∀ zx14 : Int32, zx14 = x_2 + 1 → J zx14 zm12))) ∧ (zr9 = 0 → ∀ zm15 : zMem, zm15 = zup zm8 k 3 1 → ∀ zx16 : Int32, zx16 = x_2 + 1 → J zx16 zm15)))))
def wp_Course_runFor (k : Nat) (a1 : Int32) (M : zMem) (Q : zMem → Prop) : Prop :=
  (¬ (M k 2) = a1 → ∀ zm1 : zMem, zm1 = zup M k 2 a1 → ∀ zm2 : zMem, zm2 = zup zm1 k 3 0 → ∀ zm3 : zMem, zm3 = zup zm2 (k + 1) 0 0 → wp_Bench_clear (k + 3) zm3 (fun zm4 => wp_Bench_doAll (k + 3) zm4 (fun zm6 => ∃ n : Nat, zlp1 (wpB_Course_runFor_43 k a1   Q) n 0 zm6))) ∧ ((M k 2) = a1 → Q M)
set_option maxHeartbeats 4000000 in
set_option maxRecDepth 20000 in
theorem c_Course_runFor {l : Launch} {w : zWd} {k : Nat} {a1 : Int32} {M : zMem} {post : zMem → Prop} (h0 : zI_Course w k) (h : wp_Course_runFor k a1 M post) : zMv l ⟨"HandToHand$Course", "runFor", "(I)V"⟩ prog_3_method_2_code 4 none 4 92 w [.ref (zad w k), .int a1] M post := by
  refine zMet (by decide) (Nat.le_of_ble_eq_true rfl) ?_
  intro p e s m below meth c X hr hlk hml hW ls hl
  have hx := X.1
  have hb := X.2.1
  have hl : lv_has ls 4 [(0, .ref (zad w k)), (1, .int a1)] := hl
  have zL_43 :  ∀ (n : Nat) (x_2 : Int32) (M : zMem) (H : Heap) (locs : List Loc) (ls : Array Slot), zWo w s.heap M H locs → lv_has ls 4 [(0, .ref (zad w k)), (1, .int a1), (2, .int x_2)] → zlp1 (wpB_Course_runFor_43 k a1   post) n x_2 M → W p l e (zRm 4 92) s m ([.ref (zad w k), .int a1] : List Value).toArray below meth c H locs 0 0 (MQ below (va_Qv post (zB w) (zA w)) ([.ref (zad w k), .int a1] : List Value).toArray s 0 0 (zA w)) (F0 m 43 ls []) := by
    intro n
    induction n with
    | zero => intro x_2 M H locs ls hW hl h; exact h.elim
    | succ n zJ =>
      intro x_2 M H locs ls hW hl h
      have h : wpB_Course_runFor_43 k a1   post (zlp1 (wpB_Course_runFor_43 k a1   post) n) x_2 M := h
      unfold wpB_Course_runFor_43 at h
      refine lv_iload_n hx hb dX1_runFor_43 rfl (lv_at hl 2 rfl) ?_
      refine lv_ldc hx hb X.2.2.1 (X.2.2.2.1 _ zu_795) dX1_runFor_44 ?_
      refine lv_icmp_ge (tgt := 108) hx hb dX1_runFor_46 rfl (fun c => ?_) (fun c => ?_)
      · replace h := h.1 c
        exact zretv X hr hlk hW h dX1_runFor_108
      · replace h := h.2 c
        refine lv_aload_n hx hb dX1_runFor_49 rfl (lv_at hl 0 rfl) ?_
        refine zg_Course_bench X hW h0 zu_247 dX1_runFor_50 ?_
        refine zg_Bench_done X hW h0.2.2 zu_167 dX1_runFor_53 ?_
        refine lv_iload_n hx hb dX1_runFor_56 rfl (lv_at hl 1 rfl) ?_
        refine lv_icmp_ge (tgt := 108) hx hb dX1_runFor_57 rfl (fun c => ?_) (fun c => ?_)
        · replace h := h.1 c
          exact zretv X hr hlk hW h dX1_runFor_108
        · replace h := h.2 c
          refine lv_aload_n hx hb dX1_runFor_60 rfl (lv_at hl 0 rfl) ?_
          refine zg_Course_stuck X hW h0 zu_251 dX1_runFor_61 ?_
          refine lv_if_ne (tgt := 108) hx hb dX1_runFor_64 rfl (fun c => ?_) (fun c => ?_)
          · replace h := h.1 c
            exact zretv X hr hlk hW h dX1_runFor_108
          · replace h := h.2 c
            refine lv_aload_n hx hb dX1_runFor_67 rfl (lv_at hl 0 rfl) ?_
            refine zg_Course_bench X hW h0 zu_247 dX1_runFor_68 ?_
            refine zcalli (zrunV (As := []) (rest := []) X hml hl hW h0.2.2.1 rfl zk_Course_48 (c_Bench_leastLeft h0.2.2 h) rfl ⟨Nat.le_of_ble_eq_true rfl, Nat.le_of_ble_eq_true rfl⟩ ⟨Nat.le_refl 0, Nat.le_refl 0⟩ rfl (Nat.le_of_ble_eq_true rfl) dX1_runFor_71) hW (fun zr9 zm8 H locs h hW => ?_)
            refine lv_istore_n (lv' := [(3, .int zr9), (0, .ref (zad w k)), (1, .int a1), (2, .int x_2)]) hx hb dX1_runFor_74 rfl hl (Nat.le_of_ble_eq_true rfl) rfl (fun ls hl => ?_)
            refine lv_iload_n hx hb dX1_runFor_75 rfl (lv_at hl 0 rfl) ?_
            refine lv_if_ne (tgt := 87) hx hb dX1_runFor_76 rfl (fun c => ?_) (fun c => ?_)
            · replace h := h.1 c
              refine lv_aload_n hx hb dX1_runFor_87 rfl (lv_at hl 1 rfl) ?_
              refine zg_Course_bench X hW h0 zu_247 dX1_runFor_88 ?_
              refine lv_iload_n hx hb dX1_runFor_91 rfl (lv_at hl 0 rfl) ?_
              refine zcallv (zrunV (As := [.int zr9]) (rest := []) X hml hl hW h0.2.2.1 rfl zk_Course_52 (c_Bench_letPass h0.2.2 h) rfl ⟨Nat.le_of_ble_eq_true rfl, Nat.le_of_ble_eq_true rfl⟩ ⟨Nat.le_refl 0, Nat.le_refl 0⟩ rfl (Nat.le_of_ble_eq_true rfl) dX1_runFor_92) hW (fun zm10 H locs h hW => ?_)
              refine lv_aload_n hx hb dX1_runFor_95 rfl (lv_at hl 1 rfl) ?_
              refine zg_Course_bench X hW h0 zu_247 dX1_runFor_96 ?_
              refine zcallv (zrunV (As := []) (rest := []) X hml hl hW h0.2.2.1 rfl zk_Course_41 (c_Bench_doAll h0.2.2 h) rfl ⟨Nat.le_of_ble_eq_true rfl, Nat.le_of_ble_eq_true rfl⟩ ⟨Nat.le_refl 0, Nat.le_refl 0⟩ rfl (Nat.le_of_ble_eq_true rfl) dX1_runFor_99) hW (fun zm12 H locs h hW => ?_)
              obtain ⟨zx14, ezx14⟩ : ∃ y : Int32, y = x_2 + 1 := ⟨_, rfl⟩
              replace h := h zx14 ezx14
              refine lv_iinc (v := zx14) (lv' := [(2, .int zx14), (3, .int zr9), (0, .ref (zad w k)), (1, .int a1)]) hx hb dX1_runFor_102 hl (k := 3) rfl (by rw [ezx14, zc_i1]) (Nat.le_of_ble_eq_true rfl) rfl (fun ls hl => ?_)
              refine lv_goto (tgt := 43) hx hb dX1_runFor_105 rfl ?_
              exact zJ zx14 zm12 H locs ls hW (lv_sub hl [2, 3, 0] rfl) h
            · replace h := h.2 c
              refine lv_aload_n hx hb dX1_runFor_79 rfl (lv_at hl 1 rfl) ?_
              refine lv_iconst hx hb dX1_runFor_80 zc_i1 ?_
              refine zp_Course_stuck X hW h0 zbo_1 zu_251 dX1_runFor_81 (fun H locs zm15 ezm15 hW => ?_)
              replace h := h zm15 ezm15
              refine lv_goto (tgt := 102) hx hb dX1_runFor_84 rfl ?_
              obtain ⟨zx16, ezx16⟩ : ∃ y : Int32, y = x_2 + 1 := ⟨_, rfl⟩
              replace h := h zx16 ezx16
              refine lv_iinc (v := zx16) (lv' := [(2, .int zx16), (3, .int zr9), (0, .ref (zad w k)), (1, .int a1)]) hx hb dX1_runFor_102 hl (k := 3) rfl (by rw [ezx16, zc_i1]) (Nat.le_of_ble_eq_true rfl) rfl (fun ls hl => ?_)
              refine lv_goto (tgt := 43) hx hb dX1_runFor_105 rfl ?_
              exact zJ zx16 zm15 H locs ls hW (lv_sub hl [2, 3, 0] rfl) h
  unfold wp_Course_runFor at h
  have zMain : ∀ (H : Heap) (locs : List Loc) (ls : Array Slot), zWo w s.heap M H locs → lv_has ls 4 [(0, .ref (zad w k)), (1, .int a1)] → W p l e (zRm 4 92) s m ([.ref (zad w k), .int a1] : List Value).toArray below meth c H locs 0 0 (MQ below (va_Qv post (zB w) (zA w)) ([.ref (zad w k), .int a1] : List Value).toArray s 0 0 (zA w)) (F0 m 0 ls []) := by
    intro H locs ls hW hl
    refine lv_aload_n hx hb dX1_runFor_0 rfl (lv_at hl 0 rfl) ?_
    refine zg_Course_coats X hW h0 zu_249 dX1_runFor_1 ?_
    refine lv_iload_n hx hb dX1_runFor_4 rfl (lv_at hl 1 rfl) ?_
    refine lv_icmp_ne (tgt := 9) hx hb dX1_runFor_5 rfl (fun c => ?_) (fun c => ?_)
    · replace h := h.1 c
      refine lv_aload_n hx hb dX1_runFor_9 rfl (lv_at hl 0 rfl) ?_
      refine lv_iload_n hx hb dX1_runFor_10 rfl (lv_at hl 1 rfl) ?_
      refine zp_Course_coats X hW h0 zu_249 dX1_runFor_11 (fun H locs zm1 ezm1 hW => ?_)
      replace h := h zm1 ezm1
      refine lv_aload_n hx hb dX1_runFor_14 rfl (lv_at hl 0 rfl) ?_
      refine lv_iconst hx hb dX1_runFor_15 zc_i0 ?_
      refine zp_Course_stuck X hW h0 zbo_0 zu_251 dX1_runFor_16 (fun H locs zm2 ezm2 hW => ?_)
      replace h := h zm2 ezm2
      refine lv_aload_n hx hb dX1_runFor_19 rfl (lv_at hl 0 rfl) ?_
      refine zg_Course_handings X hW h0 zu_245 dX1_runFor_20 ?_
      refine lv_iconst hx hb dX1_runFor_23 zc_i0 ?_
      refine zp_Handings_size X hW h0.2.1 zu_234 dX1_runFor_24 (fun H locs zm3 ezm3 hW => ?_)
      replace h := h zm3 ezm3
      refine lv_aload_n hx hb dX1_runFor_27 rfl (lv_at hl 0 rfl) ?_
      refine zg_Course_bench X hW h0 zu_247 dX1_runFor_28 ?_
      refine zcallv (zrunV (As := []) (rest := []) X hml hl hW h0.2.2.1 rfl zk_Course_38 (c_Bench_clear h0.2.2 h) rfl ⟨Nat.le_of_ble_eq_true rfl, Nat.le_of_ble_eq_true rfl⟩ ⟨Nat.le_refl 0, Nat.le_refl 0⟩ rfl (Nat.le_of_ble_eq_true rfl) dX1_runFor_31) hW (fun zm4 H locs h hW => ?_)
      refine lv_aload_n hx hb dX1_runFor_34 rfl (lv_at hl 0 rfl) ?_
      refine zg_Course_bench X hW h0 zu_247 dX1_runFor_35 ?_
      refine zcallv (zrunV (As := []) (rest := []) X hml hl hW h0.2.2.1 rfl zk_Course_41 (c_Bench_doAll h0.2.2 h) rfl ⟨Nat.le_of_ble_eq_true rfl, Nat.le_of_ble_eq_true rfl⟩ ⟨Nat.le_refl 0, Nat.le_refl 0⟩ rfl (Nat.le_of_ble_eq_true rfl) dX1_runFor_38) hW (fun zm6 H locs h hW => ?_)
      refine lv_iconst hx hb dX1_runFor_41 zc_i0 ?_
      refine lv_istore_n (lv' := [(2, .int 0), (0, .ref (zad w k)), (1, .int a1)]) hx hb dX1_runFor_42 rfl hl (Nat.le_of_ble_eq_true rfl) rfl (fun ls hl => ?_)
      obtain ⟨n, h⟩ := h
      refine zL_43   n 0 zm6 H locs ls hW (lv_sub hl [1, 2, 0] rfl) h
    · replace h := h.2 c
      exact zretv X hr hlk hW h dX1_runFor_8
  exact zMain s.heap [] ls hW hl
def wpJ_Settling_clearOthers_53 (k : Nat) (a1 : Int32) (t2 : Nat) (K78 : zMem → Prop) (J : Int32 → zMem → Prop) (Q : zMem → Prop) (x_3 : Int32) (x_4 : Int32)  (M : zMem) : Prop :=
  vp_in ((((a1 + 1) + 5) + (x_3 * 8)) + x_4) 5520 ∧ ∀ zm1 : zMem, zm1 = zup M (k + 1) (ix ((((a1 + 1) + 5) + (x_3 * 8)) + x_4)) 0 → ∀ zx2 : Int32, zx2 = x_4 + 1 → J zx2 zm1
def wpB_Settling_clearOthers_29 (k : Nat) (a1 : Int32) (t2 : Nat) (x_3 : Int32) (K78 : zMem → Prop) (Q : zMem → Prop) (J : Int32 → zMem → Prop) (x_4 : Int32) (M : zMem) : Prop :=
  (8 ≤ x_4 → K78 M) ∧ (¬ 8 ≤ x_4 → ((M t2 1) ≤ x_3 → wpJ_Settling_clearOthers_53 k a1 t2 K78 J Q x_3 x_4 M) ∧ (¬ (M t2 1) ≤ x_3 → (x_4 < (M t2 0) → ∀ zx3 : Int32, zx3 = x_4 + 1 → J zx3 M) ∧ (¬ x_4 < (M t2 0) → wpJ_Settling_clearOthers_53 k a1 t2 K78 J Q x_3 x_4 M)))
def wpB_Settling_clearOthers_2 (k : Nat) (a1 : Int32) (t2 : Nat)   (Q : zMem → Prop) (J : Int32 → zMem → Prop) (x_3 : Int32) (M : zMem) : Prop :=
  (5 ≤ x_3 → Q M) ∧ (¬ 5 ≤ x_3 → (x_3 < (M t2 1) → ∃ n : Nat, zlp1 (wpB_Settling_clearOthers_29 k a1 t2 x_3 (fun (zm4 : zMem) => ∀ zx5 : Int32, zx5 = x_3 + 1 → J zx5 zm4) Q) n 0 M) ∧ (¬ x_3 < (M t2 1) → vp_in ((a1 + 1) + x_3) 5520 ∧ ∀ zm6 : zMem, zm6 = zup M (k + 1) (ix ((a1 + 1) + x_3)) 0 → ∃ n : Nat, zlp1 (wpB_Settling_clearOthers_29 k a1 t2 x_3 (fun (zm7 : zMem) => ∀ zx8 : Int32, zx8 = x_3 + 1 → J zx8 zm7) Q) n 0 zm6))
def wp_Settling_clearOthers (k : Nat) (a1 : Int32) (t2 : Nat) (M : zMem) (Q : zMem → Prop) : Prop :=
  ∃ n : Nat, zlp1 (wpB_Settling_clearOthers_2 k a1 t2   Q) n 0 M
set_option maxHeartbeats 4000000 in
set_option maxRecDepth 20000 in
theorem c_Settling_clearOthers {l : Launch} {w : zWd} {k : Nat} {a1 : Int32} {t2 : Nat} {M : zMem} {post : zMem → Prop} (h0 : zI_Settling w k) (h2 : zI_Told w t2) (h : wp_Settling_clearOthers k a1 t2 M post) : zMv l ⟨"HandToHand$Settling", "clearOthers", "(ILHandToHand$Told;)V"⟩ prog_9_method_4_code 5 none 0 0 w [.ref (zad w k), .int a1, .ref (zad w t2)] M post := by
  refine zMet (by decide) (Nat.le_of_ble_eq_true rfl) ?_
  intro p e s m below meth c X hr hlk hml hW ls hl
  have hx := X.1
  have hb := X.2.1
  have hl : lv_has ls 5 [(0, .ref (zad w k)), (1, .int a1), (2, .ref (zad w t2))] := hl
  have zJ_53 : ∀ (x_3 : Int32) (x_4 : Int32) (K78 : zMem → Prop) (zK78 : ∀ (M : zMem) (H : Heap) (locs : List Loc) (ls : Array Slot), zWo w s.heap M H locs → lv_has ls 5 [(0, .ref (zad w k)), (1, .int a1), (2, .ref (zad w t2)), (3, .int x_3)] → K78 M → W p l e (zRm 0 0) s m ([.ref (zad w k), .int a1, .ref (zad w t2)] : List Value).toArray below meth c H locs 0 0 (MQ below (va_Qv post (zB w) (zA w)) ([.ref (zad w k), .int a1, .ref (zad w t2)] : List Value).toArray s 0 0 (zA w)) (F0 m 78 ls [])) (J : Int32 → zMem → Prop) (zJ : ∀ (y_4 : Int32) (M : zMem) (H : Heap) (locs : List Loc) (ls : Array Slot), zWo w s.heap M H locs → lv_has ls 5 [(0, .ref (zad w k)), (1, .int a1), (2, .ref (zad w t2)), (3, .int x_3), (4, .int y_4)] → J y_4 M → W p l e (zRm 0 0) s m ([.ref (zad w k), .int a1, .ref (zad w t2)] : List Value).toArray below meth c H locs 0 0 (MQ below (va_Qv post (zB w) (zA w)) ([.ref (zad w k), .int a1, .ref (zad w t2)] : List Value).toArray s 0 0 (zA w)) (F0 m 29 ls [])) (M : zMem) (H : Heap) (locs : List Loc) (ls : Array Slot), zWo w s.heap M H locs → lv_has ls 5 [(0, .ref (zad w k)), (1, .int a1), (2, .ref (zad w t2)), (3, .int x_3), (4, .int x_4)] → wpJ_Settling_clearOthers_53 k a1 t2 K78 J post x_3 x_4 M → W p l e (zRm 0 0) s m ([.ref (zad w k), .int a1, .ref (zad w t2)] : List Value).toArray below meth c H locs 0 0 (MQ below (va_Qv post (zB w) (zA w)) ([.ref (zad w k), .int a1, .ref (zad w t2)] : List Value).toArray s 0 0 (zA w)) (F0 m 53 ls []) := by
    intro x_3 x_4 K78 zK78 J zJ M H locs ls hW hl h
    unfold wpJ_Settling_clearOthers_53 at h
    refine lv_aload_n hx hb dX7_clearOthers_53 rfl (lv_at hl 0 rfl) ?_
    refine zg_Settling_rows X hW h0 zu_272 dX7_clearOthers_54 ?_
    refine lv_iload_n hx hb dX7_clearOthers_57 rfl (lv_at hl 1 rfl) ?_
    refine lv_iconst hx hb dX7_clearOthers_58 zc_i1 ?_
    refine lv_iadd hx hb dX7_clearOthers_59 ?_
    refine lv_iconst hx hb dX7_clearOthers_60 zc_i5 ?_
    refine lv_iadd hx hb dX7_clearOthers_61 ?_
    refine lv_iload_n hx hb dX7_clearOthers_62 rfl (lv_at hl 3 rfl) ?_
    refine lv_bipush hx hb dX7_clearOthers_63 zc_b8 ?_
    refine lv_imul hx hb dX7_clearOthers_65 ?_
    refine lv_iadd hx hb dX7_clearOthers_66 ?_
    refine lv_iload hx hb dX7_clearOthers_67 (lv_at hl 4 rfl) ?_
    refine lv_iadd hx hb dX7_clearOthers_69 ?_
    refine lv_iconst hx hb dX7_clearOthers_70 zc_i0 ?_
    obtain ⟨g, h⟩ := h
    refine ziast X hW h0.2.1 g dX7_clearOthers_71 (fun H locs zm1 ezm1 hW => ?_)
    replace h := h zm1 ezm1
    obtain ⟨zx2, ezx2⟩ : ∃ y : Int32, y = x_4 + 1 := ⟨_, rfl⟩
    replace h := h zx2 ezx2
    refine lv_iinc (v := zx2) (lv' := [(4, .int zx2), (0, .ref (zad w k)), (1, .int a1), (2, .ref (zad w t2)), (3, .int x_3)]) hx hb dX7_clearOthers_72 hl (k := 4) rfl (by rw [ezx2, zc_i1]) (Nat.le_of_ble_eq_true rfl) rfl (fun ls hl => ?_)
    refine lv_goto (tgt := 29) hx hb dX7_clearOthers_75 rfl ?_
    exact zJ zx2 zm1 H locs ls hW (lv_sub hl [1, 2, 3, 4, 0] rfl) h
  have zL_29 : ∀ (x_3 : Int32) (K78 : zMem → Prop) (zK78 : ∀ (M : zMem) (H : Heap) (locs : List Loc) (ls : Array Slot), zWo w s.heap M H locs → lv_has ls 5 [(0, .ref (zad w k)), (1, .int a1), (2, .ref (zad w t2)), (3, .int x_3)] → K78 M → W p l e (zRm 0 0) s m ([.ref (zad w k), .int a1, .ref (zad w t2)] : List Value).toArray below meth c H locs 0 0 (MQ below (va_Qv post (zB w) (zA w)) ([.ref (zad w k), .int a1, .ref (zad w t2)] : List Value).toArray s 0 0 (zA w)) (F0 m 78 ls [])), ∀ (n : Nat) (x_4 : Int32) (M : zMem) (H : Heap) (locs : List Loc) (ls : Array Slot), zWo w s.heap M H locs → lv_has ls 5 [(0, .ref (zad w k)), (1, .int a1), (2, .ref (zad w t2)), (3, .int x_3), (4, .int x_4)] → zlp1 (wpB_Settling_clearOthers_29 k a1 t2 x_3 K78 post) n x_4 M → W p l e (zRm 0 0) s m ([.ref (zad w k), .int a1, .ref (zad w t2)] : List Value).toArray below meth c H locs 0 0 (MQ below (va_Qv post (zB w) (zA w)) ([.ref (zad w k), .int a1, .ref (zad w t2)] : List Value).toArray s 0 0 (zA w)) (F0 m 29 ls []) := by
    intro x_3 K78 zK78 n
    induction n with
    | zero => intro x_4 M H locs ls hW hl h; exact h.elim
    | succ n zJ =>
      intro x_4 M H locs ls hW hl h
      have h : wpB_Settling_clearOthers_29 k a1 t2 x_3 K78 post (zlp1 (wpB_Settling_clearOthers_29 k a1 t2 x_3 K78 post) n) x_4 M := h
      unfold wpB_Settling_clearOthers_29 at h
      refine lv_iload hx hb dX7_clearOthers_29 (lv_at hl 4 rfl) ?_
      refine lv_bipush hx hb dX7_clearOthers_31 zc_b8 ?_
      refine lv_icmp_ge (tgt := 78) hx hb dX7_clearOthers_33 rfl (fun c => ?_) (fun c => ?_)
      · replace h := h.1 c
        exact zK78 M H locs ls hW (lv_sub hl [0, 1, 2, 3] rfl) h
      · replace h := h.2 c
        refine lv_iload_n hx hb dX7_clearOthers_36 rfl (lv_at hl 3 rfl) ?_
        refine lv_aload_n hx hb dX7_clearOthers_37 rfl (lv_at hl 2 rfl) ?_
        refine zg_Told_hands X hW h2 zu_38 dX7_clearOthers_38 ?_
        refine lv_icmp_ge (tgt := 53) hx hb dX7_clearOthers_41 rfl (fun c => ?_) (fun c => ?_)
        · replace h := h.1 c
          exact zJ_53 x_3 x_4 _ zK78 _ zJ M H locs ls hW (lv_sub hl [0, 1, 2, 3, 4] rfl) h
        · replace h := h.2 c
          refine lv_iload hx hb dX7_clearOthers_44 (lv_at hl 4 rfl) ?_
          refine lv_aload_n hx hb dX7_clearOthers_46 rfl (lv_at hl 2 rfl) ?_
          refine zg_Told_pieces X hW h2 zu_33 dX7_clearOthers_47 ?_
          refine lv_icmp_lt (tgt := 72) hx hb dX7_clearOthers_50 rfl (fun c => ?_) (fun c => ?_)
          · replace h := h.1 c
            obtain ⟨zx3, ezx3⟩ : ∃ y : Int32, y = x_4 + 1 := ⟨_, rfl⟩
            replace h := h zx3 ezx3
            refine lv_iinc (v := zx3) (lv' := [(4, .int zx3), (0, .ref (zad w k)), (1, .int a1), (2, .ref (zad w t2)), (3, .int x_3)]) hx hb dX7_clearOthers_72 hl (k := 4) rfl (by rw [ezx3, zc_i1]) (Nat.le_of_ble_eq_true rfl) rfl (fun ls hl => ?_)
            refine lv_goto (tgt := 29) hx hb dX7_clearOthers_75 rfl ?_
            exact zJ zx3 M H locs ls hW (lv_sub hl [1, 2, 3, 4, 0] rfl) h
          · replace h := h.2 c
            exact zJ_53 x_3 x_4 _ zK78 _ zJ M H locs ls hW (lv_sub hl [0, 1, 2, 3, 4] rfl) h
  have zL_2 :  ∀ (n : Nat) (x_3 : Int32) (M : zMem) (H : Heap) (locs : List Loc) (ls : Array Slot), zWo w s.heap M H locs → lv_has ls 5 [(0, .ref (zad w k)), (1, .int a1), (2, .ref (zad w t2)), (3, .int x_3)] → zlp1 (wpB_Settling_clearOthers_2 k a1 t2   post) n x_3 M → W p l e (zRm 0 0) s m ([.ref (zad w k), .int a1, .ref (zad w t2)] : List Value).toArray below meth c H locs 0 0 (MQ below (va_Qv post (zB w) (zA w)) ([.ref (zad w k), .int a1, .ref (zad w t2)] : List Value).toArray s 0 0 (zA w)) (F0 m 2 ls []) := by
    intro n
    induction n with
    | zero => intro x_3 M H locs ls hW hl h; exact h.elim
    | succ n zJ =>
      intro x_3 M H locs ls hW hl h
      have h : wpB_Settling_clearOthers_2 k a1 t2   post (zlp1 (wpB_Settling_clearOthers_2 k a1 t2   post) n) x_3 M := h
      unfold wpB_Settling_clearOthers_2 at h
      refine lv_iload_n hx hb dX7_clearOthers_2 rfl (lv_at hl 3 rfl) ?_
      refine lv_iconst hx hb dX7_clearOthers_3 zc_i5 ?_
      refine lv_icmp_ge (tgt := 84) hx hb dX7_clearOthers_4 rfl (fun c => ?_) (fun c => ?_)
      · replace h := h.1 c
        exact zretv X hr hlk hW h dX7_clearOthers_84
      · replace h := h.2 c
        refine lv_iload_n hx hb dX7_clearOthers_7 rfl (lv_at hl 3 rfl) ?_
        refine lv_aload_n hx hb dX7_clearOthers_8 rfl (lv_at hl 2 rfl) ?_
        refine zg_Told_hands X hW h2 zu_38 dX7_clearOthers_9 ?_
        refine lv_icmp_lt (tgt := 26) hx hb dX7_clearOthers_12 rfl (fun c => ?_) (fun c => ?_)
        · replace h := h.1 c
          refine lv_iconst hx hb dX7_clearOthers_26 zc_i0 ?_
          refine lv_istore (lv' := [(4, .int 0), (0, .ref (zad w k)), (1, .int a1), (2, .ref (zad w t2)), (3, .int x_3)]) hx hb dX7_clearOthers_27 hl (Nat.le_of_ble_eq_true rfl) rfl (fun ls hl => ?_)
          obtain ⟨n, h⟩ := h
          refine zL_29 x_3 _ (fun  zm4 H locs ls hW hl h => ?_) n 0 M H locs ls hW (lv_sub hl [1, 2, 3, 4, 0] rfl) h
          · skip
            obtain ⟨zx5, ezx5⟩ : ∃ y : Int32, y = x_3 + 1 := ⟨_, rfl⟩
            replace h := h zx5 ezx5
            refine lv_iinc (v := zx5) (lv' := [(3, .int zx5), (0, .ref (zad w k)), (1, .int a1), (2, .ref (zad w t2))]) hx hb dX7_clearOthers_78 hl (k := 3) rfl (by rw [ezx5, zc_i1]) (Nat.le_of_ble_eq_true rfl) rfl (fun ls hl => ?_)
            refine lv_goto (tgt := 2) hx hb dX7_clearOthers_81 rfl ?_
            exact zJ zx5 zm4 H locs ls hW (lv_sub hl [1, 2, 3, 0] rfl) h
        · replace h := h.2 c
          refine lv_aload_n hx hb dX7_clearOthers_15 rfl (lv_at hl 0 rfl) ?_
          refine zg_Settling_rows X hW h0 zu_272 dX7_clearOthers_16 ?_
          refine lv_iload_n hx hb dX7_clearOthers_19 rfl (lv_at hl 1 rfl) ?_
          refine lv_iconst hx hb dX7_clearOthers_20 zc_i1 ?_
          refine lv_iadd hx hb dX7_clearOthers_21 ?_
          refine lv_iload_n hx hb dX7_clearOthers_22 rfl (lv_at hl 3 rfl) ?_
          refine lv_iadd hx hb dX7_clearOthers_23 ?_
          refine lv_iconst hx hb dX7_clearOthers_24 zc_i0 ?_
          obtain ⟨g, h⟩ := h
          refine ziast X hW h0.2.1 g dX7_clearOthers_25 (fun H locs zm6 ezm6 hW => ?_)
          replace h := h zm6 ezm6
          refine lv_iconst hx hb dX7_clearOthers_26 zc_i0 ?_
          refine lv_istore (lv' := [(4, .int 0), (0, .ref (zad w k)), (1, .int a1), (2, .ref (zad w t2)), (3, .int x_3)]) hx hb dX7_clearOthers_27 hl (Nat.le_of_ble_eq_true rfl) rfl (fun ls hl => ?_)
          obtain ⟨n, h⟩ := h
          refine zL_29 x_3 _ (fun  zm7 H locs ls hW hl h => ?_) n 0 zm6 H locs ls hW (lv_sub hl [1, 2, 3, 4, 0] rfl) h
          · skip
            obtain ⟨zx8, ezx8⟩ : ∃ y : Int32, y = x_3 + 1 := ⟨_, rfl⟩
            replace h := h zx8 ezx8
            refine lv_iinc (v := zx8) (lv' := [(3, .int zx8), (0, .ref (zad w k)), (1, .int a1), (2, .ref (zad w t2))]) hx hb dX7_clearOthers_78 hl (k := 3) rfl (by rw [ezx8, zc_i1]) (Nat.le_of_ble_eq_true rfl) rfl (fun ls hl => ?_)
            refine lv_goto (tgt := 2) hx hb dX7_clearOthers_81 rfl ?_
            exact zJ zx8 zm7 H locs ls hW (lv_sub hl [1, 2, 3, 0] rfl) h
  unfold wp_Settling_clearOthers at h
  have zMain : ∀ (H : Heap) (locs : List Loc) (ls : Array Slot), zWo w s.heap M H locs → lv_has ls 5 [(0, .ref (zad w k)), (1, .int a1), (2, .ref (zad w t2))] → W p l e (zRm 0 0) s m ([.ref (zad w k), .int a1, .ref (zad w t2)] : List Value).toArray below meth c H locs 0 0 (MQ below (va_Qv post (zB w) (zA w)) ([.ref (zad w k), .int a1, .ref (zad w t2)] : List Value).toArray s 0 0 (zA w)) (F0 m 0 ls []) := by
    intro H locs ls hW hl
    refine lv_iconst hx hb dX7_clearOthers_0 zc_i0 ?_
    refine lv_istore_n (lv' := [(3, .int 0), (0, .ref (zad w k)), (1, .int a1), (2, .ref (zad w t2))]) hx hb dX7_clearOthers_1 rfl hl (Nat.le_of_ble_eq_true rfl) rfl (fun ls hl => ?_)
    obtain ⟨n, h⟩ := h
    refine zL_2   n 0 M H locs ls hW (lv_sub hl [1, 2, 3, 0] rfl) h
  exact zMain s.heap [] ls hW hl
def wpB_Settling_writeDown_84 (k : Nat) (t1 : Nat) (x_2 : Int32) (x_3 : Int32) (K138 : zMem → Prop) (Q : zMem → Prop) (J : Int32 → zMem → Prop) (x_4 : Int32) (M : zMem) : Prop :=
  ((M t1 0) ≤ x_4 → K138 M) ∧ (¬ (M t1 0) ≤ x_4 → ∀ zx10 : Int32, zx10 = (x_3 * 8) + x_4 → vp_in zx10 40 ∧ wp_Told_learnedThatCounts t1 x_3 x_4 (M (k + 11) (ix zx10)) M (fun zr12 zm11 => vp_in (((x_2 + 1) + 5) + zx10) 5520 ∧ ∀ zm13 : zMem, zm13 = zup zm11 (k + 1) (ix (((x_2 + 1) + 5) + zx10)) zr12 → ∀ zx14 : Int32, zx14 = x_4 + 1 → J zx14 zm13))
def wpB_Settling_writeDown_55 (k : Nat) (t1 : Nat) (x_2 : Int32)  (Q : zMem → Prop) (J : Int32 → zMem → Prop) (x_3 : Int32) (M : zMem) : Prop :=
  ((M t1 1) ≤ x_3 → wp_Settling_clearOthers k x_2 t1 M (fun zm5 => Q zm5)) ∧ (¬ (M t1 1) ≤ x_3 → wp_Bench_inOneNumber (k + 4) x_3 M (fun zr8 zm7 => vp_in ((x_2 + 1) + x_3) 5520 ∧ ∀ zm9 : zMem, zm9 = zup zm7 (k + 1) (ix ((x_2 + 1) + x_3)) zr8 → ∃ n : Nat, zlp1 (wpB_Settling_writeDown_84 k t1 x_2 x_3 (fun (zm15 : zMem) => ∀ zx16 : Int32, zx16 = x_3 + 1 → J zx16 zm15) Q) n 0 zm9))
def wp_Settling_writeDown (k : Nat) (t1 : Nat) (M : zMem) (Q : zMem → Prop) : Prop :=
  ∀ zx1 : Int32, zx1 = (M k 1) * 46 → vp_in (M k 1) 120 ∧ ∀ zm2 : zMem, zm2 = zup M (k + 2) (ix (M k 1)) (M (k + 4) 3) → vp_in (zm2 k 1) 120 ∧ ∀ zm3 : zMem, zm3 = zup zm2 (k + 3) (ix (zm2 k 1)) (zm2 (k + 4) 2) → vp_in zx1 5520 ∧ ∀ zm4 : zMem, zm4 = zup zm3 (k + 1) (ix zx1) (zm3 (k + 4) 5) → ∃ n : Nat, zlp1 (wpB_Settling_writeDown_55 k t1 zx1  Q) n 0 zm4
set_option maxHeartbeats 4000000 in
set_option maxRecDepth 20000 in
theorem c_Settling_writeDown {l : Launch} {w : zWd} {k : Nat} {t1 : Nat} {M : zMem} {post : zMem → Prop} (h0 : zI_Settling w k) (h1 : zI_Told w t1) (h : wp_Settling_writeDown k t1 M post) : zMv l ⟨"HandToHand$Settling", "writeDown", "(LHandToHand$Told;)V"⟩ prog_9_method_3_code 6 none 2 46 w [.ref (zad w k), .ref (zad w t1)] M post := by
  refine zMet (by decide) (Nat.le_of_ble_eq_true rfl) ?_
  intro p e s m below meth c X hr hlk hml hW ls hl
  have hx := X.1
  have hb := X.2.1
  have hl : lv_has ls 6 [(0, .ref (zad w k)), (1, .ref (zad w t1))] := hl
  have zL_84 : ∀ (x_2 : Int32) (x_3 : Int32) (K138 : zMem → Prop) (zK138 : ∀ (M : zMem) (H : Heap) (locs : List Loc) (ls : Array Slot), zWo w s.heap M H locs → lv_has ls 6 [(0, .ref (zad w k)), (1, .ref (zad w t1)), (2, .int x_2), (3, .int x_3)] → K138 M → W p l e (zRm 2 46) s m ([.ref (zad w k), .ref (zad w t1)] : List Value).toArray below meth c H locs 0 0 (MQ below (va_Qv post (zB w) (zA w)) ([.ref (zad w k), .ref (zad w t1)] : List Value).toArray s 0 0 (zA w)) (F0 m 138 ls [])), ∀ (n : Nat) (x_4 : Int32) (M : zMem) (H : Heap) (locs : List Loc) (ls : Array Slot), zWo w s.heap M H locs → lv_has ls 6 [(0, .ref (zad w k)), (1, .ref (zad w t1)), (2, .int x_2), (3, .int x_3), (4, .int x_4)] → zlp1 (wpB_Settling_writeDown_84 k t1 x_2 x_3 K138 post) n x_4 M → W p l e (zRm 2 46) s m ([.ref (zad w k), .ref (zad w t1)] : List Value).toArray below meth c H locs 0 0 (MQ below (va_Qv post (zB w) (zA w)) ([.ref (zad w k), .ref (zad w t1)] : List Value).toArray s 0 0 (zA w)) (F0 m 84 ls []) := by
    intro x_2 x_3 K138 zK138 n
    induction n with
    | zero => intro x_4 M H locs ls hW hl h; exact h.elim
    | succ n zJ =>
      intro x_4 M H locs ls hW hl h
      have h : wpB_Settling_writeDown_84 k t1 x_2 x_3 K138 post (zlp1 (wpB_Settling_writeDown_84 k t1 x_2 x_3 K138 post) n) x_4 M := h
      unfold wpB_Settling_writeDown_84 at h
      refine lv_iload hx hb dX7_writeDown_84 (lv_at hl 4 rfl) ?_
      refine lv_aload_n hx hb dX7_writeDown_86 rfl (lv_at hl 1 rfl) ?_
      refine zg_Told_pieces X hW h1 zu_33 dX7_writeDown_87 ?_
      refine lv_icmp_ge (tgt := 138) hx hb dX7_writeDown_90 rfl (fun c => ?_) (fun c => ?_)
      · replace h := h.1 c
        exact zK138 M H locs ls hW (lv_sub hl [0, 1, 2, 3] rfl) h
      · replace h := h.2 c
        refine lv_iload_n hx hb dX7_writeDown_93 rfl (lv_at hl 3 rfl) ?_
        refine lv_bipush hx hb dX7_writeDown_94 zc_b8 ?_
        refine lv_imul hx hb dX7_writeDown_96 ?_
        refine lv_iload hx hb dX7_writeDown_97 (lv_at hl 4 rfl) ?_
        refine lv_iadd hx hb dX7_writeDown_99 ?_
        refine lv_topi (fun zx10 ezx10 => ?_)
        replace h := h zx10 ezx10
        refine lv_istore (lv' := [(5, .int zx10), (0, .ref (zad w k)), (1, .ref (zad w t1)), (2, .int x_2), (3, .int x_3), (4, .int x_4)]) hx hb dX7_writeDown_100 hl (Nat.le_of_ble_eq_true rfl) rfl (fun ls hl => ?_)
        refine lv_aload_n hx hb dX7_writeDown_102 rfl (lv_at hl 1 rfl) ?_
        refine zg_Settling_rows X hW h0 zu_272 dX7_writeDown_103 ?_
        refine lv_iload_n hx hb dX7_writeDown_106 rfl (lv_at hl 3 rfl) ?_
        refine lv_iconst hx hb dX7_writeDown_107 zc_i1 ?_
        refine lv_iadd hx hb dX7_writeDown_108 ?_
        refine lv_iconst hx hb dX7_writeDown_109 zc_i5 ?_
        refine lv_iadd hx hb dX7_writeDown_110 ?_
        refine lv_iload hx hb dX7_writeDown_111 (lv_at hl 0 rfl) ?_
        refine lv_iadd hx hb dX7_writeDown_113 ?_
        refine lv_aload_n hx hb dX7_writeDown_114 rfl (lv_at hl 2 rfl) ?_
        refine lv_iload_n hx hb dX7_writeDown_115 rfl (lv_at hl 4 rfl) ?_
        refine lv_iload hx hb dX7_writeDown_116 (lv_at hl 5 rfl) ?_
        refine lv_aload_n hx hb dX7_writeDown_118 rfl (lv_at hl 1 rfl) ?_
        refine zg_Settling_bench X hW h0 zu_270 dX7_writeDown_119 ?_
        refine zg_Bench_learned X hW h0.2.2.2.2 zu_188 dX7_writeDown_122 ?_
        refine lv_iload hx hb dX7_writeDown_125 (lv_at hl 0 rfl) ?_
        obtain ⟨g, h⟩ := h
        refine ziald X hW h0.2.2.2.2.2.2.2.2.2.2.2.1 g dX7_writeDown_127 ?_
        refine zcalli (zrunV (As := [.int x_3, .int x_4, .int (M (k + 11) (ix zx10))]) (rest := [.int (((x_2 + 1) + 5) + zx10), .ref (zad w (k + 1))]) X hml hl hW h1.1 rfl zk_Settling_97 (c_Told_learnedThatCounts h1 h) rfl ⟨Nat.le_of_ble_eq_true rfl, Nat.le_of_ble_eq_true rfl⟩ ⟨Nat.le_refl 0, Nat.le_refl 0⟩ rfl (Nat.le_of_ble_eq_true rfl) dX7_writeDown_128) hW (fun zr12 zm11 H locs h hW => ?_)
        obtain ⟨g, h⟩ := h
        refine ziast X hW h0.2.1 g dX7_writeDown_131 (fun H locs zm13 ezm13 hW => ?_)
        replace h := h zm13 ezm13
        obtain ⟨zx14, ezx14⟩ : ∃ y : Int32, y = x_4 + 1 := ⟨_, rfl⟩
        replace h := h zx14 ezx14
        refine lv_iinc (v := zx14) (lv' := [(4, .int zx14), (5, .int zx10), (0, .ref (zad w k)), (1, .ref (zad w t1)), (2, .int x_2), (3, .int x_3)]) hx hb dX7_writeDown_132 hl (k := 5) rfl (by rw [ezx14, zc_i1]) (Nat.le_of_ble_eq_true rfl) rfl (fun ls hl => ?_)
        refine lv_goto (tgt := 84) hx hb dX7_writeDown_135 rfl ?_
        exact zJ zx14 zm13 H locs ls hW (lv_sub hl [2, 3, 4, 5, 0] rfl) h
  have zL_55 : ∀ (x_2 : Int32), ∀ (n : Nat) (x_3 : Int32) (M : zMem) (H : Heap) (locs : List Loc) (ls : Array Slot), zWo w s.heap M H locs → lv_has ls 6 [(0, .ref (zad w k)), (1, .ref (zad w t1)), (2, .int x_2), (3, .int x_3)] → zlp1 (wpB_Settling_writeDown_55 k t1 x_2  post) n x_3 M → W p l e (zRm 2 46) s m ([.ref (zad w k), .ref (zad w t1)] : List Value).toArray below meth c H locs 0 0 (MQ below (va_Qv post (zB w) (zA w)) ([.ref (zad w k), .ref (zad w t1)] : List Value).toArray s 0 0 (zA w)) (F0 m 55 ls []) := by
    intro x_2 n
    induction n with
    | zero => intro x_3 M H locs ls hW hl h; exact h.elim
    | succ n zJ =>
      intro x_3 M H locs ls hW hl h
      have h : wpB_Settling_writeDown_55 k t1 x_2  post (zlp1 (wpB_Settling_writeDown_55 k t1 x_2  post) n) x_3 M := h
      unfold wpB_Settling_writeDown_55 at h
      refine lv_iload_n hx hb dX7_writeDown_55 rfl (lv_at hl 3 rfl) ?_
      refine lv_aload_n hx hb dX7_writeDown_56 rfl (lv_at hl 1 rfl) ?_
      refine zg_Told_hands X hW h1 zu_38 dX7_writeDown_57 ?_
      refine lv_icmp_ge (tgt := 144) hx hb dX7_writeDown_60 rfl (fun c => ?_) (fun c => ?_)
      · replace h := h.1 c
        refine lv_aload_n hx hb dX7_writeDown_144 rfl (lv_at hl 0 rfl) ?_
        refine lv_iload_n hx hb dX7_writeDown_145 rfl (lv_at hl 2 rfl) ?_
        refine lv_aload_n hx hb dX7_writeDown_146 rfl (lv_at hl 1 rfl) ?_
        refine zcallv (zrunV (As := [.int x_2, .ref (zad w t1)]) (rest := []) X hml hl hW h0.1 rfl zk_Settling_101 (c_Settling_clearOthers h0 h1 h) rfl ⟨Nat.le_of_ble_eq_true rfl, Nat.le_of_ble_eq_true rfl⟩ ⟨Nat.le_refl 0, Nat.le_refl 0⟩ rfl (Nat.le_of_ble_eq_true rfl) dX7_writeDown_147) hW (fun zm5 H locs h hW => ?_)
        exact zretv X hr hlk hW h dX7_writeDown_150
      · replace h := h.2 c
        refine lv_aload_n hx hb dX7_writeDown_63 rfl (lv_at hl 0 rfl) ?_
        refine zg_Settling_rows X hW h0 zu_272 dX7_writeDown_64 ?_
        refine lv_iload_n hx hb dX7_writeDown_67 rfl (lv_at hl 2 rfl) ?_
        refine lv_iconst hx hb dX7_writeDown_68 zc_i1 ?_
        refine lv_iadd hx hb dX7_writeDown_69 ?_
        refine lv_iload_n hx hb dX7_writeDown_70 rfl (lv_at hl 3 rfl) ?_
        refine lv_iadd hx hb dX7_writeDown_71 ?_
        refine lv_aload_n hx hb dX7_writeDown_72 rfl (lv_at hl 0 rfl) ?_
        refine zg_Settling_bench X hW h0 zu_270 dX7_writeDown_73 ?_
        refine lv_iload_n hx hb dX7_writeDown_76 rfl (lv_at hl 3 rfl) ?_
        refine zcalli (zrunV (As := [.int x_3]) (rest := [.int ((x_2 + 1) + x_3), .ref (zad w (k + 1))]) X hml hl hW h0.2.2.2.2.1 rfl zk_Settling_87 (c_Bench_inOneNumber h0.2.2.2.2 h) rfl ⟨Nat.le_of_ble_eq_true rfl, Nat.le_of_ble_eq_true rfl⟩ ⟨Nat.le_refl 0, Nat.le_refl 0⟩ rfl (Nat.le_of_ble_eq_true rfl) dX7_writeDown_77) hW (fun zr8 zm7 H locs h hW => ?_)
        obtain ⟨g, h⟩ := h
        refine ziast X hW h0.2.1 g dX7_writeDown_80 (fun H locs zm9 ezm9 hW => ?_)
        replace h := h zm9 ezm9
        refine lv_iconst hx hb dX7_writeDown_81 zc_i0 ?_
        refine lv_istore (lv' := [(4, .int 0), (0, .ref (zad w k)), (1, .ref (zad w t1)), (2, .int x_2), (3, .int x_3)]) hx hb dX7_writeDown_82 hl (Nat.le_of_ble_eq_true rfl) rfl (fun ls hl => ?_)
        obtain ⟨n, h⟩ := h
        refine zL_84 x_2 x_3 _ (fun  zm15 H locs ls hW hl h => ?_) n 0 zm9 H locs ls hW (lv_sub hl [1, 2, 3, 4, 0] rfl) h
        · skip
          obtain ⟨zx16, ezx16⟩ : ∃ y : Int32, y = x_3 + 1 := ⟨_, rfl⟩
          replace h := h zx16 ezx16
          refine lv_iinc (v := zx16) (lv' := [(3, .int zx16), (0, .ref (zad w k)), (1, .ref (zad w t1)), (2, .int x_2)]) hx hb dX7_writeDown_138 hl (k := 3) rfl (by rw [ezx16, zc_i1]) (Nat.le_of_ble_eq_true rfl) rfl (fun ls hl => ?_)
          refine lv_goto (tgt := 55) hx hb dX7_writeDown_141 rfl ?_
          exact zJ zx16 zm15 H locs ls hW (lv_sub hl [1, 2, 3, 0] rfl) h
  unfold wp_Settling_writeDown at h
  have zMain : ∀ (H : Heap) (locs : List Loc) (ls : Array Slot), zWo w s.heap M H locs → lv_has ls 6 [(0, .ref (zad w k)), (1, .ref (zad w t1))] → W p l e (zRm 2 46) s m ([.ref (zad w k), .ref (zad w t1)] : List Value).toArray below meth c H locs 0 0 (MQ below (va_Qv post (zB w) (zA w)) ([.ref (zad w k), .ref (zad w t1)] : List Value).toArray s 0 0 (zA w)) (F0 m 0 ls []) := by
    intro H locs ls hW hl
    refine lv_aload_n hx hb dX7_writeDown_0 rfl (lv_at hl 0 rfl) ?_
    refine zg_Settling_records X hW h0 zu_271 dX7_writeDown_1 ?_
    refine lv_bipush hx hb dX7_writeDown_4 zc_b46 ?_
    refine lv_imul hx hb dX7_writeDown_6 ?_
    refine lv_topi (fun zx1 ezx1 => ?_)
    replace h := h zx1 ezx1
    refine lv_istore_n (lv' := [(2, .int zx1), (0, .ref (zad w k)), (1, .ref (zad w t1))]) hx hb dX7_writeDown_7 rfl hl (Nat.le_of_ble_eq_true rfl) rfl (fun ls hl => ?_)
    refine lv_aload_n hx hb dX7_writeDown_8 rfl (lv_at hl 1 rfl) ?_
    refine zg_Settling_dones X hW h0 zu_273 dX7_writeDown_9 ?_
    refine lv_aload_n hx hb dX7_writeDown_12 rfl (lv_at hl 1 rfl) ?_
    refine zg_Settling_records X hW h0 zu_271 dX7_writeDown_13 ?_
    refine lv_aload_n hx hb dX7_writeDown_16 rfl (lv_at hl 1 rfl) ?_
    refine zg_Settling_bench X hW h0 zu_270 dX7_writeDown_17 ?_
    refine zg_Bench_done X hW h0.2.2.2.2 zu_168 dX7_writeDown_20 ?_
    obtain ⟨g, h⟩ := h
    refine ziast X hW h0.2.2.1 g dX7_writeDown_23 (fun H locs zm2 ezm2 hW => ?_)
    replace h := h zm2 ezm2
    refine lv_aload_n hx hb dX7_writeDown_24 rfl (lv_at hl 1 rfl) ?_
    refine zg_Settling_ticks X hW h0 zu_274 dX7_writeDown_25 ?_
    refine lv_aload_n hx hb dX7_writeDown_28 rfl (lv_at hl 1 rfl) ?_
    refine zg_Settling_records X hW h0 zu_271 dX7_writeDown_29 ?_
    refine lv_aload_n hx hb dX7_writeDown_32 rfl (lv_at hl 1 rfl) ?_
    refine zg_Settling_bench X hW h0 zu_270 dX7_writeDown_33 ?_
    refine zg_Bench_tick X hW h0.2.2.2.2 zu_164 dX7_writeDown_36 ?_
    obtain ⟨g, h⟩ := h
    refine ziast X hW h0.2.2.2.1 g dX7_writeDown_39 (fun H locs zm3 ezm3 hW => ?_)
    replace h := h zm3 ezm3
    refine lv_aload_n hx hb dX7_writeDown_40 rfl (lv_at hl 1 rfl) ?_
    refine zg_Settling_rows X hW h0 zu_272 dX7_writeDown_41 ?_
    refine lv_iload_n hx hb dX7_writeDown_44 rfl (lv_at hl 0 rfl) ?_
    refine lv_aload_n hx hb dX7_writeDown_45 rfl (lv_at hl 1 rfl) ?_
    refine zg_Settling_bench X hW h0 zu_270 dX7_writeDown_46 ?_
    refine zg_Bench_place X hW h0.2.2.2.2 zu_173 dX7_writeDown_49 ?_
    obtain ⟨g, h⟩ := h
    refine ziast X hW h0.2.1 g dX7_writeDown_52 (fun H locs zm4 ezm4 hW => ?_)
    replace h := h zm4 ezm4
    refine lv_iconst hx hb dX7_writeDown_53 zc_i0 ?_
    refine lv_istore_n (lv' := [(3, .int 0), (2, .int zx1), (0, .ref (zad w k)), (1, .ref (zad w t1))]) hx hb dX7_writeDown_54 rfl hl (Nat.le_of_ble_eq_true rfl) rfl (fun ls hl => ?_)
    obtain ⟨n, h⟩ := h
    refine zL_55 zx1  n 0 zm4 H locs ls hW (lv_sub hl [2, 3, 1, 0] rfl) h
  exact zMain s.heap [] ls hW hl
