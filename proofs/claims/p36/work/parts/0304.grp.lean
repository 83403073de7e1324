def wpB_Bench_mostStoodAt_4 (k : Nat)   (Q : Int32 → zMem → Prop) (J : Int32 → Int32 → zMem → Prop) (x_1 : Int32) (x_2 : Int32) (M : zMem) : Prop :=
  ((M (ztc (M k 0)) 0) ≤ x_2 → vp_in x_1 8 ∧ ((M (k + 8) (ix x_1)) ≤ 0 → Q ((-4)) M) ∧ (¬ (M (k + 8) (ix x_1)) ≤ 0 → Q x_1 M)) ∧ (¬ (M (ztc (M k 0)) 0) ≤ x_2 → vp_in x_2 8 ∧ vp_in x_1 8 ∧ ((M (k + 8) (ix x_2)) ≤ (M (k + 8) (ix x_1)) → ∀ zx1 : Int32, zx1 = x_2 + 1 → J x_1 zx1 M) ∧ (¬ (M (k + 8) (ix x_2)) ≤ (M (k + 8) (ix x_1)) → ∀ zx2 : Int32, zx2 = x_2 + 1 → J x_2 zx2 M))
def wp_Bench_mostStoodAt (k : Nat) (M : zMem) (Q : Int32 → zMem → Prop) : Prop :=
  ∃ n : Nat, zlp2 (wpB_Bench_mostStoodAt_4 k   Q) n 0 1 M
set_option maxHeartbeats 4000000 in
set_option maxRecDepth 20000 in
theorem c_Bench_mostStoodAt {l : Launch} {w : zWd} {k : Nat} {M : zMem} {post : Int32 → zMem → Prop} (h0 : zI_Bench w k) (h : wp_Bench_mostStoodAt k M post) : zMi l ⟨"HandToHand$Bench", "mostStoodAt", "()I"⟩ prog_2_method_18_code 3 (Option.some .int) 0 0 w [.ref (zad w k)] M post := by
  refine zMet (by decide) (Nat.le_of_ble_eq_true rfl) ?_
  intro p e s m below meth c X hr hlk hml hW ls hl
  have hx := X.1
  have hb := X.2.1
  have hl : lv_has ls 3 [(0, .ref (zad w k))] := hl
  have zL_4 :  ∀ (n : Nat) (x_1 : Int32) (x_2 : Int32) (M : zMem) (H : Heap) (locs : List Loc) (ls : Array Slot), zWo w s.heap M H locs → lv_has ls 3 [(0, .ref (zad w k)), (1, .int x_1), (2, .int x_2)] → zlp2 (wpB_Bench_mostStoodAt_4 k   post) n x_1 x_2 M → W p l e (zRm 0 0) s m ([.ref (zad w k)] : List Value).toArray below meth c H locs 0 0 (MQ below (va_Qi post (zB w) (zA w)) ([.ref (zad w k)] : List Value).toArray s 0 0 (zA w)) (F0 m 4 ls []) := by
    intro n
    induction n with
    | zero => intro x_1 x_2 M H locs ls hW hl h; exact h.elim
    | succ n zJ =>
      intro x_1 x_2 M H locs ls hW hl h
      have h : wpB_Bench_mostStoodAt_4 k   post (zlp2 (wpB_Bench_mostStoodAt_4 k   post) n) x_1 x_2 M := h
      unfold wpB_Bench_mostStoodAt_4 at h
      refine lv_iload_n hx hb dX0_mostStoodAt_4 rfl (lv_at hl 2 rfl) ?_
      refine lv_aload_n hx hb dX0_mostStoodAt_5 rfl (lv_at hl 0 rfl) ?_
      refine zg_Bench_told X hW h0 zu_160 dX0_mostStoodAt_6 ?_
      refine zg_Told_pieces X hW (h0.2.2.2.2.2.2.2.2.2.1 _) zu_36 dX0_mostStoodAt_9 ?_
      refine lv_icmp_ge (tgt := 38) hx hb dX0_mostStoodAt_12 rfl (fun c => ?_) (fun c => ?_)
      · replace h := h.1 c
        refine lv_aload_n hx hb dX0_mostStoodAt_38 rfl (lv_at hl 0 rfl) ?_
        refine zg_Bench_stood X hW h0 zu_190 dX0_mostStoodAt_39 ?_
        refine lv_iload_n hx hb dX0_mostStoodAt_42 rfl (lv_at hl 1 rfl) ?_
        obtain ⟨g, h⟩ := h
        refine ziald X hW h0.2.2.2.2.2.2.2.2.1 g dX0_mostStoodAt_43 ?_
        refine lv_if_le (tgt := 51) hx hb dX0_mostStoodAt_44 rfl (fun c => ?_) (fun c => ?_)
        · replace h := h.1 c
          refine lv_bipush hx hb dX0_mostStoodAt_51 zc_bm4 ?_
          exact zreti X hr hlk hW h dX0_mostStoodAt_53
        · replace h := h.2 c
          refine lv_iload_n hx hb dX0_mostStoodAt_47 rfl (lv_at hl 1 rfl) ?_
          refine lv_goto (tgt := 53) hx hb dX0_mostStoodAt_48 rfl ?_
          exact zreti X hr hlk hW h dX0_mostStoodAt_53
      · replace h := h.2 c
        refine lv_aload_n hx hb dX0_mostStoodAt_15 rfl (lv_at hl 0 rfl) ?_
        refine zg_Bench_stood X hW h0 zu_190 dX0_mostStoodAt_16 ?_
        refine lv_iload_n hx hb dX0_mostStoodAt_19 rfl (lv_at hl 2 rfl) ?_
        obtain ⟨g, h⟩ := h
        refine ziald X hW h0.2.2.2.2.2.2.2.2.1 g dX0_mostStoodAt_20 ?_
        refine lv_aload_n hx hb dX0_mostStoodAt_21 rfl (lv_at hl 0 rfl) ?_
        refine zg_Bench_stood X hW h0 zu_190 dX0_mostStoodAt_22 ?_
        refine lv_iload_n hx hb dX0_mostStoodAt_25 rfl (lv_at hl 1 rfl) ?_
        obtain ⟨g, h⟩ := h
        refine ziald X hW h0.2.2.2.2.2.2.2.2.1 g dX0_mostStoodAt_26 ?_
        refine lv_icmp_le (tgt := 32) hx hb dX0_mostStoodAt_27 rfl (fun c => ?_) (fun c => ?_)
        · replace h := h.1 c
          obtain ⟨zx1, ezx1⟩ : ∃ y : Int32, y = x_2 + 1 := ⟨_, rfl⟩
          replace h := h zx1 ezx1
          refine lv_iinc (v := zx1) (lv' := [(2, .int zx1), (0, .ref (zad w k)), (1, .int x_1)]) hx hb dX0_mostStoodAt_32 hl (k := 2) rfl (by rw [ezx1, zc_i1]) (Nat.le_of_ble_eq_true rfl) rfl (fun ls hl => ?_)
          refine lv_goto (tgt := 4) hx hb dX0_mostStoodAt_35 rfl ?_
          exact zJ x_1 zx1 M H locs ls hW (lv_sub hl [1, 2, 0] rfl) h
        · replace h := h.2 c
          refine lv_iload_n hx hb dX0_mostStoodAt_30 rfl (lv_at hl 2 rfl) ?_
          refine lv_istore_n (lv' := [(1, .int x_2), (0, .ref (zad w k)), (2, .int x_2)]) hx hb dX0_mostStoodAt_31 rfl hl (Nat.le_of_ble_eq_true rfl) rfl (fun ls hl => ?_)
          obtain ⟨zx2, ezx2⟩ : ∃ y : Int32, y = x_2 + 1 := ⟨_, rfl⟩
          replace h := h zx2 ezx2
          refine lv_iinc (v := zx2) (lv' := [(2, .int zx2), (1, .int x_2), (0, .ref (zad w k))]) hx hb dX0_mostStoodAt_32 hl (k := 2) rfl (by rw [ezx2, zc_i1]) (Nat.le_of_ble_eq_true rfl) rfl (fun ls hl => ?_)
          refine lv_goto (tgt := 4) hx hb dX0_mostStoodAt_35 rfl ?_
          exact zJ x_2 zx2 M H locs ls hW (lv_sub hl [2, 1, 0] rfl) h
  unfold wp_Bench_mostStoodAt at h
  have zMain : ∀ (H : Heap) (locs : List Loc) (ls : Array Slot), zWo w s.heap M H locs → lv_has ls 3 [(0, .ref (zad w k))] → W p l e (zRm 0 0) s m ([.ref (zad w k)] : List Value).toArray below meth c H locs 0 0 (MQ below (va_Qi post (zB w) (zA w)) ([.ref (zad w k)] : List Value).toArray s 0 0 (zA w)) (F0 m 0 ls []) := by
    intro H locs ls hW hl
    refine lv_iconst hx hb dX0_mostStoodAt_0 zc_i0 ?_
    refine lv_istore_n (lv' := [(1, .int 0), (0, .ref (zad w k))]) hx hb dX0_mostStoodAt_1 rfl hl (Nat.le_of_ble_eq_true rfl) rfl (fun ls hl => ?_)
    refine lv_iconst hx hb dX0_mostStoodAt_2 zc_i1 ?_
    refine lv_istore_n (lv' := [(2, .int 1), (1, .int 0), (0, .ref (zad w k))]) hx hb dX0_mostStoodAt_3 rfl hl (Nat.le_of_ble_eq_true rfl) rfl (fun ls hl => ?_)
    obtain ⟨n, h⟩ := h
    refine zL_4   n 0 1 M H locs ls hW (lv_sub hl [2, 1, 0] rfl) h
  exact zMain s.heap [] ls hW hl
def wp_Ring_lose (k : Nat) (M : zMem) (Q : zMem → Prop) : Prop :=
  ∀ zm1 : zMem, zm1 = zup M k 0 1 → ∀ zm2 : zMem, zm2 = zup zm1 k 1 0 → ∀ zm3 : zMem, zm3 = zup zm2 k 6 0 → ∀ zm4 : zMem, zm4 = zup zm3 k 7 1 → Q zm4
set_option maxHeartbeats 4000000 in
set_option maxRecDepth 20000 in
theorem c_Ring_lose {l : Launch} {w : zWd} {k : Nat} {M : zMem} {post : zMem → Prop} (h0 : zI_Ring w k) (h : wp_Ring_lose k M post) : zMv l ⟨"HandToHand$Ring", "lose", "()V"⟩ prog_8_method_2_code 1 none 0 0 w [.ref (zad w k)] M post := by
  refine zMet (by decide) (Nat.le_of_ble_eq_true rfl) ?_
  intro p e s m below meth c X hr hlk hml hW ls hl
  have hx := X.1
  have hb := X.2.1
  have hl : lv_has ls 1 [(0, .ref (zad w k))] := hl
  unfold wp_Ring_lose at h
  have zMain : ∀ (H : Heap) (locs : List Loc) (ls : Array Slot), zWo w s.heap M H locs → lv_has ls 1 [(0, .ref (zad w k))] → W p l e (zRm 0 0) s m ([.ref (zad w k)] : List Value).toArray below meth c H locs 0 0 (MQ below (va_Qv post (zB w) (zA w)) ([.ref (zad w k)] : List Value).toArray s 0 0 (zA w)) (F0 m 0 ls []) := by
    intro H locs ls hW hl
    refine lv_aload_n hx hb dX6_lose_0 rfl (lv_at hl 0 rfl) ?_
    refine lv_iconst hx hb dX6_lose_1 zc_i1 ?_
    refine zp_Ring_known X hW h0 zbo_1 zu_292 dX6_lose_2 (fun H locs zm1 ezm1 hW => ?_)
    replace h := h zm1 ezm1
    refine lv_aload_n hx hb dX6_lose_5 rfl (lv_at hl 0 rfl) ?_
    refine lv_iconst hx hb dX6_lose_6 zc_i0 ?_
    refine zp_Ring_found X hW h0 zbo_0 zu_294 dX6_lose_7 (fun H locs zm2 ezm2 hW => ?_)
    replace h := h zm2 ezm2
    refine lv_aload_n hx hb dX6_lose_10 rfl (lv_at hl 0 rfl) ?_
    refine lv_iconst hx hb dX6_lose_11 zc_i0 ?_
    refine zp_Ring_top X hW h0 zu_307 dX6_lose_12 (fun H locs zm3 ezm3 hW => ?_)
    replace h := h zm3 ezm3
    refine lv_aload_n hx hb dX6_lose_15 rfl (lv_at hl 0 rfl) ?_
    refine lv_iconst hx hb dX6_lose_16 zc_i1 ?_
    refine zp_Ring_bottom X hW h0 zu_310 dX6_lose_17 (fun H locs zm4 ezm4 hW => ?_)
    replace h := h zm4 ezm4
    exact zretv X hr hlk hW h dX6_lose_20
  exact zMain s.heap [] ls hW hl
def wpB_Main_commonDivisor_3 (a1 : Int64) (a2 : Int64)   (Q : Int64 → zMem → Prop) (J : Int64 → Int64 → Int32 → zMem → Prop) (x_0 : Int64) (x_2 : Int64) (x_4 : Int32) (M : zMem) : Prop :=
  (1000000 ≤ x_4 → Q x_0 M) ∧ (¬ 1000000 ≤ x_4 → ((lg_cmp x_2 0) = 0 → Q x_0 M) ∧ (¬ (lg_cmp x_2 0) = 0 → (¬ x_2 = 0) ∧ ∀ zx1 : Int64, zx1 = x_0 - x_0 / x_2 * x_2 → ∀ zx2 : Int32, zx2 = x_4 + 1 → J x_2 zx1 zx2 M))
def wp_Main_commonDivisor (a1 : Int64) (a2 : Int64) (M : zMem) (Q : Int64 → zMem → Prop) : Prop :=
  ∃ n : Nat, zlp3 (wpB_Main_commonDivisor_3 a1 a2   Q) n a1 a2 0 M
set_option maxHeartbeats 4000000 in
set_option maxRecDepth 20000 in
theorem c_Main_commonDivisor {l : Launch} {w : zWd} {a1 : Int64} {a2 : Int64} {M : zMem} {post : Int64 → zMem → Prop}  (h : wp_Main_commonDivisor a1 a2 M post) : zMl l ⟨"HandToHand", "commonDivisor", "(JJ)J"⟩ prog_1_method_47_code 7 (Option.some .long) 0 0 w [.long a1, .long a2] M post := by
  refine zMet (by decide) (Nat.le_of_ble_eq_true rfl) ?_
  intro p e s m below meth c X hr hlk hml hW ls hl
  have hx := X.1
  have hb := X.2.1
  have hl : lv_has ls 7 [(0, .long a1), (2, .long a2)] := hl
  have zL_3 :  ∀ (n : Nat) (x_0 : Int64) (x_2 : Int64) (x_4 : Int32) (M : zMem) (H : Heap) (locs : List Loc) (ls : Array Slot), zWo w s.heap M H locs → lv_has ls 7 [(0, .long x_0), (2, .long x_2), (4, .int x_4)] → zlp3 (wpB_Main_commonDivisor_3 a1 a2   post) n x_0 x_2 x_4 M → W p l e (zRm 0 0) s m ([.long a1, .long a2] : List Value).toArray below meth c H locs 0 0 (MQ below (va_Ql post (zB w) (zA w)) ([.long a1, .long a2] : List Value).toArray s 0 0 (zA w)) (F0 m 3 ls []) := by
    intro n
    induction n with
    | zero => intro x_0 x_2 x_4 M H locs ls hW hl h; exact h.elim
    | succ n zJ =>
      intro x_0 x_2 x_4 M H locs ls hW hl h
      have h : wpB_Main_commonDivisor_3 a1 a2   post (zlp3 (wpB_Main_commonDivisor_3 a1 a2   post) n) x_0 x_2 x_4 M := h
      unfold wpB_Main_commonDivisor_3 at h
      refine lv_iload hx hb dX10_commonDivisor_3 (lv_at hl 2 rfl) ?_
      refine lv_ldcw hx hb X.2.2.1 (X.2.2.2.1 _ zu_871) dX10_commonDivisor_5 ?_
      refine lv_icmp_ge (tgt := 33) hx hb dX10_commonDivisor_8 rfl (fun c => ?_) (fun c => ?_)
      · replace h := h.1 c
        refine lv_lload_n hx hb dX10_commonDivisor_33 rfl (lv_at hl 0 rfl) ?_
        exact zretl X hr hlk hW h dX10_commonDivisor_34
      · replace h := h.2 c
        refine lv_lload_n hx hb dX10_commonDivisor_11 rfl (lv_at hl 1 rfl) ?_
        refine lv_lconst hx hb dX10_commonDivisor_12 zc_l0 ?_
        refine W.lcmp hx hb dX10_commonDivisor_13 ?_
        refine lv_if_eq (tgt := 33) hx hb dX10_commonDivisor_14 rfl (fun c => ?_) (fun c => ?_)
        · replace h := h.1 c
          refine lv_lload_n hx hb dX10_commonDivisor_33 rfl (lv_at hl 0 rfl) ?_
          exact zretl X hr hlk hW h dX10_commonDivisor_34
        · replace h := h.2 c
          refine lv_lload_n hx hb dX10_commonDivisor_17 rfl (lv_at hl 0 rfl) ?_
          refine lv_lload_n hx hb dX10_commonDivisor_18 rfl (lv_at hl 1 rfl) ?_
          obtain ⟨g, h⟩ := h
          refine lv_lrem hx hb dX10_commonDivisor_19 g ?_
          refine lv_topl (fun zx1 ezx1 => ?_)
          replace h := h zx1 ezx1
          refine lv_lstore (lv' := [(5, .long zx1), (0, .long x_0), (2, .long x_2), (4, .int x_4)]) hx hb dX10_commonDivisor_20 hl (Nat.le_of_ble_eq_true rfl) rfl (fun ls hl => ?_)
          refine lv_lload_n hx hb dX10_commonDivisor_22 rfl (lv_at hl 2 rfl) ?_
          refine lv_lstore_n (lv' := [(0, .long x_2), (5, .long zx1), (2, .long x_2), (4, .int x_4)]) hx hb dX10_commonDivisor_23 rfl hl (Nat.le_of_ble_eq_true rfl) rfl (fun ls hl => ?_)
          refine lv_lload hx hb dX10_commonDivisor_24 (lv_at hl 1 rfl) ?_
          refine lv_lstore_n (lv' := [(2, .long zx1), (0, .long x_2), (5, .long zx1), (4, .int x_4)]) hx hb dX10_commonDivisor_26 rfl hl (Nat.le_of_ble_eq_true rfl) rfl (fun ls hl => ?_)
          obtain ⟨zx2, ezx2⟩ : ∃ y : Int32, y = x_4 + 1 := ⟨_, rfl⟩
          replace h := h zx2 ezx2
          refine lv_iinc (v := zx2) (lv' := [(4, .int zx2), (2, .long zx1), (0, .long x_2), (5, .long zx1)]) hx hb dX10_commonDivisor_27 hl (k := 3) rfl (by rw [ezx2, zc_i1]) (Nat.le_of_ble_eq_true rfl) rfl (fun ls hl => ?_)
          refine lv_goto (tgt := 3) hx hb dX10_commonDivisor_30 rfl ?_
          exact zJ x_2 zx1 zx2 M H locs ls hW (lv_sub hl [2, 1, 0] rfl) h
  unfold wp_Main_commonDivisor at h
  have zMain : ∀ (H : Heap) (locs : List Loc) (ls : Array Slot), zWo w s.heap M H locs → lv_has ls 7 [(0, .long a1), (2, .long a2)] → W p l e (zRm 0 0) s m ([.long a1, .long a2] : List Value).toArray below meth c H locs 0 0 (MQ below (va_Ql post (zB w) (zA w)) ([.long a1, .long a2] : List Value).toArray s 0 0 (zA w)) (F0 m 0 ls []) := by
    intro H locs ls hW hl
    refine lv_iconst hx hb dX10_commonDivisor_0 zc_i0 ?_
    refine lv_istore (lv' := [(4, .int 0), (0, .long a1), (2, .long a2)]) hx hb dX10_commonDivisor_1 hl (Nat.le_of_ble_eq_true rfl) rfl (fun ls hl => ?_)
    obtain ⟨n, h⟩ := h
    refine zL_3   n a1 a2 0 M H locs ls hW (lv_sub hl [1, 2, 0] rfl) h
  exact zMain s.heap [] ls hW hl
def wp_Ring_close (k : Nat) (a1 : Int32) (a2 : Int32) (a3 : Int32) (a4 : Int32) (M : zMem) (Q : zMem → Prop) : Prop :=
  ∀ zm1 : zMem, zm1 = zup M k 1 1 → ∀ zm2 : zMem, zm2 = zup zm1 k 2 a1 → ∀ zm3 : zMem, zm3 = zup zm2 k 5 a2 → ∀ zm4 : zMem, zm4 = zup zm3 k 3 (a3 - a1) → ∀ zm5 : zMem, zm5 = zup zm4 k 4 (a4 - a2) → wp_Main_commonDivisor ((zm5 k 3).toInt64) ((zm5 k 4).toInt64) zm5 (fun zr7 zm6 => ∀ zx8 : Int32, zx8 = zr7.toInt32 → (zx8 ≤ 0 → ∀ zm9 : zMem, zm9 = zup zm6 k 6 (zm6 k 3) → (zx8 ≤ 0 → ∀ zm10 : zMem, zm10 = zup zm9 k 7 (zm9 k 4) → Q zm10) ∧ (¬ zx8 ≤ 0 → (¬ zx8 = 0) ∧ ∀ zm11 : zMem, zm11 = zup zm9 k 7 ((zm9 k 4) / zx8) → Q zm11)) ∧ (¬ zx8 ≤ 0 → (¬ zx8 = 0) ∧ ∀ zm12 : zMem, zm12 = zup zm6 k 6 ((zm6 k 3) / zx8) → (zx8 ≤ 0 → ∀ zm13 : zMem, zm13 = zup zm12 k 7 (zm12 k 4) → Q zm13) ∧ (¬ zx8 ≤ 0 → (¬ zx8 = 0) ∧ ∀ zm14 : zMem, zm14 = zup zm12 k 7 ((zm12 k 4) / zx8) → Q zm14)))
set_option maxHeartbeats 4000000 in
set_option maxRecDepth 20000 in
theorem c_Ring_close {l : Launch} {w : zWd} {k : Nat} {a1 : Int32} {a2 : Int32} {a3 : Int32} {a4 : Int32} {M : zMem} {post : zMem → Prop} (h0 : zI_Ring w k) (h : wp_Ring_close k a1 a2 a3 a4 M post) : zMv l ⟨"HandToHand$Ring", "close", "(IIII)V"⟩ prog_8_method_3_code 6 none 1 26 w [.ref (zad w k), .int a1, .int a2, .int a3, .int a4] M post := by
  refine zMet (by decide) (Nat.le_of_ble_eq_true rfl) ?_
  intro p e s m below meth c X hr hlk hml hW ls hl
  have hx := X.1
  have hb := X.2.1
  have hl : lv_has ls 6 [(0, .ref (zad w k)), (1, .int a1), (2, .int a2), (3, .int a3), (4, .int a4)] := hl
  unfold wp_Ring_close at h
  have zMain : ∀ (H : Heap) (locs : List Loc) (ls : Array Slot), zWo w s.heap M H locs → lv_has ls 6 [(0, .ref (zad w k)), (1, .int a1), (2, .int a2), (3, .int a3), (4, .int a4)] → W p l e (zRm 1 26) s m ([.ref (zad w k), .int a1, .int a2, .int a3, .int a4] : List Value).toArray below meth c H locs 0 0 (MQ below (va_Qv post (zB w) (zA w)) ([.ref (zad w k), .int a1, .int a2, .int a3, .int a4] : List Value).toArray s 0 0 (zA w)) (F0 m 0 ls []) := by
    intro H locs ls hW hl
    refine lv_aload_n hx hb dX6_close_0 rfl (lv_at hl 0 rfl) ?_
    refine lv_iconst hx hb dX6_close_1 zc_i1 ?_
    refine zp_Ring_found X hW h0 zbo_1 zu_294 dX6_close_2 (fun H locs zm1 ezm1 hW => ?_)
    replace h := h zm1 ezm1
    refine lv_aload_n hx hb dX6_close_5 rfl (lv_at hl 0 rfl) ?_
    refine lv_iload_n hx hb dX6_close_6 rfl (lv_at hl 1 rfl) ?_
    refine zp_Ring_ahead X hW h0 zu_297 dX6_close_7 (fun H locs zm2 ezm2 hW => ?_)
    replace h := h zm2 ezm2
    refine lv_aload_n hx hb dX6_close_10 rfl (lv_at hl 0 rfl) ?_
    refine lv_iload_n hx hb dX6_close_11 rfl (lv_at hl 2 rfl) ?_
    refine zp_Ring_from X hW h0 zu_304 dX6_close_12 (fun H locs zm3 ezm3 hW => ?_)
    replace h := h zm3 ezm3
    refine lv_aload_n hx hb dX6_close_15 rfl (lv_at hl 0 rfl) ?_
    refine lv_iload_n hx hb dX6_close_16 rfl (lv_at hl 3 rfl) ?_
    refine lv_iload_n hx hb dX6_close_17 rfl (lv_at hl 1 rfl) ?_
    refine lv_isub hx hb dX6_close_18 ?_
    refine zp_Ring_coats X hW h0 zu_299 dX6_close_19 (fun H locs zm4 ezm4 hW => ?_)
    replace h := h zm4 ezm4
    refine lv_aload_n hx hb dX6_close_22 rfl (lv_at hl 0 rfl) ?_
    refine lv_iload hx hb dX6_close_23 (lv_at hl 4 rfl) ?_
    refine lv_iload_n hx hb dX6_close_25 rfl (lv_at hl 2 rfl) ?_
    refine lv_isub hx hb dX6_close_26 ?_
    refine zp_Ring_ticks X hW h0 zu_301 dX6_close_27 (fun H locs zm5 ezm5 hW => ?_)
    replace h := h zm5 ezm5
    refine lv_aload_n hx hb dX6_close_30 rfl (lv_at hl 0 rfl) ?_
    refine zg_Ring_coats X hW h0 zu_299 dX6_close_31 ?_
    refine lv_i2l hx hb dX6_close_34 rfl ?_
    refine lv_aload_n hx hb dX6_close_35 rfl (lv_at hl 0 rfl) ?_
    refine zg_Ring_ticks X hW h0 zu_301 dX6_close_36 ?_
    refine lv_i2l hx hb dX6_close_39 rfl ?_
    refine zcalll (zrunSN (As := [.long ((zm5 k 3).toInt64), .long ((zm5 k 4).toInt64)]) (rest := []) X hml hl hW zk_Ring_35 (c_Main_commonDivisor  h) rfl ⟨Nat.le_of_ble_eq_true rfl, Nat.le_of_ble_eq_true rfl⟩ ⟨Nat.le_refl 0, Nat.le_refl 0⟩ rfl (Nat.le_of_ble_eq_true rfl) dX6_close_40) hW (fun zr7 zm6 H locs h hW => ?_)
    refine lv_l2i hx hb dX6_close_43 rfl ?_
    refine lv_topi (fun zx8 ezx8 => ?_)
    replace h := h zx8 ezx8
    refine lv_istore (lv' := [(5, .int zx8), (0, .ref (zad w k)), (1, .int a1), (2, .int a2), (3, .int a3), (4, .int a4)]) hx hb dX6_close_44 hl (Nat.le_of_ble_eq_true rfl) rfl (fun ls hl => ?_)
    refine lv_aload_n hx hb dX6_close_46 rfl (lv_at hl 1 rfl) ?_
    refine lv_iload hx hb dX6_close_47 (lv_at hl 0 rfl) ?_
    refine lv_if_le (tgt := 62) hx hb dX6_close_49 rfl (fun c => ?_) (fun c => ?_)
    · replace h := h.1 c
      refine lv_aload_n hx hb dX6_close_62 rfl (lv_at hl 1 rfl) ?_
      refine zg_Ring_coats X hW h0 zu_299 dX6_close_63 ?_
      refine zp_Ring_top X hW h0 zu_307 dX6_close_66 (fun H locs zm9 ezm9 hW => ?_)
      replace h := h zm9 ezm9
      refine lv_aload_n hx hb dX6_close_69 rfl (lv_at hl 1 rfl) ?_
      refine lv_iload hx hb dX6_close_70 (lv_at hl 0 rfl) ?_
      refine lv_if_le (tgt := 85) hx hb dX6_close_72 rfl (fun c => ?_) (fun c => ?_)
      · replace h := h.1 c
        refine lv_aload_n hx hb dX6_close_85 rfl (lv_at hl 1 rfl) ?_
        refine zg_Ring_ticks X hW h0 zu_301 dX6_close_86 ?_
        refine zp_Ring_bottom X hW h0 zu_310 dX6_close_89 (fun H locs zm10 ezm10 hW => ?_)
        replace h := h zm10 ezm10
        exact zretv X hr hlk hW h dX6_close_92
      · replace h := h.2 c
        refine lv_aload_n hx hb dX6_close_75 rfl (lv_at hl 1 rfl) ?_
        refine zg_Ring_ticks X hW h0 zu_301 dX6_close_76 ?_
        refine lv_iload hx hb dX6_close_79 (lv_at hl 0 rfl) ?_
        obtain ⟨g, h⟩ := h
        refine lv_idiv hx hb dX6_close_81 g ?_
        refine lv_goto (tgt := 89) hx hb dX6_close_82 rfl ?_
        refine zp_Ring_bottom X hW h0 zu_310 dX6_close_89 (fun H locs zm11 ezm11 hW => ?_)
        replace h := h zm11 ezm11
        exact zretv X hr hlk hW h dX6_close_92
    · replace h := h.2 c
      refine lv_aload_n hx hb dX6_close_52 rfl (lv_at hl 1 rfl) ?_
      refine zg_Ring_coats X hW h0 zu_299 dX6_close_53 ?_
      refine lv_iload hx hb dX6_close_56 (lv_at hl 0 rfl) ?_
      obtain ⟨g, h⟩ := h
      refine lv_idiv hx hb dX6_close_58 g ?_
      refine lv_goto (tgt := 66) hx hb dX6_close_59 rfl ?_
      refine zp_Ring_top X hW h0 zu_307 dX6_close_66 (fun H locs zm12 ezm12 hW => ?_)
      replace h := h zm12 ezm12
      refine lv_aload_n hx hb dX6_close_69 rfl (lv_at hl 1 rfl) ?_
      refine lv_iload hx hb dX6_close_70 (lv_at hl 0 rfl) ?_
      refine lv_if_le (tgt := 85) hx hb dX6_close_72 rfl (fun c => ?_) (fun c => ?_)
      · replace h := h.1 c
        refine lv_aload_n hx hb dX6_close_85 rfl (lv_at hl 1 rfl) ?_
        refine zg_Ring_ticks X hW h0 zu_301 dX6_close_86 ?_
        refine zp_Ring_bottom X hW h0 zu_310 dX6_close_89 (fun H locs zm13 ezm13 hW => ?_)
        replace h := h zm13 ezm13
        exact zretv X hr hlk hW h dX6_close_92
      · replace h := h.2 c
        refine lv_aload_n hx hb dX6_close_75 rfl (lv_at hl 1 rfl) ?_
        refine zg_Ring_ticks X hW h0 zu_301 dX6_close_76 ?_
        refine lv_iload hx hb dX6_close_79 (lv_at hl 0 rfl) ?_
        obtain ⟨g, h⟩ := h
        refine lv_idiv hx hb dX6_close_81 g ?_
        refine lv_goto (tgt := 89) hx hb dX6_close_82 rfl ?_
        refine zp_Ring_bottom X hW h0 zu_310 dX6_close_89 (fun H locs zm14 ezm14 hW => ?_)
        replace h := h zm14 ezm14
        exact zretv X hr hlk hW h dX6_close_92
  exact zMain s.heap [] ls hW hl
def wpB_Course_runFor_43 (k : Nat) (a1 : Int32)   (Q : zMem → Prop) (J : Int32 → zMem → Prop) (x_2 : Int32) (M : zMem) : Prop :=
  (1000000 ≤ x_2 → Q M) ∧ (¬ 1000000 ≤ x_2 → (a1 ≤ (M (k + 3) 3) → Q M) ∧ (¬ a1 ≤ (M (k + 3) 3) → (¬ (M k 3) = 0 → Q M) ∧ ((M k 3) = 0 → wp_Bench_leastLeft (k + 3) M (fun zr9 zm8 => (¬ zr9 = 0 → wp_Bench_letPass (k + 3) zr9 zm8 (fun zm10 => wp_Bench_doAll (k + 3) zm10 (fun zm12 => ∀ zx14 : Int32, zx14 = x_2 + 1 → J zx14 zm12))) ∧ (zr9 = 0 → ∀ zm15 : zMem, zm15 = zup zm8 k 3 1 → ∀ zx16 : Int32, zx16 = x_2 + 1 → J zx16 zm15)))))
def wp_Course_runFor (k : Nat) (a1 : Int32) (M : zMem) (Q : zMem → Prop) : Prop :=
  (¬ (M k 2) = a1 → ∀ zm1 : zMem, zm1 = zup M k 2 a1 → ∀ zm2 : zMem, zm2 = zup zm1 k 3 0 → ∀ zm3 : zMem, zm3 = zup zm2 (k + 1) 0 0 → wp_Bench_clear (k + 3) zm3 (fun zm4 => wp_Bench_doAll (k + 3) zm4 (fun zm6 => ∃ n : Nat, zlp1 (wpB_Course_runFor_43 k a1   Q) n 0 zm6))) ∧ ((M k 2) = a1 → Q M)
set_option maxHeartbeats 4000000 in
set_option maxRecDepth 20000 in
theorem c_Course_runFor {l : Launch} {w : zWd} {k : Nat} {a1 : Int32} {M : zMem} {post : zMem → Prop} (h0 : zI_Course w k) (h : wp_Course_runFor k a1 M post) : zMv l ⟨"HandToHand$Course", "runFor", "(I)V"⟩ prog_3_method_2_code 4 none 4 92 w [.ref (zad w k), .int a1] M post := by
  refine zMet (by decide) (Nat.le_of_ble_eq_true rfl) ?_
  intro p e s m below meth c X hr hlk hml hW ls hl
  have hx := X.1
  have hb := X.2.1
  have hl : lv_has ls 4 [(0, .ref (zad w k)), (1, .int a1)] := hl
  have zL_43 :  ∀ (n : Nat) (x_2 : Int32) (M : zMem) (H : Heap) (locs : List Loc) (ls : Array Slot), zWo w s.heap M H locs → lv_has ls 4 [(0, .ref (zad w k)), (1, .int a1), (2, .int x_2)] → zlp1 (wpB_Course_runFor_43 k a1   post) n x_2 M → W p l e (zRm 4 92) s m ([.ref (zad w k), .int a1] : List Value).toArray below meth c H locs 0 0 (MQ below (va_Qv post (zB w) (zA w)) ([.ref (zad w k), .int a1] : List Value).toArray s 0 0 (zA w)) (F0 m 43 ls []) := by
    intro n
    induction n with
    | zero => intro x_2 M H locs ls hW hl h; exact h.elim
    | succ n zJ =>
      intro x_2 M H locs ls hW hl h
      have h : wpB_Course_runFor_43 k a1   post (zlp1 (wpB_Course_runFor_43 k a1   post) n) x_2 M := h
      unfold wpB_Course_runFor_43 at h
      refine lv_iload_n hx hb dX1_runFor_43 rfl (lv_at hl 2 rfl) ?_
      refine lv_ldc hx hb X.2.2.1 (X.2.2.2.1 _ zu_795) dX1_runFor_44 ?_
      refine lv_icmp_ge (tgt := 108) hx hb dX1_runFor_46 rfl (fun c => ?_) (fun c => ?_)
      · replace h := h.1 c
        exact zretv X hr hlk hW h dX1_runFor_108
      · replace h := h.2 c
        refine lv_aload_n hx hb dX1_runFor_49 rfl (lv_at hl 0 rfl) ?_
        refine zg_Course_bench X hW h0 zu_247 dX1_runFor_50 ?_
        refine zg_Bench_done X hW h0.2.2 zu_167 dX1_runFor_53 ?_
        refine lv_iload_n hx hb dX1_runFor_56 rfl (lv_at hl 1 rfl) ?_
        refine lv_icmp_ge (tgt := 108) hx hb dX1_runFor_57 rfl (fun c => ?_) (fun c => ?_)
        · replace h := h.1 c
          exact zretv X hr hlk hW h dX1_runFor_108
        · replace h := h.2 c
          refine lv_aload_n hx hb dX1_runFor_60 rfl (lv_at hl 0 rfl) ?_
          refine zg_Course_stuck X hW h0 zu_251 dX1_runFor_61 ?_
          refine lv_if_ne (tgt := 108) hx hb dX1_runFor_64 rfl (fun c => ?_) (fun c => ?_)
          · replace h := h.1 c
            exact zretv X hr hlk hW h dX1_runFor_108
          · replace h := h.2 c
            refine lv_aload_n hx hb dX1_runFor_67 rfl (lv_at hl 0 rfl) ?_
            refine zg_Course_bench X hW h0 zu_247 dX1_runFor_68 ?_
            refine zcalli (zrunV (As := []) (rest := []) X hml hl hW h0.2.2.1 rfl zk_Course_48 (c_Bench_leastLeft h0.2.2 h) rfl ⟨Nat.le_of_ble_eq_true rfl, Nat.le_of_ble_eq_true rfl⟩ ⟨Nat.le_refl 0, Nat.le_refl 0⟩ rfl (Nat.le_of_ble_eq_true rfl) dX1_runFor_71) hW (fun zr9 zm8 H locs h hW => ?_)
            refine lv_istore_n (lv' := [(3, .int zr9), (0, .ref (zad w k)), (1, .int a1), (2, .int x_2)]) hx hb dX1_runFor_74 rfl hl (Nat.le_of_ble_eq_true rfl) rfl (fun ls hl => ?_)
            refine lv_iload_n hx hb dX1_runFor_75 rfl (lv_at hl 0 rfl) ?_
            refine lv_if_ne (tgt := 87) hx hb dX1_runFor_76 rfl (fun c => ?_) (fun c => ?_)
            · replace h := h.1 c
              refine lv_aload_n hx hb dX1_runFor_87 rfl (lv_at hl 1 rfl) ?_
              refine zg_Course_bench X hW h0 zu_247 dX1_runFor_88 ?_
              refine lv_iload_n hx hb dX1_runFor_91 rfl (lv_at hl 0 rfl) ?_
              refine zcallv (zrunV (As := [.int zr9]) (rest := []) X hml hl hW h0.2.2.1 rfl zk_Course_52 (c_Bench_letPass h0.2.2 h) rfl ⟨Nat.le_of_ble_eq_true rfl, Nat.le_of_ble_eq_true rfl⟩ ⟨Nat.le_refl 0, Nat.le_refl 0⟩ rfl (Nat.le_of_ble_eq_true rfl) dX1_runFor_92) hW (fun zm10 H locs h hW => ?_)
              refine lv_aload_n hx hb dX1_runFor_95 rfl (lv_at hl 1 rfl) ?_
              refine zg_Course_bench X hW h0 zu_247 dX1_runFor_96 ?_
              refine zcallv (zrunV (As := []) (rest := []) X hml hl hW h0.2.2.1 rfl zk_Course_41 (c_Bench_doAll h0.2.2 h) rfl ⟨Nat.le_of_ble_eq_true rfl, Nat.le_of_ble_eq_true rfl⟩ ⟨Nat.le_refl 0, Nat.le_refl 0⟩ rfl (Nat.le_of_ble_eq_true rfl) dX1_runFor_99) hW (fun zm12 H locs h hW => ?_)
              obtain ⟨zx14, ezx14⟩ : ∃ y : Int32, y = x_2 + 1 := ⟨_, rfl⟩
              replace h := h zx14 ezx14
              refine lv_iinc (v := zx14) (lv' := [(2, .int zx14), (3, .int zr9), (0, .ref (zad w k)), (1, .int a1)]) hx hb dX1_runFor_102 hl (k := 3) rfl (by rw [ezx14, zc_i1]) (Nat.le_of_ble_eq_true rfl) rfl (fun ls hl => ?_)
              refine lv_goto (tgt := 43) hx hb dX1_runFor_105 rfl ?_
              exact zJ zx14 zm12 H locs ls hW (lv_sub hl [2, 3, 0] rfl) h
            · replace h := h.2 c
              refine lv_aload_n hx hb dX1_runFor_79 rfl (lv_at hl 1 rfl) ?_
              refine lv_iconst hx hb dX1_runFor_80 zc_i1 ?_
              refine zp_Course_stuck X hW h0 zbo_1 zu_251 dX1_runFor_81 (fun H locs zm15 ezm15 hW => ?_)
              replace h := h zm15 ezm15
              refine lv_goto (tgt := 102) hx hb dX1_runFor_84 rfl ?_
              obtain ⟨zx16, ezx16⟩ : ∃ y : Int32, y = x_2 + 1 := ⟨_, rfl⟩
              replace h := h zx16 ezx16
              refine lv_iinc (v := zx16) (lv' := [(2, .int zx16), (3, .int zr9), (0, .ref (zad w k)), (1, .int a1)]) hx hb dX1_runFor_102 hl (k := 3) rfl (by rw [ezx16, zc_i1]) (Nat.le_of_ble_eq_true rfl) rfl (fun ls hl => ?_)
              refine lv_goto (tgt := 43) hx hb dX1_runFor_105 rfl ?_
              exact zJ zx16 zm15 H locs ls hW (lv_sub hl [2, 3, 0] rfl) h
  unfold wp_Course_runFor at h
  have zMain : ∀ (H : Heap) (locs : List Loc) (ls : Array Slot), zWo w s.heap M H locs → lv_has ls 4 [(0, .ref (zad w k)), (1, .int a1)] → W p l e (zRm 4 92) s m ([.ref (zad w k), .int a1] : List Value).toArray below meth c H locs 0 0 (MQ below (va_Qv post (zB w) (zA w)) ([.ref (zad w k), .int a1] : List Value).toArray s 0 0 (zA w)) (F0 m 0 ls []) := by
    intro H locs ls hW hl
    refine lv_aload_n hx hb dX1_runFor_0 rfl (lv_at hl 0 rfl) ?_
    refine zg_Course_coats X hW h0 zu_249 dX1_runFor_1 ?_
    refine lv_iload_n hx hb dX1_runFor_4 rfl (lv_at hl 1 rfl) ?_
    refine lv_icmp_ne (tgt := 9) hx hb dX1_runFor_5 rfl (fun c => ?_) (fun c => ?_)
    · replace h := h.1 c
      refine lv_aload_n hx hb dX1_runFor_9 rfl (lv_at hl 0 rfl) ?_
      refine lv_iload_n hx hb dX1_runFor_10 rfl (lv_at hl 1 rfl) ?_
      refine zp_Course_coats X hW h0 zu_249 dX1_runFor_11 (fun H locs zm1 ezm1 hW => ?_)
      replace h := h zm1 ezm1
      refine lv_aload_n hx hb dX1_runFor_14 rfl (lv_at hl 0 rfl) ?_
      refine lv_iconst hx hb dX1_runFor_15 zc_i0 ?_
      refine zp_Course_stuck X hW h0 zbo_0 zu_251 dX1_runFor_16 (fun H locs zm2 ezm2 hW => ?_)
      replace h := h zm2 ezm2
      refine lv_aload_n hx hb dX1_runFor_19 rfl (lv_at hl 0 rfl) ?_
      refine zg_Course_handings X hW h0 zu_245 dX1_runFor_20 ?_
      refine lv_iconst hx hb dX1_runFor_23 zc_i0 ?_
      refine zp_Handings_size X hW h0.2.1 zu_234 dX1_runFor_24 (fun H locs zm3 ezm3 hW => ?_)
      replace h := h zm3 ezm3
      refine lv_aload_n hx hb dX1_runFor_27 rfl (lv_at hl 0 rfl) ?_
      refine zg_Course_bench X hW h0 zu_247 dX1_runFor_28 ?_
      refine zcallv (zrunV (As := []) (rest := []) X hml hl hW h0.2.2.1 rfl zk_Course_38 (c_Bench_clear h0.2.2 h) rfl ⟨Nat.le_of_ble_eq_true rfl, Nat.le_of_ble_eq_true rfl⟩ ⟨Nat.le_refl 0, Nat.le_refl 0⟩ rfl (Nat.le_of_ble_eq_true rfl) dX1_runFor_31) hW (fun zm4 H locs h hW => ?_)
      refine lv_aload_n hx hb dX1_runFor_34 rfl (lv_at hl 0 rfl) ?_
      refine zg_Course_bench X hW h0 zu_247 dX1_runFor_35 ?_
      refine zcallv (zrunV (As := []) (rest := []) X hml hl hW h0.2.2.1 rfl zk_Course_41 (c_Bench_doAll h0.2.2 h) rfl ⟨Nat.le_of_ble_eq_true rfl, Nat.le_of_ble_eq_true rfl⟩ ⟨Nat.le_refl 0, Nat.le_refl 0⟩ rfl (Nat.le_of_ble_eq_true rfl) dX1_runFor_38) hW (fun zm6 H locs h hW => ?_)
      refine lv_iconst hx hb dX1_runFor_41 zc_i0 ?_
      refine lv_istore_n (lv' := [(2, .int 0), (0, .ref (zad w k)), (1, .int a1)]) hx hb dX1_runFor_42 rfl hl (Nat.le_of_ble_eq_true rfl) rfl (fun ls hl => ?_)
      obtain ⟨n, h⟩ := h
      refine zL_43   n 0 zm6 H locs ls hW (lv_sub hl [1, 2, 0] rfl) h
    · replace h := h.2 c
      exact zretv X hr hlk hW h dX1_runFor_8
  exact zMain s.heap [] ls hW hl
def wpJ_Settling_clearOthers_53 (k : Nat) (a1 : Int32) (t2 : Nat) (K78 : zMem → Prop) (J : Int32 → zMem → Prop) (Q : zMem → Prop) (x_3 : Int32) (x_4 : Int32)  (M : zMem) : Prop :=
  vp_in ((((a1 + 1) + 5) + (x_3 * 8)) + x_4) 5520 ∧ ∀ zm1 : zMem, zm1 = zup M (k + 1) (ix ((((a1 + 1) + 5) + (x_3 * 8)) + x_4)) 0 → ∀ zx2 : Int32, zx2 = x_4 + 1 → J zx2 zm1
def wpB_Settling_clearOthers_29 (k : Nat) (a1 : Int32) (t2 : Nat) (x_3 : Int32) (K78 : zMem → Prop) (Q : zMem → Prop) (J : Int32 → zMem → Prop) (x_4 : Int32) (M : zMem) : Prop :=
  (8 ≤ x_4 → K78 M) ∧ (¬ 8 ≤ x_4 → ((M t2 1) ≤ x_3 → wpJ_Settling_clearOthers_53 k a1 t2 K78 J Q x_3 x_4 M) ∧ (¬ (M t2 1) ≤ x_3 → (x_4 < (M t2 0) → ∀ zx3 : Int32, zx3 = x_4 + 1 → J zx3 M) ∧ (¬ x_4 < (M t2 0) → wpJ_Settling_clearOthers_53 k a1 t2 K78 J Q x_3 x_4 M)))
def wpB_Settling_clearOthers_2 (k : Nat) (a1 : Int32) (t2 : Nat)   (Q : zMem → Prop) (J : Int32 → zMem → Prop) (x_3 : Int32) (M : zMem) : Prop :=
  (5 ≤ x_3 → Q M) ∧ (¬ 5 ≤ x_3 → (x_3 < (M t2 1) → ∃ n : Nat, zlp1 (wpB_Settling_clearOthers_29 k a1 t2 x_3 (fun (zm4 : zMem) => ∀ zx5 : Int32, zx5 = x_3 + 1 → J zx5 zm4) Q) n 0 M) ∧ (¬ x_3 < (M t2 1) → vp_in ((a1 + 1) + x_3) 5520 ∧ ∀ zm6 : zMem, zm6 = zup M (k + 1) (ix ((a1 + 1) + x_3)) 0 → ∃ n : Nat, zlp1 (wpB_Settling_clearOthers_29 k a1 t2 x_3 (fun (zm7 : zMem) => ∀ zx8 : Int32, zx8 = x_3 + 1 → J zx8 zm7) Q) n 0 zm6))
def wp_Settling_clearOthers (k : Nat) (a1 : Int32) (t2 : Nat) (M : zMem) (Q : zMem → Prop) : Prop :=
  ∃ n : Nat, zlp1 (wpB_Settling_clearOthers_2 k a1 t2   Q) n 0 M
set_option maxHeartbeats 4000000 in
set_option maxRecDepth 20000 in
theorem c_Settling_clearOthers {l : Launch} {w : zWd} {k : Nat} {a1 : Int32} {t2 : Nat} {M : zMem} {post : zMem → Prop} (h0 : zI_Settling w k) (h2 : zI_Told w t2) (h : wp_Settling_clearOthers k a1 t2 M post) : zMv l ⟨"HandToHand$Settling", "clearOthers", "(ILHandToHand$Told;)V"⟩ prog_9_method_4_code 5 none 0 0 w [.ref (zad w k), .int a1, .ref (zad w t2)] M post := by
  refine zMet (by decide) (Nat.le_of_ble_eq_true rfl) ?_
  intro p e s m below meth c X hr hlk hml hW ls hl
  have hx := X.1
  have hb := X.2.1
  have hl : lv_has ls 5 [(0, .ref (zad w k)), (1, .int a1), (2, .ref (zad w t2))] := hl
  have zJ_53 : ∀ (x_3 : Int32) (x_4 : Int32) (K78 : zMem → Prop) (zK78 : ∀ (M : zMem) (H : Heap) (locs : List Loc) (ls : Array Slot), zWo w s.heap M H locs → lv_has ls 5 [(0, .ref (zad w k)), (1, .int a1), (2, .ref (zad w t2)), (3, .int x_3)] → K78 M → W p l e (zRm 0 0) s m ([.ref (zad w k), .int a1, .ref (zad w t2)] : List Value).toArray below meth c H locs 0 0 (MQ below (va_Qv post (zB w) (zA w)) ([.ref (zad w k), .int a1, .ref (zad w t2)] : List Value).toArray s 0 0 (zA w)) (F0 m 78 ls [])) (J : Int32 → zMem → Prop) (zJ : ∀ (y_4 : Int32) (M : zMem) (H : Heap) (locs : List Loc) (ls : Array Slot), zWo w s.heap M H locs → lv_has ls 5 [(0, .ref (zad w k)), (1, .int a1), (2, .ref (zad w t2)), (3, .int x_3), (4, .int y_4)] → J y_4 M → W p l e (zRm 0 0) s m ([.ref (zad w k), .int a1, .ref (zad w t2)] : List Value).toArray below meth c H locs 0 0 (MQ below (va_Qv post (zB w) (zA w)) ([.ref (zad w k), .int a1, .ref (zad w t2)] : List Value).toArray s 0 0 (zA w)) (F0 m 29 ls [])) (M : zMem) (H : Heap) (locs : List Loc) (ls : Array Slot), zWo w s.heap M H locs → lv_has ls 5 [(0, .ref (zad w k)), (1, .int a1), (2, .ref (zad w t2)), (3, .int x_3), (4, .int x_4)] → wpJ_Settling_clearOthers_53 k a1 t2 K78 J post x_3 x_4 M → W p l e (zRm 0 0) s m ([.ref (zad w k), .int a1, .ref (zad w t2)] : List Value).toArray below meth c H locs 0 0 (MQ below (va_Qv post (zB w) (zA w)) ([.ref (zad w k), .int a1, .ref (zad w t2)] : List Value).toArray s 0 0 (zA w)) (F0 m 53 ls []) := by
    intro x_3 x_4 K78 zK78 J zJ M H locs ls hW hl h
    unfold wpJ_Settling_clearOthers_53 at h
    refine lv_aload_n hx hb dX7_clearOthers_53 rfl (lv_at hl 0 rfl) ?_
    refine zg_Settling_rows X hW h0 zu_272 dX7_clearOthers_54 ?_
    refine lv_iload_n hx hb dX7_clearOthers_57 rfl (lv_at hl 1 rfl) ?_
    refine lv_iconst hx hb dX7_clearOthers_58 zc_i1 ?_
    refine lv_iadd hx hb dX7_clearOthers_59 ?_
    refine lv_iconst hx hb dX7_clearOthers_60 zc_i5 ?_
    refine lv_iadd hx hb dX7_clearOthers_61 ?_
    refine lv_iload_n hx hb dX7_clearOthers_62 rfl (lv_at hl 3 rfl) ?_
    refine lv_bipush hx hb dX7_clearOthers_63 zc_b8 ?_
    refine lv_imul hx hb dX7_clearOthers_65 ?_
    refine lv_iadd hx hb dX7_clearOthers_66 ?_
    refine lv_iload hx hb dX7_clearOthers_67 (lv_at hl 4 rfl) ?_
    refine lv_iadd hx hb dX7_clearOthers_69 ?_
    refine lv_iconst hx hb dX7_clearOthers_70 zc_i0 ?_
    obtain ⟨g, h⟩ := h
    refine ziast X hW h0.2.1 g dX7_clearOthers_71 (fun H locs zm1 ezm1 hW => ?_)
    replace h := h zm1 ezm1
    obtain ⟨zx2, ezx2⟩ : ∃ y : Int32, y = x_4 + 1 := ⟨_, rfl⟩
    replace h := h zx2 ezx2
    refine lv_iinc (v := zx2) (lv' := [(4, .int zx2), (0, .ref (zad w k)), (1, .int a1), (2, .ref (zad w t2)), (3, .int x_3)]) hx hb dX7_clearOthers_72 hl (k := 4) rfl (by rw [ezx2, zc_i1]) (Nat.le_of_ble_eq_true rfl) rfl (fun ls hl => ?_)
    refine lv_goto (tgt := 29) hx hb dX7_clearOthers_75 rfl ?_
    exact zJ zx2 zm1 H locs ls hW (lv_sub hl [1, 2, 3, 4, 0] rfl) h
  have zL_29 : ∀ (x_3 : Int32) (K78 : zMem → Prop) (zK78 : ∀ (M : zMem) (H : Heap) (locs : List Loc) (ls : Array Slot), zWo w s.heap M H locs → lv_has ls 5 [(0, .ref (zad w k)), (1, .int a1), (2, .ref (zad w t2)), (3, .int x_3)] → K78 M → W p l e (zRm 0 0) s m ([.ref (zad w k), .int a1, .ref (zad w t2)] : List Value).toArray below meth c H locs 0 0 (MQ below (va_Qv post (zB w) (zA w)) ([.ref (zad w k), .int a1, .ref (zad w t2)] : List Value).toArray s 0 0 (zA w)) (F0 m 78 ls [])), ∀ (n : Nat) (x_4 : Int32) (M : zMem) (H : Heap) (locs : List Loc) (ls : Array Slot), zWo w s.heap M H locs → lv_has ls 5 [(0, .ref (zad w k)), (1, .int a1), (2, .ref (zad w t2)), (3, .int x_3), (4, .int x_4)] → zlp1 (wpB_Settling_clearOthers_29 k a1 t2 x_3 K78 post) n x_4 M → W p l e (zRm 0 0) s m ([.ref (zad w k), .int a1, .ref (zad w t2)] : List Value).toArray below meth c H locs 0 0 (MQ below (va_Qv post (zB w) (zA w)) ([.ref (zad w k), .int a1, .ref (zad w t2)] : List Value).toArray s 0 0 (zA w)) (F0 m 29 ls []) := by
    intro x_3 K78 zK78 n
    induction n with
    | zero => intro x_4 M H locs ls hW hl h; exact h.elim
    | succ n zJ =>
      intro x_4 M H locs ls hW hl h
      have h : wpB_Settling_clearOthers_29 k a1 t2 x_3 K78 post (zlp1 (wpB_Settling_clearOthers_29 k a1 t2 x_3 K78 post) n) x_4 M := h
      unfold wpB_Settling_clearOthers_29 at h
      refine lv_iload hx hb dX7_clearOthers_29 (lv_at hl 4 rfl) ?_
      refine lv_bipush hx hb dX7_clearOthers_31 zc_b8 ?_
      refine lv_icmp_ge (tgt := 78) hx hb dX7_clearOthers_33 rfl (fun c => ?_) (fun c => ?_)
      · replace h := h.1 c
        exact zK78 M H locs ls hW (lv_sub hl [0, 1, 2, 3] rfl) h
      · replace h := h.2 c
        refine lv_iload_n hx hb dX7_clearOthers_36 rfl (lv_at hl 3 rfl) ?_
        refine lv_aload_n hx hb dX7_clearOthers_37 rfl (lv_at hl 2 rfl) ?_
        refine zg_Told_hands X hW h2 zu_38 dX7_clearOthers_38 ?_
        refine lv_icmp_ge (tgt := 53) hx hb dX7_clearOthers_41 rfl (fun c => ?_) (fun c => ?_)
        · replace h := h.1 c
          exact zJ_53 x_3 x_4 _ zK78 _ zJ M H locs ls hW (lv_sub hl [0, 1, 2, 3, 4] rfl) h
        · replace h := h.2 c
          refine lv_iload hx hb dX7_clearOthers_44 (lv_at hl 4 rfl) ?_
          refine lv_aload_n hx hb dX7_clearOthers_46 rfl (lv_at hl 2 rfl) ?_
          refine zg_Told_pieces X hW h2 zu_33 dX7_clearOthers_47 ?_
          refine lv_icmp_lt (tgt := 72) hx hb dX7_clearOthers_50 rfl (fun c => ?_) (fun c => ?_)
          · replace h := h.1 c
            obtain ⟨zx3, ezx3⟩ : ∃ y : Int32, y = x_4 + 1 := ⟨_, rfl⟩
            replace h := h zx3 ezx3
            refine lv_iinc (v := zx3) (lv' := [(4, .int zx3), (0, .ref (zad w k)), (1, .int a1), (2, .ref (zad w t2)), (3, .int x_3)]) hx hb dX7_clearOthers_72 hl (k := 4) rfl (by rw [ezx3, zc_i1]) (Nat.le_of_ble_eq_true rfl) rfl (fun ls hl => ?_)
            refine lv_goto (tgt := 29) hx hb dX7_clearOthers_75 rfl ?_
            exact zJ zx3 M H locs ls hW (lv_sub hl [1, 2, 3, 4, 0] rfl) h
          · replace h := h.2 c
            exact zJ_53 x_3 x_4 _ zK78 _ zJ M H locs ls hW (lv_sub hl [0, 1, 2, 3, 4] rfl) h
  have zL_2 :  ∀ (n : Nat) (x_3 : Int32) (M : zMem) (H : Heap) (locs : List Loc) (ls : Array Slot), zWo w s.heap M H locs → lv_has ls 5 [(0, .ref (zad w k)), (1, .int a1), (2, .ref (zad w t2)), (3, .int x_3)] → zlp1 (wpB_Settling_clearOthers_2 k a1 t2   post) n x_3 M → W p l e (zRm 0 0) s m ([.ref (zad w k), .int a1, .ref (zad w t2)] : List Value).toArray below meth c H locs 0 0 (MQ below (va_Qv post (zB w) (zA w)) ([.ref (zad w k), .int a1, .ref (zad w t2)] : List Value).toArray s 0 0 (zA w)) (F0 m 2 ls []) := by
    intro n
    induction n with
    | zero => intro x_3 M H locs ls hW hl h; exact h.elim
    | succ n zJ =>
      intro x_3 M H locs ls hW hl h
      have h : wpB_Settling_clearOthers_2 k a1 t2   post (zlp1 (wpB_Settling_clearOthers_2 k a1 t2   post) n) x_3 M := h
      unfold wpB_Settling_clearOthers_2 at h
      refine lv_iload_n hx hb dX7_clearOthers_2 rfl (lv_at hl 3 rfl) ?_
      refine lv_iconst hx hb dX7_clearOthers_3 zc_i5 ?_
      refine lv_icmp_ge (tgt := 84) hx hb dX7_clearOthers_4 rfl (fun c => ?_) (fun c => ?_)
      · replace h := h.1 c
        exact zretv X hr hlk hW h dX7_clearOthers_84
      · replace h := h.2 c
        refine lv_iload_n hx hb dX7_clearOthers_7 rfl (lv_at hl 3 rfl) ?_
        refine lv_aload_n hx hb dX7_clearOthers_8 rfl (lv_at hl 2 rfl) ?_
        refine zg_Told_hands X hW h2 zu_38 dX7_clearOthers_9 ?_
        refine lv_icmp_lt (tgt := 26) hx hb dX7_clearOthers_12 rfl (fun c => ?_) (fun c => ?_)
        · replace h := h.1 c
          refine lv_iconst hx hb dX7_clearOthers_26 zc_i0 ?_
          refine lv_istore (lv' := [(4, .int 0), (0, .ref (zad w k)), (1, .int a1), (2, .ref (zad w t2)), (3, .int x_3)]) hx hb dX7_clearOthers_27 hl (Nat.le_of_ble_eq_true rfl) rfl (fun ls hl => ?_)
          obtain ⟨n, h⟩ := h
          refine zL_29 x_3 _ (fun  zm4 H locs ls hW hl h => ?_) n 0 M H locs ls hW (lv_sub hl [1, 2, 3, 4, 0] rfl) h
          · skip
            obtain ⟨zx5, ezx5⟩ : ∃ y : Int32, y = x_3 + 1 := ⟨_, rfl⟩
            replace h := h zx5 ezx5
            refine lv_iinc (v := zx5) (lv' := [(3, .int zx5), (0, .ref (zad w k)), (1, .int a1), (2, .ref (zad w t2))]) hx hb dX7_clearOthers_78 hl (k := 3) rfl (by rw [ezx5, zc_i1]) (Nat.le_of_ble_eq_true rfl) rfl (fun ls hl => ?_)
            refine lv_goto (tgt := 2) hx hb dX7_clearOthers_81 rfl ?_
            exact zJ zx5 zm4 H locs ls hW (lv_sub hl [1, 2, 3, 0] rfl) h
        · replace h := h.2 c
          refine lv_aload_n hx hb dX7_clearOthers_15 rfl (lv_at hl 0 rfl) ?_
          refine zg_Settling_rows X hW h0 zu_272 dX7_clearOthers_16 ?_
          refine lv_iload_n hx hb dX7_clearOthers_19 rfl (lv_at hl 1 rfl) ?_
          refine lv_iconst hx hb dX7_clearOthers_20 zc_i1 ?_
          refine lv_iadd hx hb dX7_clearOthers_21 ?_
          refine lv_iload_n hx hb dX7_clearOthers_22 rfl (lv_at hl 3 rfl) ?_
          refine lv_iadd hx hb dX7_clearOthers_23 ?_
          refine lv_iconst hx hb dX7_clearOthers_24 zc_i0 ?_
          obtain ⟨g, h⟩ := h
          refine ziast X hW h0.2.1 g dX7_clearOthers_25 (fun H locs zm6 ezm6 hW => ?_)
          replace h := h zm6 ezm6
          refine lv_iconst hx hb dX7_clearOthers_26 zc_i0 ?_
          refine lv_istore (lv' := [(4, .int 0), (0, .ref (zad w k)), (1, .int a1), (2, .ref (zad w t2)), (3, .int x_3)]) hx hb dX7_clearOthers_27 hl (Nat.le_of_ble_eq_true rfl) rfl (fun ls hl => ?_)
          obtain ⟨n, h⟩ := h
          refine zL_29 x_3 _ (fun  zm7 H locs ls hW hl h => ?_) n 0 zm6 H locs ls hW (lv_sub hl [1, 2, 3, 4, 0] rfl) h
          · skip
            obtain ⟨zx8, ezx8⟩ : ∃ y : Int32, y = x_3 + 1 := ⟨_, rfl⟩
            replace h := h zx8 ezx8
            refine lv_iinc (v := zx8) (lv' := [(3, .int zx8), (0, .ref (zad w k)), (1, .int a1), (2, .ref (zad w t2))]) hx hb dX7_clearOthers_78 hl (k := 3) rfl (by rw [ezx8, zc_i1]) (Nat.le_of_ble_eq_true rfl) rfl (fun ls hl => ?_)
            refine lv_goto (tgt := 2) hx hb dX7_clearOthers_81 rfl ?_
            exact zJ zx8 zm7 H locs ls hW (lv_sub hl [1, 2, 3, 0] rfl) h
  unfold wp_Settling_clearOthers at h
  have zMain : ∀ (H : Heap) (locs : List Loc) (ls : Array Slot), zWo w s.heap M H locs → lv_has ls 5 [(0, .ref (zad w k)), (1, .int a1), (2, .ref (zad w t2))] → W p l e (zRm 0 0) s m ([.ref (zad w k), .int a1, .ref (zad w t2)] : List Value).toArray below meth c H locs 0 0 (MQ below (va_Qv post (zB w) (zA w)) ([.ref (zad w k), .int a1, .ref (zad w t2)] : List Value).toArray s 0 0 (zA w)) (F0 m 0 ls []) := by
    intro H locs ls hW hl
    refine lv_iconst hx hb dX7_clearOthers_0 zc_i0 ?_
    refine lv_istore_n (lv' := [(3, .int 0), (0, .ref (zad w k)), (1, .int a1), (2, .ref (zad w t2))]) hx hb dX7_clearOthers_1 rfl hl (Nat.le_of_ble_eq_true rfl) rfl (fun ls hl => ?_)
    obtain ⟨n, h⟩ := h
    refine zL_2   n 0 M H locs ls hW (lv_sub hl [1, 2, 3, 0] rfl) h
  exact zMain s.heap [] ls hW hl
def wpB_Settling_writeDown_84 (k : Nat) (t1 : Nat) (x_2 : Int32) (x_3 : Int32) (K138 : zMem → Prop) (Q : zMem → Prop) (J : Int32 → zMem → Prop) (x_4 : Int32) (M : zMem) : Prop :=
  ((M t1 0) ≤ x_4 → K138 M) ∧ (¬ (M t1 0) ≤ x_4 → ∀ zx10 : Int32, zx10 = (x_3 * 8) + x_4 → vp_in zx10 40 ∧ wp_Told_learnedThatCounts t1 x_3 x_4 (M (k + 11) (ix zx10)) M (fun zr12 zm11 => vp_in (((x_2 + 1) + 5) + zx10) 5520 ∧ ∀ zm13 : zMem, zm13 = zup zm11 (k + 1) (ix (((x_2 + 1) + 5) + zx10)) zr12 → ∀ zx14 : Int32, zx14 = x_4 + 1 → J zx14 zm13))
def wpB_Settling_writeDown_55 (k : Nat) (t1 : Nat) (x_2 : Int32)  (Q : zMem → Prop) (J : Int32 → zMem → Prop) (x_3 : Int32) (M : zMem) : Prop :=
  ((M t1 1) ≤ x_3 → wp_Settling_clearOthers k x_2 t1 M (fun zm5 => Q zm5)) ∧ (¬ (M t1 1) ≤ x_3 → wp_Bench_inOneNumber (k + 4) x_3 M (fun zr8 zm7 => vp_in ((x_2 + 1) + x_3) 5520 ∧ ∀ zm9 : zMem, zm9 = zup zm7 (k + 1) (ix ((x_2 + 1) + x_3)) zr8 → ∃ n : Nat, zlp1 (wpB_Settling_writeDown_84 k t1 x_2 x_3 (fun (zm15 : zMem) => ∀ zx16 : Int32, zx16 = x_3 + 1 → J zx16 zm15) Q) n 0 zm9))
def wp_Settling_writeDown (k : Nat) (t1 : Nat) (M : zMem) (Q : zMem → Prop) : Prop :=
  ∀ zx1 : Int32, zx1 = (M k 1) * 46 → vp_in (M k 1) 120 ∧ ∀ zm2 : zMem, zm2 = zup M (k + 2) (ix (M k 1)) (M (k + 4) 3) → vp_in (zm2 k 1) 120 ∧ ∀ zm3 : zMem, zm3 = zup zm2 (k + 3) (ix (zm2 k 1)) (zm2 (k + 4) 2) → vp_in zx1 5520 ∧ ∀ zm4 : zMem, zm4 = zup zm3 (k + 1) (ix zx1) (zm3 (k + 4) 5) → ∃ n : Nat, zlp1 (wpB_Settling_writeDown_55 k t1 zx1  Q) n 0 zm4
set_option maxHeartbeats 4000000 in
set_option maxRecDepth 20000 in
theorem c_Settling_writeDown {l : Launch} {w : zWd} {k : Nat} {t1 : Nat} {M : zMem} {post : zMem → Prop} (h0 : zI_Settling w k) (h1 : zI_Told w t1) (h : wp_Settling_writeDown k t1 M post) : zMv l ⟨"HandToHand$Settling", "writeDown", "(LHandToHand$Told;)V"⟩ prog_9_method_3_code 6 none 2 46 w [.ref (zad w k), .ref (zad w t1)] M post := by
  refine zMet (by decide) (Nat.le_of_ble_eq_true rfl) ?_
  intro p e s m below meth c X hr hlk hml hW ls hl
  have hx := X.1
  have hb := X.2.1
  have hl : lv_has ls 6 [(0, .ref (zad w k)), (1, .ref (zad w t1))] := hl
  have zL_84 : ∀ (x_2 : Int32) (x_3 : Int32) (K138 : zMem → Prop) (zK138 : ∀ (M : zMem) (H : Heap) (locs : List Loc) (ls : Array Slot), zWo w s.heap M H locs → lv_has ls 6 [(0, .ref (zad w k)), (1, .ref (zad w t1)), (2, .int x_2), (3, .int x_3)] → K138 M → W p l e (zRm 2 46) s m ([.ref (zad w k), .ref (zad w t1)] : List Value).toArray below meth c H locs 0 0 (MQ below (va_Qv post (zB w) (zA w)) ([.ref (zad w k), .ref (zad w t1)] : List Value).toArray s 0 0 (zA w)) (F0 m 138 ls [])), ∀ (n : Nat) (x_4 : Int32) (M : zMem) (H : Heap) (locs : List Loc) (ls : Array Slot), zWo w s.heap M H locs → lv_has ls 6 [(0, .ref (zad w k)), (1, .ref (zad w t1)), (2, .int x_2), (3, .int x_3), (4, .int x_4)] → zlp1 (wpB_Settling_writeDown_84 k t1 x_2 x_3 K138 post) n x_4 M → W p l e (zRm 2 46) s m ([.ref (zad w k), .ref (zad w t1)] : List Value).toArray below meth c H locs 0 0 (MQ below (va_Qv post (zB w) (zA w)) ([.ref (zad w k), .ref (zad w t1)] : List Value).toArray s 0 0 (zA w)) (F0 m 84 ls []) := by
    intro x_2 x_3 K138 zK138 n
    induction n with
    | zero => intro x_4 M H locs ls hW hl h; exact h.elim
    | succ n zJ =>
      intro x_4 M H locs ls hW hl h
      have h : wpB_Settling_writeDown_84 k t1 x_2 x_3 K138 post (zlp1 (wpB_Settling_writeDown_84 k t1 x_2 x_3 K138 post) n) x_4 M := h
      unfold wpB_Settling_writeDown_84 at h
      refine lv_iload hx hb dX7_writeDown_84 (lv_at hl 4 rfl) ?_
      refine lv_aload_n hx hb dX7_writeDown_86 rfl (lv_at hl 1 rfl) ?_
      refine zg_Told_pieces X hW h1 zu_33 dX7_writeDown_87 ?_
      refine lv_icmp_ge (tgt := 138) hx hb dX7_writeDown_90 rfl (fun c => ?_) (fun c => ?_)
      · replace h := h.1 c
        exact zK138 M H locs ls hW (lv_sub hl [0, 1, 2, 3] rfl) h
      · replace h := h.2 c
        refine lv_iload_n hx hb dX7_writeDown_93 rfl (lv_at hl 3 rfl) ?_
        refine lv_bipush hx hb dX7_writeDown_94 zc_b8 ?_
        refine lv_imul hx hb dX7_writeDown_96 ?_
        refine lv_iload hx hb dX7_writeDown_97 (lv_at hl 4 rfl) ?_
        refine lv_iadd hx hb dX7_writeDown_99 ?_
        refine lv_topi (fun zx10 ezx10 => ?_)
        replace h := h zx10 ezx10
        refine lv_istore (lv' := [(5, .int zx10), (0, .ref (zad w k)), (1, .ref (zad w t1)), (2, .int x_2), (3, .int x_3), (4, .int x_4)]) hx hb dX7_writeDown_100 hl (Nat.le_of_ble_eq_true rfl) rfl (fun ls hl => ?_)
        refine lv_aload_n hx hb dX7_writeDown_102 rfl (lv_at hl 1 rfl) ?_
        refine zg_Settling_rows X hW h0 zu_272 dX7_writeDown_103 ?_
        refine lv_iload_n hx hb dX7_writeDown_106 rfl (lv_at hl 3 rfl) ?_
        refine lv_iconst hx hb dX7_writeDown_107 zc_i1 ?_
        refine lv_iadd hx hb dX7_writeDown_108 ?_
        refine lv_iconst hx hb dX7_writeDown_109 zc_i5 ?_
        refine lv_iadd hx hb dX7_writeDown_110 ?_
        refine lv_iload hx hb dX7_writeDown_111 (lv_at hl 0 rfl) ?_
        refine lv_iadd hx hb dX7_writeDown_113 ?_
        refine lv_aload_n hx hb dX7_writeDown_114 rfl (lv_at hl 2 rfl) ?_
        refine lv_iload_n hx hb dX7_writeDown_115 rfl (lv_at hl 4 rfl) ?_
        refine lv_iload hx hb dX7_writeDown_116 (lv_at hl 5 rfl) ?_
        refine lv_aload_n hx hb dX7_writeDown_118 rfl (lv_at hl 1 rfl) ?_
        refine zg_Settling_bench X hW h0 zu_270 dX7_writeDown_119 ?_
        refine zg_Bench_learned X hW h0.2.2.2.2 zu_188 dX7_writeDown_122 ?_
        refine lv_iload hx hb dX7_writeDown_125 (lv_at hl 0 rfl) ?_
        obtain ⟨g, h⟩ := h
        refine ziald X hW h0.2.2.2.2.2.2.2.2.2.2.2.1 g dX7_writeDown_127 ?_
        refine zcalli (zrunV (As := [.int x_3, .int x_4, .int (M (k + 11) (ix zx10))]) (rest := [.int (((x_2 + 1) + 5) + zx10), .ref (zad w (k + 1))]) X hml hl hW h1.1 rfl zk_Settling_97 (c_Told_learnedThatCounts h1 h) rfl ⟨Nat.le_of_ble_eq_true rfl, Nat.le_of_ble_eq_true rfl⟩ ⟨Nat.le_refl 0, Nat.le_refl 0⟩ rfl (Nat.le_of_ble_eq_true rfl) dX7_writeDown_128) hW (fun zr12 zm11 H locs h hW => ?_)
        obtain ⟨g, h⟩ := h
        refine ziast X hW h0.2.1 g dX7_writeDown_131 (fun H locs zm13 ezm13 hW => ?_)
        replace h := h zm13 ezm13
        obtain ⟨zx14, ezx14⟩ : ∃ y : Int32, y = x_4 + 1 := ⟨_, rfl⟩
        replace h := h zx14 ezx14
        refine lv_iinc (v := zx14) (lv' := [(4, .int zx14), (5, .int zx10), (0, .ref (zad w k)), (1, .ref (zad w t1)), (2, .int x_2), (3, .int x_3)]) hx hb dX7_writeDown_132 hl (k := 5) rfl (by rw [ezx14, zc_i1]) (Nat.le_of_ble_eq_true rfl) rfl (fun ls hl => ?_)
        refine lv_goto (tgt := 84) hx hb dX7_writeDown_135 rfl ?_
        exact zJ zx14 zm13 H locs ls hW (lv_sub hl [2, 3, 4, 5, 0] rfl) h
  have zL_55 : ∀ (x_2 : Int32), ∀ (n : Nat) (x_3 : Int32) (M : zMem) (H : Heap) (locs : List Loc) (ls : Array Slot), zWo w s.heap M H locs → lv_has ls 6 [(0, .ref (zad w k)), (1, .ref (zad w t1)), (2, .int x_2), (3, .int x_3)] → zlp1 (wpB_Settling_writeDown_55 k t1 x_2  post) n x_3 M → W p l e (zRm 2 46) s m ([.ref (zad w k), .ref (zad w t1)] : List Value).toArray below meth c H locs 0 0 (MQ below (va_Qv post (zB w) (zA w)) ([.ref (zad w k), .ref (zad w t1)] : List Value).toArray s 0 0 (zA w)) (F0 m 55 ls []) := by
    intro x_2 n
    induction n with
    | zero => intro x_3 M H locs ls hW hl h; exact h.elim
    | succ n zJ =>
      intro x_3 M H locs ls hW hl h
      have h : wpB_Settling_writeDown_55 k t1 x_2  post (zlp1 (wpB_Settling_writeDown_55 k t1 x_2  post) n) x_3 M := h
      unfold wpB_Settling_writeDown_55 at h
      refine lv_iload_n hx hb dX7_writeDown_55 rfl (lv_at hl 3 rfl) ?_
      refine lv_aload_n hx hb dX7_writeDown_56 rfl (lv_at hl 1 rfl) ?_
      refine zg_Told_hands X hW h1 zu_38 dX7_writeDown_57 ?_
      refine lv_icmp_ge (tgt := 144) hx hb dX7_writeDown_60 rfl (fun c => ?_) (fun c => ?_)
      · replace h := h.1 c
        refine lv_aload_n hx hb dX7_writeDown_144 rfl (lv_at hl 0 rfl) ?_
        refine lv_iload_n hx hb dX7_writeDown_145 rfl (lv_at hl 2 rfl) ?_
        refine lv_aload_n hx hb dX7_writeDown_146 rfl (lv_at hl 1 rfl) ?_
        refine zcallv (zrunV (As := [.int x_2, .ref (zad w t1)]) (rest := []) X hml hl hW h0.1 rfl zk_Settling_101 (c_Settling_clearOthers h0 h1 h) rfl ⟨Nat.le_of_ble_eq_true rfl, Nat.le_of_ble_eq_true rfl⟩ ⟨Nat.le_refl 0, Nat.le_refl 0⟩ rfl (Nat.le_of_ble_eq_true rfl) dX7_writeDown_147) hW (fun zm5 H locs h hW => ?_)
        exact zretv X hr hlk hW h dX7_writeDown_150
      · replace h := h.2 c
        refine lv_aload_n hx hb dX7_writeDown_63 rfl (lv_at hl 0 rfl) ?_
        refine zg_Settling_rows X hW h0 zu_272 dX7_writeDown_64 ?_
        refine lv_iload_n hx hb dX7_writeDown_67 rfl (lv_at hl 2 rfl) ?_
        refine lv_iconst hx hb dX7_writeDown_68 zc_i1 ?_
        refine lv_iadd hx hb dX7_writeDown_69 ?_
        refine lv_iload_n hx hb dX7_writeDown_70 rfl (lv_at hl 3 rfl) ?_
        refine lv_iadd hx hb dX7_writeDown_71 ?_
        refine lv_aload_n hx hb dX7_writeDown_72 rfl (lv_at hl 0 rfl) ?_
        refine zg_Settling_bench X hW h0 zu_270 dX7_writeDown_73 ?_
        refine lv_iload_n hx hb dX7_writeDown_76 rfl (lv_at hl 3 rfl) ?_
        refine zcalli (zrunV (As := [.int x_3]) (rest := [.int ((x_2 + 1) + x_3), .ref (zad w (k + 1))]) X hml hl hW h0.2.2.2.2.1 rfl zk_Settling_87 (c_Bench_inOneNumber h0.2.2.2.2 h) rfl ⟨Nat.le_of_ble_eq_true rfl, Nat.le_of_ble_eq_true rfl⟩ ⟨Nat.le_refl 0, Nat.le_refl 0⟩ rfl (Nat.le_of_ble_eq_true rfl) dX7_writeDown_77) hW (fun zr8 zm7 H locs h hW => ?_)
        obtain ⟨g, h⟩ := h
        refine ziast X hW h0.2.1 g dX7_writeDown_80 (fun H locs zm9 ezm9 hW => ?_)
        replace h := h zm9 ezm9
        refine lv_iconst hx hb dX7_writeDown_81 zc_i0 ?_
        refine lv_istore (lv' := [(4, .int 0), (0, .ref (zad w k)), (1, .ref (zad w t1)), (2, .int x_2), (3, .int x_3)]) hx hb dX7_writeDown_82 hl (Nat.le_of_ble_eq_true rfl) rfl (fun ls hl => ?_)
        obtain ⟨n, h⟩ := h
        refine zL_84 x_2 x_3 _ (fun  zm15 H locs ls hW hl h => ?_) n 0 zm9 H locs ls hW (lv_sub hl [1, 2, 3, 4, 0] rfl) h
        · skip
          obtain ⟨zx16, ezx16⟩ : ∃ y : Int32, y = x_3 + 1 := ⟨_, rfl⟩
          replace h := h zx16 ezx16
          refine lv_iinc (v := zx16) (lv' := [(3, .int zx16), (0, .ref (zad w k)), (1, .ref (zad w t1)), (2, .int x_2)]) hx hb dX7_writeDown_138 hl (k := 3) rfl (by rw [ezx16, zc_i1]) (Nat.le_of_ble_eq_true rfl) rfl (fun ls hl => ?_)
          refine lv_goto (tgt := 55) hx hb dX7_writeDown_141 rfl ?_
          exact zJ zx16 zm15 H locs ls hW (lv_sub hl [1, 2, 3, 0] rfl) h
  unfold wp_Settling_writeDown at h
  have zMain : ∀ (H : Heap) (locs : List Loc) (ls : Array Slot), zWo w s.heap M H locs → lv_has ls 6 [(0, .ref (zad w k)), (1, .ref (zad w t1))] → W p l e (zRm 2 46) s m ([.ref (zad w k), .ref (zad w t1)] : List Value).toArray below meth c H locs 0 0 (MQ below (va_Qv post (zB w) (zA w)) ([.ref (zad w k), .ref (zad w t1)] : List Value).toArray s 0 0 (zA w)) (F0 m 0 ls []) := by
    intro H locs ls hW hl
    refine lv_aload_n hx hb dX7_writeDown_0 rfl (lv_at hl 0 rfl) ?_
    refine zg_Settling_records X hW h0 zu_271 dX7_writeDown_1 ?_
    refine lv_bipush hx hb dX7_writeDown_4 zc_b46 ?_
    refine lv_imul hx hb dX7_writeDown_6 ?_
    refine lv_topi (fun zx1 ezx1 => ?_)
    replace h := h zx1 ezx1
    refine lv_istore_n (lv' := [(2, .int zx1), (0, .ref (zad w k)), (1, .ref (zad w t1))]) hx hb dX7_writeDown_7 rfl hl (Nat.le_of_ble_eq_true rfl) rfl (fun ls hl => ?_)
    refine lv_aload_n hx hb dX7_writeDown_8 rfl (lv_at hl 1 rfl) ?_
    refine zg_Settling_dones X hW h0 zu_273 dX7_writeDown_9 ?_
    refine lv_aload_n hx hb dX7_writeDown_12 rfl (lv_at hl 1 rfl) ?_
    refine zg_Settling_records X hW h0 zu_271 dX7_writeDown_13 ?_
    refine lv_aload_n hx hb dX7_writeDown_16 rfl (lv_at hl 1 rfl) ?_
    refine zg_Settling_bench X hW h0 zu_270 dX7_writeDown_17 ?_
    refine zg_Bench_done X hW h0.2.2.2.2 zu_168 dX7_writeDown_20 ?_
    obtain ⟨g, h⟩ := h
    refine ziast X hW h0.2.2.1 g dX7_writeDown_23 (fun H locs zm2 ezm2 hW => ?_)
    replace h := h zm2 ezm2
    refine lv_aload_n hx hb dX7_writeDown_24 rfl (lv_at hl 1 rfl) ?_
    refine zg_Settling_ticks X hW h0 zu_274 dX7_writeDown_25 ?_
    refine lv_aload_n hx hb dX7_writeDown_28 rfl (lv_at hl 1 rfl) ?_
    refine zg_Settling_records X hW h0 zu_271 dX7_writeDown_29 ?_
    refine lv_aload_n hx hb dX7_writeDown_32 rfl (lv_at hl 1 rfl) ?_
    refine zg_Settling_bench X hW h0 zu_270 dX7_writeDown_33 ?_
    refine zg_Bench_tick X hW h0.2.2.2.2 zu_164 dX7_writeDown_36 ?_
    obtain ⟨g, h⟩ := h
    refine ziast X hW h0.2.2.2.1 g dX7_writeDown_39 (fun H locs zm3 ezm3 hW => ?_)
    replace h := h zm3 ezm3
    refine lv_aload_n hx hb dX7_writeDown_40 rfl (lv_at hl 1 rfl) ?_
    refine zg_Settling_rows X hW h0 zu_272 dX7_writeDown_41 ?_
    refine lv_iload_n hx hb dX7_writeDown_44 rfl (lv_at hl 0 rfl) ?_
    refine lv_aload_n hx hb dX7_writeDown_45 rfl (lv_at hl 1 rfl) ?_
    refine zg_Settling_bench X hW h0 zu_270 dX7_writeDown_46 ?_
    refine zg_Bench_place X hW h0.2.2.2.2 zu_173 dX7_writeDown_49 ?_
    obtain ⟨g, h⟩ := h
    refine ziast X hW h0.2.1 g dX7_writeDown_52 (fun H locs zm4 ezm4 hW => ?_)
    replace h := h zm4 ezm4
    refine lv_iconst hx hb dX7_writeDown_53 zc_i0 ?_
    refine lv_istore_n (lv' := [(3, .int 0), (2, .int zx1), (0, .ref (zad w k)), (1, .ref (zad w t1))]) hx hb dX7_writeDown_54 rfl hl (Nat.le_of_ble_eq_true rfl) rfl (fun ls hl => ?_)
    obtain ⟨n, h⟩ := h
    refine zL_55 zx1  n 0 zm4 H locs ls hW (lv_sub hl [2, 3, 1, 0] rfl) h
  exact zMain s.heap [] ls hW hl
def wpB_Settling_earlierAlike_20 (k : Nat) (x_1 : Int32) (x_2 : Int32) (K54 : Int32 → zMem → Prop) (Q : Int32 → zMem → Prop) (J : Int32 → zMem → Prop) (x_3 : Int32) (M : zMem) : Prop :=
  (46 ≤ x_3 → K54 x_3 M) ∧ (¬ 46 ≤ x_3 → vp_in ((x_2 * 46) + x_3) 5520 ∧ vp_in (x_1 + x_3) 5520 ∧ (¬ (M (k + 1) (ix ((x_2 * 46) + x_3))) = (M (k + 1) (ix (x_1 + x_3))) → K54 x_3 M) ∧ ((M (k + 1) (ix ((x_2 * 46) + x_3))) = (M (k + 1) (ix (x_1 + x_3))) → ∀ zx2 : Int32, zx2 = x_3 + 1 → J zx2 M))
def wpB_Settling_earlierAlike_10 (k : Nat) (x_1 : Int32)  (Q : Int32 → zMem → Prop) (J : Int32 → zMem → Prop) (x_2 : Int32) (M : zMem) : Prop :=
  ((M k 1) ≤ x_2 → Q ((-1)) M) ∧ (¬ (M k 1) ≤ x_2 → ∃ n : Nat, zlp1 (wpB_Settling_earlierAlike_20 k x_1 x_2 (fun (zx4 : Int32) (zm3 : zMem) => (¬ zx4 = 46 → ∀ zx5 : Int32, zx5 = x_2 + 1 → J zx5 zm3) ∧ (zx4 = 46 → Q x_2 zm3)) Q) n 0 M)
def wp_Settling_earlierAlike (k : Nat) (M : zMem) (Q : Int32 → zMem → Prop) : Prop :=
  ∀ zx1 : Int32, zx1 = (M k 1) * 46 → ∃ n : Nat, zlp1 (wpB_Settling_earlierAlike_10 k zx1  Q) n 0 M
set_option maxHeartbeats 4000000 in
set_option maxRecDepth 20000 in
theorem c_Settling_earlierAlike {l : Launch} {w : zWd} {k : Nat} {M : zMem} {post : Int32 → zMem → Prop} (h0 : zI_Settling w k) (h : wp_Settling_earlierAlike k M post) : zMi l ⟨"HandToHand$Settling", "earlierAlike", "()I"⟩ prog_9_method_5_code 4 (Option.some .int) 0 0 w [.ref (zad w k)] M post := by
  refine zMet (by decide) (Nat.le_of_ble_eq_true rfl) ?_
  intro p e s m below meth c X hr hlk hml hW ls hl
  have hx := X.1
  have hb := X.2.1
  have hl : lv_has ls 4 [(0, .ref (zad w k))] := hl
  have zL_20 : ∀ (x_1 : Int32) (x_2 : Int32) (K54 : Int32 → zMem → Prop) (zK54 : ∀ (y_3 : Int32) (M : zMem) (H : Heap) (locs : List Loc) (ls : Array Slot), zWo w s.heap M H locs → lv_has ls 4 [(0, .ref (zad w k)), (1, .int x_1), (2, .int x_2), (3, .int y_3)] → K54 y_3 M → W p l e (zRm 0 0) s m ([.ref (zad w k)] : List Value).toArray below meth c H locs 0 0 (MQ below (va_Qi post (zB w) (zA w)) ([.ref (zad w k)] : List Value).toArray s 0 0 (zA w)) (F0 m 54 ls [])), ∀ (n : Nat) (x_3 : Int32) (M : zMem) (H : Heap) (locs : List Loc) (ls : Array Slot), zWo w s.heap M H locs → lv_has ls 4 [(0, .ref (zad w k)), (1, .int x_1), (2, .int x_2), (3, .int x_3)] → zlp1 (wpB_Settling_earlierAlike_20 k x_1 x_2 K54 post) n x_3 M → W p l e (zRm 0 0) s m ([.ref (zad w k)] : List Value).toArray below meth c H locs 0 0 (MQ below (va_Qi post (zB w) (zA w)) ([.ref (zad w k)] : List Value).toArray s 0 0 (zA w)) (F0 m 20 ls []) := by
    intro x_1 x_2 K54 zK54 n
    induction n with
    | zero => intro x_3 M H locs ls hW hl h; exact h.elim
    | succ n zJ =>
      intro x_3 M H locs ls hW hl h
      have h : wpB_Settling_earlierAlike_20 k x_1 x_2 K54 post (zlp1 (wpB_Settling_earlierAlike_20 k x_1 x_2 K54 post) n) x_3 M := h
      unfold wpB_Settling_earlierAlike_20 at h
      refine lv_iload_n hx hb dX7_earlierAlike_20 rfl (lv_at hl 3 rfl) ?_
      refine lv_bipush hx hb dX7_earlierAlike_21 zc_b46 ?_
      refine lv_icmp_ge (tgt := 54) hx hb dX7_earlierAlike_23 rfl (fun c => ?_) (fun c => ?_)
      · replace h := h.1 c
        exact zK54 x_3 M H locs ls hW (lv_sub hl [0, 1, 2, 3] rfl) h
      · replace h := h.2 c
        refine lv_aload_n hx hb dX7_earlierAlike_26 rfl (lv_at hl 0 rfl) ?_
        refine zg_Settling_rows X hW h0 zu_272 dX7_earlierAlike_27 ?_
        refine lv_iload_n hx hb dX7_earlierAlike_30 rfl (lv_at hl 2 rfl) ?_
        refine lv_bipush hx hb dX7_earlierAlike_31 zc_b46 ?_
        refine lv_imul hx hb dX7_earlierAlike_33 ?_
        refine lv_iload_n hx hb dX7_earlierAlike_34 rfl (lv_at hl 3 rfl) ?_
        refine lv_iadd hx hb dX7_earlierAlike_35 ?_
        obtain ⟨g, h⟩ := h
        refine ziald X hW h0.2.1 g dX7_earlierAlike_36 ?_
        refine lv_aload_n hx hb dX7_earlierAlike_37 rfl (lv_at hl 0 rfl) ?_
        refine zg_Settling_rows X hW h0 zu_272 dX7_earlierAlike_38 ?_
        refine lv_iload_n hx hb dX7_earlierAlike_41 rfl (lv_at hl 1 rfl) ?_
        refine lv_iload_n hx hb dX7_earlierAlike_42 rfl (lv_at hl 3 rfl) ?_
        refine lv_iadd hx hb dX7_earlierAlike_43 ?_
        obtain ⟨g, h⟩ := h
        refine ziald X hW h0.2.1 g dX7_earlierAlike_44 ?_
        refine lv_icmp_ne (tgt := 54) hx hb dX7_earlierAlike_45 rfl (fun c => ?_) (fun c => ?_)
        · replace h := h.1 c
          exact zK54 x_3 M H locs ls hW (lv_sub hl [0, 1, 2, 3] rfl) h
        · replace h := h.2 c
          obtain ⟨zx2, ezx2⟩ : ∃ y : Int32, y = x_3 + 1 := ⟨_, rfl⟩
          replace h := h zx2 ezx2
          refine lv_iinc (v := zx2) (lv' := [(3, .int zx2), (0, .ref (zad w k)), (1, .int x_1), (2, .int x_2)]) hx hb dX7_earlierAlike_48 hl (k := 3) rfl (by rw [ezx2, zc_i1]) (Nat.le_of_ble_eq_true rfl) rfl (fun ls hl => ?_)
          refine lv_goto (tgt := 20) hx hb dX7_earlierAlike_51 rfl ?_
          exact zJ zx2 M H locs ls hW (lv_sub hl [1, 2, 3, 0] rfl) h
  have zL_10 : ∀ (x_1 : Int32), ∀ (n : Nat) (x_2 : Int32) (M : zMem) (H : Heap) (locs : List Loc) (ls : Array Slot), zWo w s.heap M H locs → lv_has ls 4 [(0, .ref (zad w k)), (1, .int x_1), (2, .int x_2)] → zlp1 (wpB_Settling_earlierAlike_10 k x_1  post) n x_2 M → W p l e (zRm 0 0) s m ([.ref (zad w k)] : List Value).toArray below meth c H locs 0 0 (MQ below (va_Qi post (zB w) (zA w)) ([.ref (zad w k)] : List Value).toArray s 0 0 (zA w)) (F0 m 10 ls []) := by
    intro x_1 n
    induction n with
    | zero => intro x_2 M H locs ls hW hl h; exact h.elim
    | succ n zJ =>
      intro x_2 M H locs ls hW hl h
      have h : wpB_Settling_earlierAlike_10 k x_1  post (zlp1 (wpB_Settling_earlierAlike_10 k x_1  post) n) x_2 M := h
      unfold wpB_Settling_earlierAlike_10 at h
      refine lv_iload_n hx hb dX7_earlierAlike_10 rfl (lv_at hl 2 rfl) ?_
      refine lv_aload_n hx hb dX7_earlierAlike_11 rfl (lv_at hl 0 rfl) ?_
      refine zg_Settling_records X hW h0 zu_271 dX7_earlierAlike_12 ?_
      refine lv_icmp_ge (tgt := 68) hx hb dX7_earlierAlike_15 rfl (fun c => ?_) (fun c => ?_)
      · replace h := h.1 c
        refine lv_iconst hx hb dX7_earlierAlike_68 zc_im1 ?_
        exact zreti X hr hlk hW h dX7_earlierAlike_69
      · replace h := h.2 c
        refine lv_iconst hx hb dX7_earlierAlike_18 zc_i0 ?_
        refine lv_istore_n (lv' := [(3, .int 0), (0, .ref (zad w k)), (1, .int x_1), (2, .int x_2)]) hx hb dX7_earlierAlike_19 rfl hl (Nat.le_of_ble_eq_true rfl) rfl (fun ls hl => ?_)
        obtain ⟨n, h⟩ := h
        refine zL_20 x_1 x_2 _ (fun zx4 zm3 H locs ls hW hl h => ?_) n 0 M H locs ls hW (lv_sub hl [1, 2, 3, 0] rfl) h
        · skip
          refine lv_iload_n hx hb dX7_earlierAlike_54 rfl (lv_at hl 3 rfl) ?_
          refine lv_bipush hx hb dX7_earlierAlike_55 zc_b46 ?_
          refine lv_icmp_ne (tgt := 62) hx hb dX7_earlierAlike_57 rfl (fun c => ?_) (fun c => ?_)
          · replace h := h.1 c
            obtain ⟨zx5, ezx5⟩ : ∃ y : Int32, y = x_2 + 1 := ⟨_, rfl⟩
            replace h := h zx5 ezx5
            refine lv_iinc (v := zx5) (lv' := [(2, .int zx5), (0, .ref (zad w k)), (1, .int x_1), (3, .int zx4)]) hx hb dX7_earlierAlike_62 hl (k := 2) rfl (by rw [ezx5, zc_i1]) (Nat.le_of_ble_eq_true rfl) rfl (fun ls hl => ?_)
            refine lv_goto (tgt := 10) hx hb dX7_earlierAlike_65 rfl ?_
            exact zJ zx5 zm3 H locs ls hW (lv_sub hl [1, 2, 0] rfl) h
          · replace h := h.2 c
            refine lv_iload_n hx hb dX7_earlierAlike_60 rfl (lv_at hl 2 rfl) ?_
            exact zreti X hr hlk hW h dX7_earlierAlike_61
  unfold wp_Settling_earlierAlike at h
  have zMain : ∀ (H : Heap) (locs : List Loc) (ls : Array Slot), zWo w s.heap M H locs → lv_has ls 4 [(0, .ref (zad w k))] → W p l e (zRm 0 0) s m ([.ref (zad w k)] : List Value).toArray below meth c H locs 0 0 (MQ below (va_Qi post (zB w) (zA w)) ([.ref (zad w k)] : List Value).toArray s 0 0 (zA w)) (F0 m 0 ls []) := by
    intro H locs ls hW hl
    refine lv_aload_n hx hb dX7_earlierAlike_0 rfl (lv_at hl 0 rfl) ?_
    refine zg_Settling_records X hW h0 zu_271 dX7_earlierAlike_1 ?_
    refine lv_bipush hx hb dX7_earlierAlike_4 zc_b46 ?_
    refine lv_imul hx hb dX7_earlierAlike_6 ?_
    refine lv_topi (fun zx1 ezx1 => ?_)
    replace h := h zx1 ezx1
    refine lv_istore_n (lv' := [(1, .int zx1), (0, .ref (zad w k))]) hx hb dX7_earlierAlike_7 rfl hl (Nat.le_of_ble_eq_true rfl) rfl (fun ls hl => ?_)
    refine lv_iconst hx hb dX7_earlierAlike_8 zc_i0 ?_
    refine lv_istore_n (lv' := [(2, .int 0), (1, .int zx1), (0, .ref (zad w k))]) hx hb dX7_earlierAlike_9 rfl hl (Nat.le_of_ble_eq_true rfl) rfl (fun ls hl => ?_)
    obtain ⟨n, h⟩ := h
    refine zL_10 zx1  n 0 M H locs ls hW (lv_sub hl [2, 1, 0] rfl) h
  exact zMain s.heap [] ls hW hl
def wpJ_Settling_settle_165 (k : Nat) (t1 : Nat) (t2 : Nat)  (J : Int32 → Int32 → zMem → Prop) (Q : zMem → Prop) (x_4 : Int32)  (M : zMem) : Prop :=
  ∀ zm26 : zMem, zm26 = zup M k 1 ((M k 1) + 1) → wp_Bench_leastLeft (k + 4) zm26 (fun zr28 zm27 => ∀ zx29 : Int32, zx29 = x_4 + 1 → J zr28 zx29 zm27)
def wpB_Settling_settle_42 (k : Nat) (t1 : Nat) (t2 : Nat)   (Q : zMem → Prop) (J : Int32 → Int32 → zMem → Prop) (x_3 : Int32) (x_4 : Int32) (M : zMem) : Prop :=
  (1000000 ≤ x_4 → Q M) ∧ (¬ 1000000 ≤ x_4 → (x_3 ≤ 0 → Q M) ∧ (¬ x_3 ≤ 0 → (120 ≤ (M (k + 4) 3) → Q M) ∧ (¬ 120 ≤ (M (k + 4) 3) → (¬ (M t2 1) = 0 → Q M) ∧ ((M t2 1) = 0 → ∀ zx11 : Int32, zx11 = M (k + 4) 3 → wp_Bench_letPass (k + 4) x_3 M (fun zm12 => wp_Bench_doAll (k + 4) zm12 (fun zm14 => ((zm14 (k + 4) 3) ≤ zx11 → wp_Bench_leastLeft (k + 4) zm14 (fun zr17 zm16 => ∀ zx18 : Int32, zx18 = x_4 + 1 → J zr17 zx18 zm16)) ∧ (¬ (zm14 (k + 4) 3) ≤ zx11 → (120 ≤ (zm14 k 1) → wp_Bench_leastLeft (k + 4) zm14 (fun zr20 zm19 => ∀ zx21 : Int32, zx21 = x_4 + 1 → J zr20 zx21 zm19)) ∧ (¬ 120 ≤ (zm14 k 1) → wp_Settling_writeDown k t1 zm14 (fun zm22 => wp_Settling_earlierAlike k zm22 (fun zr25 zm24 => (zr25 < 0 → wpJ_Settling_settle_165 k t1 t2 J Q x_4 zm24) ∧ (¬ zr25 < 0 → vp_in zr25 120 ∧ vp_in zr25 120 ∧ wp_Ring_close t2 (zm24 (k + 2) (ix zr25)) (zm24 (k + 3) (ix zr25)) (zm24 (k + 4) 3) (zm24 (k + 4) 2) zm24 (fun zm30 => wpJ_Settling_settle_165 k t1 t2 J Q x_4 zm30))))))))))))
def wp_Settling_settle (k : Nat) (t1 : Nat) (t2 : Nat) (M : zMem) (Q : zMem → Prop) : Prop :=
  wp_Ring_lose t2 M (fun zm1 => ∀ zm3 : zMem, zm3 = zup zm1 k 1 0 → (t1 = 1 ∨ t1 = 6) ∧ ∀ zm4 : zMem, zm4 = zup zm3 (k + 4) 0 (zcd t1) → wp_Bench_clear (k + 4) zm4 (fun zm5 => wp_Bench_doAll (k + 4) zm5 (fun zm7 => wp_Bench_leastLeft (k + 4) zm7 (fun zr10 zm9 => ∃ n : Nat, zlp2 (wpB_Settling_settle_42 k t1 t2   Q) n zr10 0 zm9))))
set_option maxHeartbeats 4000000 in
set_option maxRecDepth 20000 in
theorem c_Settling_settle {l : Launch} {w : zWd} {k : Nat} {t1 : Nat} {t2 : Nat} {M : zMem} {post : zMem → Prop} (h0 : zI_Settling w k) (h1 : zI_Told w t1) (h2 : zI_Ring w t2) (h : wp_Settling_settle k t1 t2 M post) : zMv l ⟨"HandToHand$Settling", "settle", "(LHandToHand$Told;LHandToHand$Ring;)V"⟩ prog_9_method_2_code 7 none 4 92 w [.ref (zad w k), .ref (zad w t1), .ref (zad w t2)] M post := by
  refine zMet (by decide) (Nat.le_of_ble_eq_true rfl) ?_
  intro p e s m below meth c X hr hlk hml hW ls hl
  have hx := X.1
  have hb := X.2.1
  have hl : lv_has ls 7 [(0, .ref (zad w k)), (1, .ref (zad w t1)), (2, .ref (zad w t2))] := hl
  have zJ_165 : ∀ (x_4 : Int32) (J : Int32 → Int32 → zMem → Prop) (zJ : ∀ (y_3 : Int32) (y_4 : Int32) (M : zMem) (H : Heap) (locs : List Loc) (ls : Array Slot), zWo w s.heap M H locs → lv_has ls 7 [(0, .ref (zad w k)), (1, .ref (zad w t1)), (2, .ref (zad w t2)), (3, .int y_3), (4, .int y_4)] → J y_3 y_4 M → W p l e (zRm 4 92) s m ([.ref (zad w k), .ref (zad w t1), .ref (zad w t2)] : List Value).toArray below meth c H locs 0 0 (MQ below (va_Qv post (zB w) (zA w)) ([.ref (zad w k), .ref (zad w t1), .ref (zad w t2)] : List Value).toArray s 0 0 (zA w)) (F0 m 42 ls [])) (M : zMem) (H : Heap) (locs : List Loc) (ls : Array Slot), zWo w s.heap M H locs → lv_has ls 7 [(0, .ref (zad w k)), (1, .ref (zad w t1)), (2, .ref (zad w t2)), (4, .int x_4)] → wpJ_Settling_settle_165 k t1 t2 J post x_4 M → W p l e (zRm 4 92) s m ([.ref (zad w k), .ref (zad w t1), .ref (zad w t2)] : List Value).toArray below meth c H locs 0 0 (MQ below (va_Qv post (zB w) (zA w)) ([.ref (zad w k), .ref (zad w t1), .ref (zad w t2)] : List Value).toArray s 0 0 (zA w)) (F0 m 165 ls []) := by
    intro x_4 J zJ M H locs ls hW hl h
    unfold wpJ_Settling_settle_165 at h
    refine lv_aload_n hx hb dX7_settle_165 rfl (lv_at hl 0 rfl) ?_
    refine lv_dup hx hb dX7_settle_166 rfl ?_
    refine zg_Settling_records X hW h0 zu_271 dX7_settle_167 ?_
    refine lv_iconst hx hb dX7_settle_170 zc_i1 ?_
    refine lv_iadd hx hb dX7_settle_171 ?_
    refine zp_Settling_records X hW h0 zu_271 dX7_settle_172 (fun H locs zm26 ezm26 hW => ?_)
    replace h := h zm26 ezm26
    refine lv_aload_n hx hb dX7_settle_175 rfl (lv_at hl 0 rfl) ?_
    refine zg_Settling_bench X hW h0 zu_270 dX7_settle_176 ?_
    refine zcalli (zrunV (As := []) (rest := []) X hml hl hW h0.2.2.2.2.1 rfl zk_Settling_49 (c_Bench_leastLeft h0.2.2.2.2 h) rfl ⟨Nat.le_of_ble_eq_true rfl, Nat.le_of_ble_eq_true rfl⟩ ⟨Nat.le_refl 0, Nat.le_refl 0⟩ rfl (Nat.le_of_ble_eq_true rfl) dX7_settle_179) hW (fun zr28 zm27 H locs h hW => ?_)
    refine lv_istore_n (lv' := [(3, .int zr28), (0, .ref (zad w k)), (1, .ref (zad w t1)), (2, .ref (zad w t2)), (4, .int x_4)]) hx hb dX7_settle_182 rfl hl (Nat.le_of_ble_eq_true rfl) rfl (fun ls hl => ?_)
    obtain ⟨zx29, ezx29⟩ : ∃ y : Int32, y = x_4 + 1 := ⟨_, rfl⟩
    replace h := h zx29 ezx29
    refine lv_iinc (v := zx29) (lv' := [(4, .int zx29), (3, .int zr28), (0, .ref (zad w k)), (1, .ref (zad w t1)), (2, .ref (zad w t2))]) hx hb dX7_settle_183 hl (k := 4) rfl (by rw [ezx29, zc_i1]) (Nat.le_of_ble_eq_true rfl) rfl (fun ls hl => ?_)
    refine lv_goto (tgt := 42) hx hb dX7_settle_186 rfl ?_
    exact zJ zr28 zx29 zm27 H locs ls hW (lv_sub hl [2, 3, 4, 1, 0] rfl) h
  have zL_42 :  ∀ (n : Nat) (x_3 : Int32) (x_4 : Int32) (M : zMem) (H : Heap) (locs : List Loc) (ls : Array Slot), zWo w s.heap M H locs → lv_has ls 7 [(0, .ref (zad w k)), (1, .ref (zad w t1)), (2, .ref (zad w t2)), (3, .int x_3), (4, .int x_4)] → zlp2 (wpB_Settling_settle_42 k t1 t2   post) n x_3 x_4 M → W p l e (zRm 4 92) s m ([.ref (zad w k), .ref (zad w t1), .ref (zad w t2)] : List Value).toArray below meth c H locs 0 0 (MQ below (va_Qv post (zB w) (zA w)) ([.ref (zad w k), .ref (zad w t1), .ref (zad w t2)] : List Value).toArray s 0 0 (zA w)) (F0 m 42 ls []) := by
    intro n
    induction n with
    | zero => intro x_3 x_4 M H locs ls hW hl h; exact h.elim
    | succ n zJ =>
      intro x_3 x_4 M H locs ls hW hl h
      have h : wpB_Settling_settle_42 k t1 t2   post (zlp2 (wpB_Settling_settle_42 k t1 t2   post) n) x_3 x_4 M := h
      unfold wpB_Settling_settle_42 at h
      refine lv_iload hx hb dX7_settle_42 (lv_at hl 4 rfl) ?_
      refine lv_ldc hx hb X.2.2.1 (X.2.2.2.1 _ zu_841) dX7_settle_44 ?_
      refine lv_icmp_ge (tgt := 189) hx hb dX7_settle_46 rfl (fun c => ?_) (fun c => ?_)
      · replace h := h.1 c
        exact zretv X hr hlk hW h dX7_settle_189
      · replace h := h.2 c
        refine lv_iload_n hx hb dX7_settle_49 rfl (lv_at hl 3 rfl) ?_
        refine lv_if_le (tgt := 189) hx hb dX7_settle_50 rfl (fun c => ?_) (fun c => ?_)
        · replace h := h.1 c
          exact zretv X hr hlk hW h dX7_settle_189
        · replace h := h.2 c
          refine lv_aload_n hx hb dX7_settle_53 rfl (lv_at hl 0 rfl) ?_
          refine zg_Settling_bench X hW h0 zu_270 dX7_settle_54 ?_
          refine zg_Bench_done X hW h0.2.2.2.2 zu_168 dX7_settle_57 ?_
          refine lv_bipush hx hb dX7_settle_60 zc_b120 ?_
          refine lv_icmp_ge (tgt := 189) hx hb dX7_settle_62 rfl (fun c => ?_) (fun c => ?_)
          · replace h := h.1 c
            exact zretv X hr hlk hW h dX7_settle_189
          · replace h := h.2 c
            refine lv_aload_n hx hb dX7_settle_65 rfl (lv_at hl 2 rfl) ?_
            refine zg_Ring_found X hW h2 zu_295 dX7_settle_66 ?_
            refine lv_if_ne (tgt := 189) hx hb dX7_settle_69 rfl (fun c => ?_) (fun c => ?_)
            · replace h := h.1 c
              exact zretv X hr hlk hW h dX7_settle_189
            · replace h := h.2 c
              refine lv_aload_n hx hb dX7_settle_72 rfl (lv_at hl 0 rfl) ?_
              refine zg_Settling_bench X hW h0 zu_270 dX7_settle_73 ?_
              refine zg_Bench_done X hW h0.2.2.2.2 zu_168 dX7_settle_76 ?_
              refine lv_topi (fun zx11 ezx11 => ?_)
              replace h := h zx11 ezx11
              refine lv_istore (lv' := [(5, .int zx11), (0, .ref (zad w k)), (1, .ref (zad w t1)), (2, .ref (zad w t2)), (3, .int x_3), (4, .int x_4)]) hx hb dX7_settle_79 hl (Nat.le_of_ble_eq_true rfl) rfl (fun ls hl => ?_)
              refine lv_aload_n hx hb dX7_settle_81 rfl (lv_at hl 1 rfl) ?_
              refine zg_Settling_bench X hW h0 zu_270 dX7_settle_82 ?_
              refine lv_iload_n hx hb dX7_settle_85 rfl (lv_at hl 4 rfl) ?_
              refine zcallv (zrunV (As := [.int x_3]) (rest := []) X hml hl hW h0.2.2.2.2.1 rfl zk_Settling_61 (c_Bench_letPass h0.2.2.2.2 h) rfl ⟨Nat.le_of_ble_eq_true rfl, Nat.le_of_ble_eq_true rfl⟩ ⟨Nat.le_refl 0, Nat.le_refl 0⟩ rfl (Nat.le_of_ble_eq_true rfl) dX7_settle_86) hW (fun zm12 H locs h hW => ?_)
              refine lv_aload_n hx hb dX7_settle_89 rfl (lv_at hl 1 rfl) ?_
              refine zg_Settling_bench X hW h0 zu_270 dX7_settle_90 ?_
              refine zcallv (zrunV (As := []) (rest := []) X hml hl hW h0.2.2.2.2.1 rfl zk_Settling_46 (c_Bench_doAll h0.2.2.2.2 h) rfl ⟨Nat.le_of_ble_eq_true rfl, Nat.le_of_ble_eq_true rfl⟩ ⟨Nat.le_refl 0, Nat.le_refl 0⟩ rfl (Nat.le_of_ble_eq_true rfl) dX7_settle_93) hW (fun zm14 H locs h hW => ?_)
              refine lv_aload_n hx hb dX7_settle_96 rfl (lv_at hl 1 rfl) ?_
              refine zg_Settling_bench X hW h0 zu_270 dX7_settle_97 ?_
              refine zg_Bench_done X hW h0.2.2.2.2 zu_168 dX7_settle_100 ?_
              refine lv_iload hx hb dX7_settle_103 (lv_at hl 0 rfl) ?_
              refine lv_icmp_le (tgt := 175) hx hb dX7_settle_105 rfl (fun c => ?_) (fun c => ?_)
              · replace h := h.1 c
                refine lv_aload_n hx hb dX7_settle_175 rfl (lv_at hl 1 rfl) ?_
                refine zg_Settling_bench X hW h0 zu_270 dX7_settle_176 ?_
                refine zcalli (zrunV (As := []) (rest := []) X hml hl hW h0.2.2.2.2.1 rfl zk_Settling_49 (c_Bench_leastLeft h0.2.2.2.2 h) rfl ⟨Nat.le_of_ble_eq_true rfl, Nat.le_of_ble_eq_true rfl⟩ ⟨Nat.le_refl 0, Nat.le_refl 0⟩ rfl (Nat.le_of_ble_eq_true rfl) dX7_settle_179) hW (fun zr17 zm16 H locs h hW => ?_)
                refine lv_istore_n (lv' := [(3, .int zr17), (5, .int zx11), (0, .ref (zad w k)), (1, .ref (zad w t1)), (2, .ref (zad w t2)), (4, .int x_4)]) hx hb dX7_settle_182 rfl hl (Nat.le_of_ble_eq_true rfl) rfl (fun ls hl => ?_)
                obtain ⟨zx18, ezx18⟩ : ∃ y : Int32, y = x_4 + 1 := ⟨_, rfl⟩
                replace h := h zx18 ezx18
                refine lv_iinc (v := zx18) (lv' := [(4, .int zx18), (3, .int zr17), (5, .int zx11), (0, .ref (zad w k)), (1, .ref (zad w t1)), (2, .ref (zad w t2))]) hx hb dX7_settle_183 hl (k := 5) rfl (by rw [ezx18, zc_i1]) (Nat.le_of_ble_eq_true rfl) rfl (fun ls hl => ?_)
                refine lv_goto (tgt := 42) hx hb dX7_settle_186 rfl ?_
                exact zJ zr17 zx18 zm16 H locs ls hW (lv_sub hl [3, 4, 5, 1, 0] rfl) h
              · replace h := h.2 c
                refine lv_aload_n hx hb dX7_settle_108 rfl (lv_at hl 1 rfl) ?_
                refine zg_Settling_records X hW h0 zu_271 dX7_settle_109 ?_
                refine lv_bipush hx hb dX7_settle_112 zc_b120 ?_
                refine lv_icmp_ge (tgt := 175) hx hb dX7_settle_114 rfl (fun c => ?_) (fun c => ?_)
                · replace h := h.1 c
                  refine lv_aload_n hx hb dX7_settle_175 rfl (lv_at hl 1 rfl) ?_
                  refine zg_Settling_bench X hW h0 zu_270 dX7_settle_176 ?_
                  refine zcalli (zrunV (As := []) (rest := []) X hml hl hW h0.2.2.2.2.1 rfl zk_Settling_49 (c_Bench_leastLeft h0.2.2.2.2 h) rfl ⟨Nat.le_of_ble_eq_true rfl, Nat.le_of_ble_eq_true rfl⟩ ⟨Nat.le_refl 0, Nat.le_refl 0⟩ rfl (Nat.le_of_ble_eq_true rfl) dX7_settle_179) hW (fun zr20 zm19 H locs h hW => ?_)
                  refine lv_istore_n (lv' := [(3, .int zr20), (5, .int zx11), (0, .ref (zad w k)), (1, .ref (zad w t1)), (2, .ref (zad w t2)), (4, .int x_4)]) hx hb dX7_settle_182 rfl hl (Nat.le_of_ble_eq_true rfl) rfl (fun ls hl => ?_)
                  obtain ⟨zx21, ezx21⟩ : ∃ y : Int32, y = x_4 + 1 := ⟨_, rfl⟩
                  replace h := h zx21 ezx21
                  refine lv_iinc (v := zx21) (lv' := [(4, .int zx21), (3, .int zr20), (5, .int zx11), (0, .ref (zad w k)), (1, .ref (zad w t1)), (2, .ref (zad w t2))]) hx hb dX7_settle_183 hl (k := 5) rfl (by rw [ezx21, zc_i1]) (Nat.le_of_ble_eq_true rfl) rfl (fun ls hl => ?_)
                  refine lv_goto (tgt := 42) hx hb dX7_settle_186 rfl ?_
                  exact zJ zr20 zx21 zm19 H locs ls hW (lv_sub hl [3, 4, 5, 1, 0] rfl) h
                · replace h := h.2 c
                  refine lv_aload_n hx hb dX7_settle_117 rfl (lv_at hl 1 rfl) ?_
                  refine lv_aload_n hx hb dX7_settle_118 rfl (lv_at hl 2 rfl) ?_
                  refine zcallv (zrunV (As := [.ref (zad w t1)]) (rest := []) X hml hl hW h0.1 rfl zk_Settling_65 (c_Settling_writeDown h0 h1 h) rfl ⟨Nat.le_of_ble_eq_true rfl, Nat.le_of_ble_eq_true rfl⟩ ⟨Nat.le_refl 0, Nat.le_refl 0⟩ rfl (Nat.le_of_ble_eq_true rfl) dX7_settle_119) hW (fun zm22 H locs h hW => ?_)
                  refine lv_aload_n hx hb dX7_settle_122 rfl (lv_at hl 1 rfl) ?_
                  refine zcalli (zrunV (As := []) (rest := []) X hml hl hW h0.1 rfl zk_Settling_69 (c_Settling_earlierAlike h0 h) rfl ⟨Nat.le_of_ble_eq_true rfl, Nat.le_of_ble_eq_true rfl⟩ ⟨Nat.le_refl 0, Nat.le_refl 0⟩ rfl (Nat.le_of_ble_eq_true rfl) dX7_settle_123) hW (fun zr25 zm24 H locs h hW => ?_)
                  refine lv_istore (lv' := [(6, .int zr25), (5, .int zx11), (0, .ref (zad w k)), (1, .ref (zad w t1)), (2, .ref (zad w t2)), (3, .int x_3), (4, .int x_4)]) hx hb dX7_settle_126 hl (Nat.le_of_ble_eq_true rfl) rfl (fun ls hl => ?_)
                  refine lv_iload hx hb dX7_settle_128 (lv_at hl 0 rfl) ?_
                  refine lv_if_lt (tgt := 165) hx hb dX7_settle_130 rfl (fun c => ?_) (fun c => ?_)
                  · replace h := h.1 c
                    exact zJ_165 x_4 _ zJ zm24 H locs ls hW (lv_sub hl [2, 3, 4, 6] rfl) h
                  · replace h := h.2 c
                    refine lv_aload_n hx hb dX7_settle_133 rfl (lv_at hl 4 rfl) ?_
                    refine lv_aload_n hx hb dX7_settle_134 rfl (lv_at hl 2 rfl) ?_
                    refine zg_Settling_dones X hW h0 zu_273 dX7_settle_135 ?_
                    refine lv_iload hx hb dX7_settle_138 (lv_at hl 0 rfl) ?_
                    obtain ⟨g, h⟩ := h
                    refine ziald X hW h0.2.2.1 g dX7_settle_140 ?_
                    refine lv_aload_n hx hb dX7_settle_141 rfl (lv_at hl 2 rfl) ?_
                    refine zg_Settling_ticks X hW h0 zu_274 dX7_settle_142 ?_
                    refine lv_iload hx hb dX7_settle_145 (lv_at hl 0 rfl) ?_
                    obtain ⟨g, h⟩ := h
                    refine ziald X hW h0.2.2.2.1 g dX7_settle_147 ?_
                    refine lv_aload_n hx hb dX7_settle_148 rfl (lv_at hl 2 rfl) ?_
                    refine zg_Settling_bench X hW h0 zu_270 dX7_settle_149 ?_
                    refine zg_Bench_done X hW h0.2.2.2.2 zu_168 dX7_settle_152 ?_
                    refine lv_aload_n hx hb dX7_settle_155 rfl (lv_at hl 2 rfl) ?_
                    refine zg_Settling_bench X hW h0 zu_270 dX7_settle_156 ?_
                    refine zg_Bench_tick X hW h0.2.2.2.2 zu_164 dX7_settle_159 ?_
                    refine zcallv (zrunV (As := [.int (zm24 (k + 2) (ix zr25)), .int (zm24 (k + 3) (ix zr25)), .int (zm24 (k + 4) 3), .int (zm24 (k + 4) 2)]) (rest := []) X hml hl hW h2 rfl zk_Settling_75 (c_Ring_close h2 h) rfl ⟨Nat.le_of_ble_eq_true rfl, Nat.le_of_ble_eq_true rfl⟩ ⟨Nat.le_refl 0, Nat.le_refl 0⟩ rfl (Nat.le_of_ble_eq_true rfl) dX7_settle_162) hW (fun zm30 H locs h hW => ?_)
                    exact zJ_165 x_4 _ zJ zm30 H locs ls hW (lv_sub hl [2, 3, 4, 6] rfl) h
  unfold wp_Settling_settle at h
  have zMain : ∀ (H : Heap) (locs : List Loc) (ls : Array Slot), zWo w s.heap M H locs → lv_has ls 7 [(0, .ref (zad w k)), (1, .ref (zad w t1)), (2, .ref (zad w t2))] → W p l e (zRm 4 92) s m ([.ref (zad w k), .ref (zad w t1), .ref (zad w t2)] : List Value).toArray below meth c H locs 0 0 (MQ below (va_Qv post (zB w) (zA w)) ([.ref (zad w k), .ref (zad w t1), .ref (zad w t2)] : List Value).toArray s 0 0 (zA w)) (F0 m 0 ls []) := by
    intro H locs ls hW hl
    refine lv_aload_n hx hb dX7_settle_0 rfl (lv_at hl 2 rfl) ?_
    refine zcallv (zrunV (As := []) (rest := []) X hml hl hW h2 rfl zk_Settling_30 (c_Ring_lose h2 h) rfl ⟨Nat.le_of_ble_eq_true rfl, Nat.le_of_ble_eq_true rfl⟩ ⟨Nat.le_refl 0, Nat.le_refl 0⟩ rfl (Nat.le_of_ble_eq_true rfl) dX7_settle_1) hW (fun zm1 H locs h hW => ?_)
    refine lv_aload_n hx hb dX7_settle_4 rfl (lv_at hl 0 rfl) ?_
    refine lv_iconst hx hb dX7_settle_5 zc_i0 ?_
    refine zp_Settling_records X hW h0 zu_271 dX7_settle_6 (fun H locs zm3 ezm3 hW => ?_)
    replace h := h zm3 ezm3
    refine lv_aload_n hx hb dX7_settle_9 rfl (lv_at hl 0 rfl) ?_
    refine zg_Settling_bench X hW h0 zu_270 dX7_settle_10 ?_
    refine lv_aload_n hx hb dX7_settle_13 rfl (lv_at hl 1 rfl) ?_
    obtain ⟨g, h⟩ := h
    refine zputTold X hW h0.2.2.2.2 g zu_161 dX7_settle_14 (fun H locs zm4 ezm4 hW => ?_)
    replace h := h zm4 ezm4
    refine lv_aload_n hx hb dX7_settle_17 rfl (lv_at hl 0 rfl) ?_
    refine zg_Settling_bench X hW h0 zu_270 dX7_settle_18 ?_
    refine zcallv (zrunV (As := []) (rest := []) X hml hl hW h0.2.2.2.2.1 rfl zk_Settling_43 (c_Bench_clear h0.2.2.2.2 h) rfl ⟨Nat.le_of_ble_eq_true rfl, Nat.le_of_ble_eq_true rfl⟩ ⟨Nat.le_refl 0, Nat.le_refl 0⟩ rfl (Nat.le_of_ble_eq_true rfl) dX7_settle_21) hW (fun zm5 H locs h hW => ?_)
    refine lv_aload_n hx hb dX7_settle_24 rfl (lv_at hl 0 rfl) ?_
    refine zg_Settling_bench X hW h0 zu_270 dX7_settle_25 ?_
    refine zcallv (zrunV (As := []) (rest := []) X hml hl hW h0.2.2.2.2.1 rfl zk_Settling_46 (c_Bench_doAll h0.2.2.2.2 h) rfl ⟨Nat.le_of_ble_eq_true rfl, Nat.le_of_ble_eq_true rfl⟩ ⟨Nat.le_refl 0, Nat.le_refl 0⟩ rfl (Nat.le_of_ble_eq_true rfl) dX7_settle_28) hW (fun zm7 H locs h hW => ?_)
    refine lv_aload_n hx hb dX7_settle_31 rfl (lv_at hl 0 rfl) ?_
    refine zg_Settling_bench X hW h0 zu_270 dX7_settle_32 ?_
    refine zcalli (zrunV (As := []) (rest := []) X hml hl hW h0.2.2.2.2.1 rfl zk_Settling_49 (c_Bench_leastLeft h0.2.2.2.2 h) rfl ⟨Nat.le_of_ble_eq_true rfl, Nat.le_of_ble_eq_true rfl⟩ ⟨Nat.le_refl 0, Nat.le_refl 0⟩ rfl (Nat.le_of_ble_eq_true rfl) dX7_settle_35) hW (fun zr10 zm9 H locs h hW => ?_)
    refine lv_istore_n (lv' := [(3, .int zr10), (0, .ref (zad w k)), (1, .ref (zad w t1)), (2, .ref (zad w t2))]) hx hb dX7_settle_38 rfl hl (Nat.le_of_ble_eq_true rfl) rfl (fun ls hl => ?_)
    refine lv_iconst hx hb dX7_settle_39 zc_i0 ?_
    refine lv_istore (lv' := [(4, .int 0), (3, .int zr10), (0, .ref (zad w k)), (1, .ref (zad w t1)), (2, .ref (zad w t2))]) hx hb dX7_settle_40 hl (Nat.le_of_ble_eq_true rfl) rfl (fun ls hl => ?_)
    obtain ⟨n, h⟩ := h
    refine zL_42   n zr10 0 zm9 H locs ls hW (lv_sub hl [2, 3, 4, 1, 0] rfl) h
  exact zMain s.heap [] ls hW hl
def wpB_Orders_forget_2 (k : Nat)   (Q : zMem → Prop) (J : Int32 → zMem → Prop) (x_1 : Int32) (M : zMem) : Prop :=
  (120 ≤ x_1 → Q M) ∧ (¬ 120 ≤ x_1 → vp_in x_1 120 ∧ ∀ zm1 : zMem, zm1 = zup M (k + 2) (ix x_1) 0 → ∀ zx2 : Int32, zx2 = x_1 + 1 → J zx2 zm1)
def wp_Orders_forget (k : Nat) (M : zMem) (Q : zMem → Prop) : Prop :=
  ∃ n : Nat, zlp1 (wpB_Orders_forget_2 k   Q) n 0 M
set_option maxHeartbeats 4000000 in
set_option maxRecDepth 20000 in
theorem c_Orders_forget {l : Launch} {w : zWd} {k : Nat} {M : zMem} {post : zMem → Prop} (h0 : zI_Orders w k) (h : wp_Orders_forget k M post) : zMv l ⟨"HandToHand$Orders", "forget", "()V"⟩ prog_5_method_2_code 2 none 0 0 w [.ref (zad w k)] M post := by
  refine zMet (by decide) (Nat.le_of_ble_eq_true rfl) ?_
  intro p e s m below meth c X hr hlk hml hW ls hl
  have hx := X.1
  have hb := X.2.1
  have hl : lv_has ls 2 [(0, .ref (zad w k))] := hl
  have zL_2 :  ∀ (n : Nat) (x_1 : Int32) (M : zMem) (H : Heap) (locs : List Loc) (ls : Array Slot), zWo w s.heap M H locs → lv_has ls 2 [(0, .ref (zad w k)), (1, .int x_1)] → zlp1 (wpB_Orders_forget_2 k   post) n x_1 M → W p l e (zRm 0 0) s m ([.ref (zad w k)] : List Value).toArray below meth c H locs 0 0 (MQ below (va_Qv post (zB w) (zA w)) ([.ref (zad w k)] : List Value).toArray s 0 0 (zA w)) (F0 m 2 ls []) := by
    intro n
    induction n with
    | zero => intro x_1 M H locs ls hW hl h; exact h.elim
    | succ n zJ =>
      intro x_1 M H locs ls hW hl h
      have h : wpB_Orders_forget_2 k   post (zlp1 (wpB_Orders_forget_2 k   post) n) x_1 M := h
      unfold wpB_Orders_forget_2 at h
      refine lv_iload_n hx hb dX3_forget_2 rfl (lv_at hl 1 rfl) ?_
      refine lv_bipush hx hb dX3_forget_3 zc_b120 ?_
      refine lv_icmp_ge (tgt := 21) hx hb dX3_forget_5 rfl (fun c => ?_) (fun c => ?_)
      · replace h := h.1 c
        exact zretv X hr hlk hW h dX3_forget_21
      · replace h := h.2 c
        refine lv_aload_n hx hb dX3_forget_8 rfl (lv_at hl 0 rfl) ?_
        refine zg_Orders_bottoms X hW h0 zu_337 dX3_forget_9 ?_
        refine lv_iload_n hx hb dX3_forget_12 rfl (lv_at hl 1 rfl) ?_
        refine lv_iconst hx hb dX3_forget_13 zc_i0 ?_
        obtain ⟨g, h⟩ := h
        refine ziast X hW h0.2.2.1 g dX3_forget_14 (fun H locs zm1 ezm1 hW => ?_)
        replace h := h zm1 ezm1
        obtain ⟨zx2, ezx2⟩ : ∃ y : Int32, y = x_1 + 1 := ⟨_, rfl⟩
        replace h := h zx2 ezx2
        refine lv_iinc (v := zx2) (lv' := [(1, .int zx2), (0, .ref (zad w k))]) hx hb dX3_forget_15 hl (k := 1) rfl (by rw [ezx2, zc_i1]) (Nat.le_of_ble_eq_true rfl) rfl (fun ls hl => ?_)
        refine lv_goto (tgt := 2) hx hb dX3_forget_18 rfl ?_
        exact zJ zx2 zm1 H locs ls hW (lv_sub hl [1, 0] rfl) h
  unfold wp_Orders_forget at h
  have zMain : ∀ (H : Heap) (locs : List Loc) (ls : Array Slot), zWo w s.heap M H locs → lv_has ls 2 [(0, .ref (zad w k))] → W p l e (zRm 0 0) s m ([.ref (zad w k)] : List Value).toArray below meth c H locs 0 0 (MQ below (va_Qv post (zB w) (zA w)) ([.ref (zad w k)] : List Value).toArray s 0 0 (zA w)) (F0 m 0 ls []) := by
    intro H locs ls hW hl
    refine lv_iconst hx hb dX3_forget_0 zc_i0 ?_
    refine lv_istore_n (lv' := [(1, .int 0), (0, .ref (zad w k))]) hx hb dX3_forget_1 rfl hl (Nat.le_of_ble_eq_true rfl) rfl (fun ls hl => ?_)
    obtain ⟨n, h⟩ := h
    refine zL_2   n 0 M H locs ls hW (lv_sub hl [1, 0] rfl) h
  exact zMain s.heap [] ls hW hl
def wpB_Main_numberOfOrders_4 (a1 : Int32)   (Q : Int32 → zMem → Prop) (J : Int32 → Int32 → zMem → Prop) (x_1 : Int32) (x_2 : Int32) (M : zMem) : Prop :=
  (a1 < x_2 → Q x_1 M) ∧ (¬ a1 < x_2 → ∀ zx1 : Int32, zx1 = x_1 * x_2 → ∀ zx2 : Int32, zx2 = x_2 + 1 → J zx1 zx2 M)
def wp_Main_numberOfOrders (a1 : Int32) (M : zMem) (Q : Int32 → zMem → Prop) : Prop :=
  ∃ n : Nat, zlp2 (wpB_Main_numberOfOrders_4 a1   Q) n 1 2 M
set_option maxHeartbeats 4000000 in
set_option maxRecDepth 20000 in
theorem c_Main_numberOfOrders {l : Launch} {w : zWd} {a1 : Int32} {M : zMem} {post : Int32 → zMem → Prop}  (h : wp_Main_numberOfOrders a1 M post) : zMi l ⟨"HandToHand", "numberOfOrders", "(I)I"⟩ prog_1_method_45_code 3 (Option.some .int) 0 0 w [.int a1] M post := by
  refine zMet (by decide) (Nat.le_of_ble_eq_true rfl) ?_
  intro p e s m below meth c X hr hlk hml hW ls hl
  have hx := X.1
  have hb := X.2.1
  have hl : lv_has ls 3 [(0, .int a1)] := hl
  have zL_4 :  ∀ (n : Nat) (x_1 : Int32) (x_2 : Int32) (M : zMem) (H : Heap) (locs : List Loc) (ls : Array Slot), zWo w s.heap M H locs → lv_has ls 3 [(0, .int a1), (1, .int x_1), (2, .int x_2)] → zlp2 (wpB_Main_numberOfOrders_4 a1   post) n x_1 x_2 M → W p l e (zRm 0 0) s m ([.int a1] : List Value).toArray below meth c H locs 0 0 (MQ below (va_Qi post (zB w) (zA w)) ([.int a1] : List Value).toArray s 0 0 (zA w)) (F0 m 4 ls []) := by
    intro n
    induction n with
    | zero => intro x_1 x_2 M H locs ls hW hl h; exact h.elim
    | succ n zJ =>
      intro x_1 x_2 M H locs ls hW hl h
      have h : wpB_Main_numberOfOrders_4 a1   post (zlp2 (wpB_Main_numberOfOrders_4 a1   post) n) x_1 x_2 M := h
      unfold wpB_Main_numberOfOrders_4 at h
      refine lv_iload_n hx hb dX10_numberOfOrders_4 rfl (lv_at hl 2 rfl) ?_
      refine lv_iload_n hx hb dX10_numberOfOrders_5 rfl (lv_at hl 0 rfl) ?_
      refine lv_icmp_gt (tgt := 19) hx hb dX10_numberOfOrders_6 rfl (fun c => ?_) (fun c => ?_)
      · replace h := h.1 c
        refine lv_iload_n hx hb dX10_numberOfOrders_19 rfl (lv_at hl 1 rfl) ?_
        exact zreti X hr hlk hW h dX10_numberOfOrders_20
      · replace h := h.2 c
        refine lv_iload_n hx hb dX10_numberOfOrders_9 rfl (lv_at hl 1 rfl) ?_
        refine lv_iload_n hx hb dX10_numberOfOrders_10 rfl (lv_at hl 2 rfl) ?_
        refine lv_imul hx hb dX10_numberOfOrders_11 ?_
        refine lv_topi (fun zx1 ezx1 => ?_)
        replace h := h zx1 ezx1
        refine lv_istore_n (lv' := [(1, .int zx1), (0, .int a1), (2, .int x_2)]) hx hb dX10_numberOfOrders_12 rfl hl (Nat.le_of_ble_eq_true rfl) rfl (fun ls hl => ?_)
        obtain ⟨zx2, ezx2⟩ : ∃ y : Int32, y = x_2 + 1 := ⟨_, rfl⟩
        replace h := h zx2 ezx2
        refine lv_iinc (v := zx2) (lv' := [(2, .int zx2), (1, .int zx1), (0, .int a1)]) hx hb dX10_numberOfOrders_13 hl (k := 2) rfl (by rw [ezx2, zc_i1]) (Nat.le_of_ble_eq_true rfl) rfl (fun ls hl => ?_)
        refine lv_goto (tgt := 4) hx hb dX10_numberOfOrders_16 rfl ?_
        exact zJ zx1 zx2 M H locs ls hW (lv_sub hl [2, 1, 0] rfl) h
  unfold wp_Main_numberOfOrders at h
  have zMain : ∀ (H : Heap) (locs : List Loc) (ls : Array Slot), zWo w s.heap M H locs → lv_has ls 3 [(0, .int a1)] → W p l e (zRm 0 0) s m ([.int a1] : List Value).toArray below meth c H locs 0 0 (MQ below (va_Qi post (zB w) (zA w)) ([.int a1] : List Value).toArray s 0 0 (zA w)) (F0 m 0 ls []) := by
    intro H locs ls hW hl
    refine lv_iconst hx hb dX10_numberOfOrders_0 zc_i1 ?_
    refine lv_istore_n (lv' := [(1, .int 1), (0, .int a1)]) hx hb dX10_numberOfOrders_1 rfl hl (Nat.le_of_ble_eq_true rfl) rfl (fun ls hl => ?_)
    refine lv_iconst hx hb dX10_numberOfOrders_2 zc_i2 ?_
    refine lv_istore_n (lv' := [(2, .int 2), (1, .int 1), (0, .int a1)]) hx hb dX10_numberOfOrders_3 rfl hl (Nat.le_of_ble_eq_true rfl) rfl (fun ls hl => ?_)
    obtain ⟨n, h⟩ := h
    refine zL_4   n 1 2 M H locs ls hW (lv_sub hl [2, 1, 0] rfl) h
  exact zMain s.heap [] ls hW hl
def wpB_Orders_unusedHand_6 (k : Nat) (a1 : Int32) (a2 : Int32) (a3 : Int32)   (Q : Int32 → zMem → Prop) (J : Int32 → Int32 → zMem → Prop) (x_4 : Int32) (x_5 : Int32) (M : zMem) : Prop :=
  (a3 ≤ x_5 → Q 0 M) ∧ (¬ a3 ≤ x_5 → (¬ ((a1 >>> (x_5 &&& 31)) &&& 1) = 0 → ∀ zx1 : Int32, zx1 = x_5 + 1 → J x_4 zx1 M) ∧ (((a1 >>> (x_5 &&& 31)) &&& 1) = 0 → (¬ x_4 = a2 → ∀ zx2 : Int32, zx2 = x_4 + 1 → ∀ zx3 : Int32, zx3 = x_5 + 1 → J zx2 zx3 M) ∧ (x_4 = a2 → Q x_5 M)))
def wp_Orders_unusedHand (k : Nat) (a1 : Int32) (a2 : Int32) (a3 : Int32) (M : zMem) (Q : Int32 → zMem → Prop) : Prop :=
  ∃ n : Nat, zlp2 (wpB_Orders_unusedHand_6 k a1 a2 a3   Q) n 0 0 M
set_option maxHeartbeats 4000000 in
set_option maxRecDepth 20000 in
theorem c_Orders_unusedHand {l : Launch} {w : zWd} {k : Nat} {a1 : Int32} {a2 : Int32} {a3 : Int32} {M : zMem} {post : Int32 → zMem → Prop} (h0 : zI_Orders w k) (h : wp_Orders_unusedHand k a1 a2 a3 M post) : zMi l ⟨"HandToHand$Orders", "unusedHand", "(III)I"⟩ prog_5_method_4_code 6 (Option.some .int) 0 0 w [.ref (zad w k), .int a1, .int a2, .int a3] M post := by
  refine zMet (by decide) (Nat.le_of_ble_eq_true rfl) ?_
  intro p e s m below meth c X hr hlk hml hW ls hl
  have hx := X.1
  have hb := X.2.1
  have hl : lv_has ls 6 [(0, .ref (zad w k)), (1, .int a1), (2, .int a2), (3, .int a3)] := hl
  have zL_6 :  ∀ (n : Nat) (x_4 : Int32) (x_5 : Int32) (M : zMem) (H : Heap) (locs : List Loc) (ls : Array Slot), zWo w s.heap M H locs → lv_has ls 6 [(1, .int a1), (2, .int a2), (3, .int a3), (4, .int x_4), (5, .int x_5)] → zlp2 (wpB_Orders_unusedHand_6 k a1 a2 a3   post) n x_4 x_5 M → W p l e (zRm 0 0) s m ([.ref (zad w k), .int a1, .int a2, .int a3] : List Value).toArray below meth c H locs 0 0 (MQ below (va_Qi post (zB w) (zA w)) ([.ref (zad w k), .int a1, .int a2, .int a3] : List Value).toArray s 0 0 (zA w)) (F0 m 6 ls []) := by
    intro n
    induction n with
    | zero => intro x_4 x_5 M H locs ls hW hl h; exact h.elim
    | succ n zJ =>
      intro x_4 x_5 M H locs ls hW hl h
      have h : wpB_Orders_unusedHand_6 k a1 a2 a3   post (zlp2 (wpB_Orders_unusedHand_6 k a1 a2 a3   post) n) x_4 x_5 M := h
      unfold wpB_Orders_unusedHand_6 at h
      refine lv_iload hx hb dX3_unusedHand_6 (lv_at hl 4 rfl) ?_
      refine lv_iload_n hx hb dX3_unusedHand_8 rfl (lv_at hl 2 rfl) ?_
      refine lv_icmp_ge (tgt := 39) hx hb dX3_unusedHand_9 rfl (fun c => ?_) (fun c => ?_)
      · replace h := h.1 c
        refine lv_iconst hx hb dX3_unusedHand_39 zc_i0 ?_
        exact zreti X hr hlk hW h dX3_unusedHand_40
      · replace h := h.2 c
        refine lv_iload_n hx hb dX3_unusedHand_12 rfl (lv_at hl 0 rfl) ?_
        refine lv_iload hx hb dX3_unusedHand_13 (lv_at hl 4 rfl) ?_
        refine lv_ishr hx hb dX3_unusedHand_15 ?_
        refine lv_iconst hx hb dX3_unusedHand_16 zc_i1 ?_
        refine lv_iand hx hb dX3_unusedHand_17 ?_
        refine lv_if_ne (tgt := 33) hx hb dX3_unusedHand_18 rfl (fun c => ?_) (fun c => ?_)
        · replace h := h.1 c
          obtain ⟨zx1, ezx1⟩ : ∃ y : Int32, y = x_5 + 1 := ⟨_, rfl⟩
          replace h := h zx1 ezx1
          refine lv_iinc (v := zx1) (lv' := [(5, .int zx1), (1, .int a1), (2, .int a2), (3, .int a3), (4, .int x_4)]) hx hb dX3_unusedHand_33 hl (k := 4) rfl (by rw [ezx1, zc_i1]) (Nat.le_of_ble_eq_true rfl) rfl (fun ls hl => ?_)
          refine lv_goto (tgt := 6) hx hb dX3_unusedHand_36 rfl ?_
          exact zJ x_4 zx1 M H locs ls hW (lv_sub hl [1, 2, 3, 4, 0] rfl) h
        · replace h := h.2 c
          refine lv_iload hx hb dX3_unusedHand_21 (lv_at hl 3 rfl) ?_
          refine lv_iload_n hx hb dX3_unusedHand_23 rfl (lv_at hl 1 rfl) ?_
          refine lv_icmp_ne (tgt := 30) hx hb dX3_unusedHand_24 rfl (fun c => ?_) (fun c => ?_)
          · replace h := h.1 c
            obtain ⟨zx2, ezx2⟩ : ∃ y : Int32, y = x_4 + 1 := ⟨_, rfl⟩
            replace h := h zx2 ezx2
            refine lv_iinc (v := zx2) (lv' := [(4, .int zx2), (1, .int a1), (2, .int a2), (3, .int a3), (5, .int x_5)]) hx hb dX3_unusedHand_30 hl (k := 3) rfl (by rw [ezx2, zc_i1]) (Nat.le_of_ble_eq_true rfl) rfl (fun ls hl => ?_)
            obtain ⟨zx3, ezx3⟩ : ∃ y : Int32, y = x_5 + 1 := ⟨_, rfl⟩
            replace h := h zx3 ezx3
            refine lv_iinc (v := zx3) (lv' := [(5, .int zx3), (4, .int zx2), (1, .int a1), (2, .int a2), (3, .int a3)]) hx hb dX3_unusedHand_33 hl (k := 4) rfl (by rw [ezx3, zc_i1]) (Nat.le_of_ble_eq_true rfl) rfl (fun ls hl => ?_)
            refine lv_goto (tgt := 6) hx hb dX3_unusedHand_36 rfl ?_
            exact zJ zx2 zx3 M H locs ls hW (lv_sub hl [2, 3, 4, 1, 0] rfl) h
          · replace h := h.2 c
            refine lv_iload hx hb dX3_unusedHand_27 (lv_at hl 4 rfl) ?_
            exact zreti X hr hlk hW h dX3_unusedHand_29
  unfold wp_Orders_unusedHand at h
  have zMain : ∀ (H : Heap) (locs : List Loc) (ls : Array Slot), zWo w s.heap M H locs → lv_has ls 6 [(0, .ref (zad w k)), (1, .int a1), (2, .int a2), (3, .int a3)] → W p l e (zRm 0 0) s m ([.ref (zad w k), .int a1, .int a2, .int a3] : List Value).toArray below meth c H locs 0 0 (MQ below (va_Qi post (zB w) (zA w)) ([.ref (zad w k), .int a1, .int a2, .int a3] : List Value).toArray s 0 0 (zA w)) (F0 m 0 ls []) := by
    intro H locs ls hW hl
    refine lv_iconst hx hb dX3_unusedHand_0 zc_i0 ?_
    refine lv_istore (lv' := [(4, .int 0), (0, .ref (zad w k)), (1, .int a1), (2, .int a2), (3, .int a3)]) hx hb dX3_unusedHand_1 hl (Nat.le_of_ble_eq_true rfl) rfl (fun ls hl => ?_)
    refine lv_iconst hx hb dX3_unusedHand_3 zc_i0 ?_
    refine lv_istore (lv' := [(5, .int 0), (4, .int 0), (0, .ref (zad w k)), (1, .int a1), (2, .int a2), (3, .int a3)]) hx hb dX3_unusedHand_4 hl (Nat.le_of_ble_eq_true rfl) rfl (fun ls hl => ?_)
    obtain ⟨n, h⟩ := h
    refine zL_6   n 0 0 M H locs ls hW (lv_sub hl [3, 4, 5, 1, 0] rfl) h
  exact zMain s.heap [] ls hW hl
def wpJ_Orders_standAs_57 (k : Nat) (a1 : Int32) (a2 : Int32)  (J : Int32 → Int32 → Int32 → Int32 → zMem → Prop) (Q : zMem → Prop) (x_4 : Int32) (x_5 : Int32) (x_6 : Int32) (x_7 : Int32) (s_0 : Int32) (M : zMem) : Prop :=
  wp_Orders_unusedHand k x_4 x_7 a2 M (fun zr5 zm4 => vp_in x_6 5 ∧ ∀ zm6 : zMem, zm6 = zup zm4 (k + 3) (ix x_6) zr5 → ∀ zx7 : Int32, zx7 = x_4 ||| (1 <<< (zr5 &&& 31)) → ∀ zx8 : Int32, zx8 = x_6 + 1 → J s_0 zx7 x_5 zx8 zm6)
def wpJ_Orders_standAs_42 (k : Nat) (a1 : Int32) (a2 : Int32)  (J : Int32 → Int32 → Int32 → Int32 → zMem → Prop) (Q : zMem → Prop) (x_3 : Int32) (x_4 : Int32) (x_5 : Int32) (x_6 : Int32) (s_0 : Int32) (M : zMem) : Prop :=
  (x_5 ≤ 0 → wpJ_Orders_standAs_57 k a1 a2 J Q x_4 x_5 x_6 s_0 0 M) ∧ (¬ x_5 ≤ 0 → (¬ x_5 = 0) ∧ wpJ_Orders_standAs_57 k a1 a2 J Q x_4 x_5 x_6 s_0 (x_3 - x_3 / x_5 * x_5) M)
def wpB_Orders_standAs_14 (k : Nat) (a1 : Int32) (a2 : Int32)   (Q : zMem → Prop) (J : Int32 → Int32 → Int32 → Int32 → zMem → Prop) (x_3 : Int32) (x_4 : Int32) (x_5 : Int32) (x_6 : Int32) (M : zMem) : Prop :=
  (a2 ≤ x_6 → Q M) ∧ (¬ a2 ≤ x_6 → (¬ (a2 - x_6) = 0) ∧ ∀ zx3 : Int32, zx3 = x_5 / (a2 - x_6) → (zx3 ≤ 0 → wpJ_Orders_standAs_42 k a1 a2 J Q x_3 x_4 zx3 x_6 0 M) ∧ (¬ zx3 ≤ 0 → (¬ zx3 = 0) ∧ wpJ_Orders_standAs_42 k a1 a2 J Q x_3 x_4 zx3 x_6 (x_3 / zx3) M))
def wp_Orders_standAs (k : Nat) (a1 : Int32) (a2 : Int32) (M : zMem) (Q : zMem → Prop) : Prop :=
  wp_Main_numberOfOrders a2 M (fun zr2 zm1 => ∃ n : Nat, zlp4 (wpB_Orders_standAs_14 k a1 a2   Q) n a1 0 zr2 0 zm1)
set_option maxHeartbeats 4000000 in
set_option maxRecDepth 20000 in
theorem c_Orders_standAs {l : Launch} {w : zWd} {k : Nat} {a1 : Int32} {a2 : Int32} {M : zMem} {post : zMem → Prop} (h0 : zI_Orders w k) (h : wp_Orders_standAs k a1 a2 M post) : zMv l ⟨"HandToHand$Orders", "standAs", "(II)V"⟩ prog_5_method_3_code 9 none 1 25 w [.ref (zad w k), .int a1, .int a2] M post := by
  refine zMet (by decide) (Nat.le_of_ble_eq_true rfl) ?_
  intro p e s m below meth c X hr hlk hml hW ls hl
  have hx := X.1
  have hb := X.2.1
  have hl : lv_has ls 9 [(0, .ref (zad w k)), (1, .int a1), (2, .int a2)] := hl
  have zJ_57 : ∀ (x_4 : Int32) (x_5 : Int32) (x_6 : Int32) (x_7 : Int32) (s_0 : Int32) (J : Int32 → Int32 → Int32 → Int32 → zMem → Prop) (zJ : ∀ (y_3 : Int32) (y_4 : Int32) (y_5 : Int32) (y_6 : Int32) (M : zMem) (H : Heap) (locs : List Loc) (ls : Array Slot), zWo w s.heap M H locs → lv_has ls 9 [(0, .ref (zad w k)), (2, .int a2), (3, .int y_3), (4, .int y_4), (5, .int y_5), (6, .int y_6)] → J y_3 y_4 y_5 y_6 M → W p l e (zRm 1 25) s m ([.ref (zad w k), .int a1, .int a2] : List Value).toArray below meth c H locs 0 0 (MQ below (va_Qv post (zB w) (zA w)) ([.ref (zad w k), .int a1, .int a2] : List Value).toArray s 0 0 (zA w)) (F0 m 14 ls [])) (M : zMem) (H : Heap) (locs : List Loc) (ls : Array Slot), zWo w s.heap M H locs → lv_has ls 9 [(0, .ref (zad w k)), (2, .int a2), (4, .int x_4), (5, .int x_5), (6, .int x_6), (7, .int x_7)] → wpJ_Orders_standAs_57 k a1 a2 J post x_4 x_5 x_6 x_7 s_0 M → W p l e (zRm 1 25) s m ([.ref (zad w k), .int a1, .int a2] : List Value).toArray below meth c H locs 0 0 (MQ below (va_Qv post (zB w) (zA w)) ([.ref (zad w k), .int a1, .int a2] : List Value).toArray s 0 0 (zA w)) (F0 m 57 ls [.int s_0]) := by
    intro x_4 x_5 x_6 x_7 s_0 J zJ M H locs ls hW hl h
    unfold wpJ_Orders_standAs_57 at h
    refine lv_istore_n (lv' := [(3, .int s_0), (0, .ref (zad w k)), (2, .int a2), (4, .int x_4), (5, .int x_5), (6, .int x_6), (7, .int x_7)]) hx hb dX3_standAs_57 rfl hl (Nat.le_of_ble_eq_true rfl) rfl (fun ls hl => ?_)
    refine lv_aload_n hx hb dX3_standAs_58 rfl (lv_at hl 1 rfl) ?_
    refine lv_iload hx hb dX3_standAs_59 (lv_at hl 3 rfl) ?_
    refine lv_iload hx hb dX3_standAs_61 (lv_at hl 6 rfl) ?_
    refine lv_iload_n hx hb dX3_standAs_63 rfl (lv_at hl 2 rfl) ?_
    refine zcalli (zrunV (As := [.int x_4, .int x_7, .int a2]) (rest := []) X hml hl hW h0.1 rfl zk_Orders_25 (c_Orders_unusedHand h0 h) rfl ⟨Nat.le_of_ble_eq_true rfl, Nat.le_of_ble_eq_true rfl⟩ ⟨Nat.le_refl 0, Nat.le_refl 0⟩ rfl (Nat.le_of_ble_eq_true rfl) dX3_standAs_64) hW (fun zr5 zm4 H locs h hW => ?_)
    refine lv_istore (lv' := [(8, .int zr5), (3, .int s_0), (0, .ref (zad w k)), (2, .int a2), (4, .int x_4), (5, .int x_5), (6, .int x_6), (7, .int x_7)]) hx hb dX3_standAs_67 hl (Nat.le_of_ble_eq_true rfl) rfl (fun ls hl => ?_)
    refine lv_aload_n hx hb dX3_standAs_69 rfl (lv_at hl 2 rfl) ?_
    refine zg_Orders_standing X hW h0 zu_339 dX3_standAs_70 ?_
    refine lv_iload hx hb dX3_standAs_73 (lv_at hl 6 rfl) ?_
    refine lv_iload hx hb dX3_standAs_75 (lv_at hl 0 rfl) ?_
    obtain ⟨g, h⟩ := h
    refine ziast X hW h0.2.2.2 g dX3_standAs_77 (fun H locs zm6 ezm6 hW => ?_)
    replace h := h zm6 ezm6
    refine lv_iload hx hb dX3_standAs_78 (lv_at hl 4 rfl) ?_
    refine lv_iconst hx hb dX3_standAs_80 zc_i1 ?_
    refine lv_iload hx hb dX3_standAs_81 (lv_at hl 0 rfl) ?_
    refine lv_ishl hx hb dX3_standAs_83 ?_
    refine lv_ior hx hb dX3_standAs_84 ?_
    refine lv_topi (fun zx7 ezx7 => ?_)
    replace h := h zx7 ezx7
    refine lv_istore (lv' := [(4, .int zx7), (8, .int zr5), (3, .int s_0), (0, .ref (zad w k)), (2, .int a2), (5, .int x_5), (6, .int x_6), (7, .int x_7)]) hx hb dX3_standAs_85 hl (Nat.le_of_ble_eq_true rfl) rfl (fun ls hl => ?_)
    obtain ⟨zx8, ezx8⟩ : ∃ y : Int32, y = x_6 + 1 := ⟨_, rfl⟩
    replace h := h zx8 ezx8
    refine lv_iinc (v := zx8) (lv' := [(6, .int zx8), (4, .int zx7), (8, .int zr5), (3, .int s_0), (0, .ref (zad w k)), (2, .int a2), (5, .int x_5), (7, .int x_7)]) hx hb dX3_standAs_87 hl (k := 6) rfl (by rw [ezx8, zc_i1]) (Nat.le_of_ble_eq_true rfl) rfl (fun ls hl => ?_)
    refine lv_goto (tgt := 14) hx hb dX3_standAs_90 rfl ?_
    exact zJ s_0 zx7 x_5 zx8 zm6 H locs ls hW (lv_sub hl [4, 5, 3, 1, 6, 0] rfl) h
  have zJ_42 : ∀ (x_3 : Int32) (x_4 : Int32) (x_5 : Int32) (x_6 : Int32) (s_0 : Int32) (J : Int32 → Int32 → Int32 → Int32 → zMem → Prop) (zJ : ∀ (y_3 : Int32) (y_4 : Int32) (y_5 : Int32) (y_6 : Int32) (M : zMem) (H : Heap) (locs : List Loc) (ls : Array Slot), zWo w s.heap M H locs → lv_has ls 9 [(0, .ref (zad w k)), (2, .int a2), (3, .int y_3), (4, .int y_4), (5, .int y_5), (6, .int y_6)] → J y_3 y_4 y_5 y_6 M → W p l e (zRm 1 25) s m ([.ref (zad w k), .int a1, .int a2] : List Value).toArray below meth c H locs 0 0 (MQ below (va_Qv post (zB w) (zA w)) ([.ref (zad w k), .int a1, .int a2] : List Value).toArray s 0 0 (zA w)) (F0 m 14 ls [])) (M : zMem) (H : Heap) (locs : List Loc) (ls : Array Slot), zWo w s.heap M H locs → lv_has ls 9 [(0, .ref (zad w k)), (2, .int a2), (3, .int x_3), (4, .int x_4), (5, .int x_5), (6, .int x_6)] → wpJ_Orders_standAs_42 k a1 a2 J post x_3 x_4 x_5 x_6 s_0 M → W p l e (zRm 1 25) s m ([.ref (zad w k), .int a1, .int a2] : List Value).toArray below meth c H locs 0 0 (MQ below (va_Qv post (zB w) (zA w)) ([.ref (zad w k), .int a1, .int a2] : List Value).toArray s 0 0 (zA w)) (F0 m 42 ls [.int s_0]) := by
    intro x_3 x_4 x_5 x_6 s_0 J zJ M H locs ls hW hl h
    unfold wpJ_Orders_standAs_42 at h
    refine lv_istore (lv' := [(7, .int s_0), (0, .ref (zad w k)), (2, .int a2), (3, .int x_3), (4, .int x_4), (5, .int x_5), (6, .int x_6)]) hx hb dX3_standAs_42 hl (Nat.le_of_ble_eq_true rfl) rfl (fun ls hl => ?_)
    refine lv_iload hx hb dX3_standAs_44 (lv_at hl 5 rfl) ?_
    refine lv_if_le (tgt := 56) hx hb dX3_standAs_46 rfl (fun c => ?_) (fun c => ?_)
    · replace h := h.1 c
      refine lv_iconst hx hb dX3_standAs_56 zc_i0 ?_
      exact zJ_57 x_4 x_5 x_6 s_0 0 _ zJ M H locs ls hW (lv_sub hl [1, 2, 4, 5, 6, 0] rfl) h
    · replace h := h.2 c
      refine lv_iload_n hx hb dX3_standAs_49 rfl (lv_at hl 3 rfl) ?_
      refine lv_iload hx hb dX3_standAs_50 (lv_at hl 5 rfl) ?_
      obtain ⟨g, h⟩ := h
      refine lv_irem hx hb dX3_standAs_52 g ?_
      refine lv_goto (tgt := 57) hx hb dX3_standAs_53 rfl ?_
      exact zJ_57 x_4 x_5 x_6 s_0 (x_3 - x_3 / x_5 * x_5) _ zJ M H locs ls hW (lv_sub hl [1, 2, 4, 5, 6, 0] rfl) h
  have zL_14 :  ∀ (n : Nat) (x_3 : Int32) (x_4 : Int32) (x_5 : Int32) (x_6 : Int32) (M : zMem) (H : Heap) (locs : List Loc) (ls : Array Slot), zWo w s.heap M H locs → lv_has ls 9 [(0, .ref (zad w k)), (2, .int a2), (3, .int x_3), (4, .int x_4), (5, .int x_5), (6, .int x_6)] → zlp4 (wpB_Orders_standAs_14 k a1 a2   post) n x_3 x_4 x_5 x_6 M → W p l e (zRm 1 25) s m ([.ref (zad w k), .int a1, .int a2] : List Value).toArray below meth c H locs 0 0 (MQ below (va_Qv post (zB w) (zA w)) ([.ref (zad w k), .int a1, .int a2] : List Value).toArray s 0 0 (zA w)) (F0 m 14 ls []) := by
    intro n
    induction n with
    | zero => intro x_3 x_4 x_5 x_6 M H locs ls hW hl h; exact h.elim
    | succ n zJ =>
      intro x_3 x_4 x_5 x_6 M H locs ls hW hl h
      have h : wpB_Orders_standAs_14 k a1 a2   post (zlp4 (wpB_Orders_standAs_14 k a1 a2   post) n) x_3 x_4 x_5 x_6 M := h
      unfold wpB_Orders_standAs_14 at h
      refine lv_iload hx hb dX3_standAs_14 (lv_at hl 5 rfl) ?_
      refine lv_iload_n hx hb dX3_standAs_16 rfl (lv_at hl 1 rfl) ?_
      refine lv_icmp_ge (tgt := 93) hx hb dX3_standAs_17 rfl (fun c => ?_) (fun c => ?_)
      · replace h := h.1 c
        exact zretv X hr hlk hW h dX3_standAs_93
      · replace h := h.2 c
        refine lv_iload hx hb dX3_standAs_20 (lv_at hl 4 rfl) ?_
        refine lv_iload_n hx hb dX3_standAs_22 rfl (lv_at hl 1 rfl) ?_
        refine lv_iload hx hb dX3_standAs_23 (lv_at hl 5 rfl) ?_
        refine lv_isub hx hb dX3_standAs_25 ?_
        obtain ⟨g, h⟩ := h
        refine lv_idiv hx hb dX3_standAs_26 g ?_
        refine lv_topi (fun zx3 ezx3 => ?_)
        replace h := h zx3 ezx3
        refine lv_istore (lv' := [(5, .int zx3), (0, .ref (zad w k)), (2, .int a2), (3, .int x_3), (4, .int x_4), (6, .int x_6)]) hx hb dX3_standAs_27 hl (Nat.le_of_ble_eq_true rfl) rfl (fun ls hl => ?_)
        refine lv_iload hx hb dX3_standAs_29 (lv_at hl 0 rfl) ?_
        refine lv_if_le (tgt := 41) hx hb dX3_standAs_31 rfl (fun c => ?_) (fun c => ?_)
        · replace h := h.1 c
          refine lv_iconst hx hb dX3_standAs_41 zc_i0 ?_
          exact zJ_42 x_3 x_4 zx3 x_6 0 _ zJ M H locs ls hW (lv_sub hl [1, 2, 3, 4, 0, 5] rfl) h
        · replace h := h.2 c
          refine lv_iload_n hx hb dX3_standAs_34 rfl (lv_at hl 3 rfl) ?_
          refine lv_iload hx hb dX3_standAs_35 (lv_at hl 0 rfl) ?_
          obtain ⟨g, h⟩ := h
          refine lv_idiv hx hb dX3_standAs_37 g ?_
          refine lv_goto (tgt := 42) hx hb dX3_standAs_38 rfl ?_
          exact zJ_42 x_3 x_4 zx3 x_6 (x_3 / zx3) _ zJ M H locs ls hW (lv_sub hl [1, 2, 3, 4, 0, 5] rfl) h
  unfold wp_Orders_standAs at h
  have zMain : ∀ (H : Heap) (locs : List Loc) (ls : Array Slot), zWo w s.heap M H locs → lv_has ls 9 [(0, .ref (zad w k)), (1, .int a1), (2, .int a2)] → W p l e (zRm 1 25) s m ([.ref (zad w k), .int a1, .int a2] : List Value).toArray below meth c H locs 0 0 (MQ below (va_Qv post (zB w) (zA w)) ([.ref (zad w k), .int a1, .int a2] : List Value).toArray s 0 0 (zA w)) (F0 m 0 ls []) := by
    intro H locs ls hW hl
    refine lv_iload_n hx hb dX3_standAs_0 rfl (lv_at hl 1 rfl) ?_
    refine lv_istore_n (lv' := [(3, .int a1), (0, .ref (zad w k)), (1, .int a1), (2, .int a2)]) hx hb dX3_standAs_1 rfl hl (Nat.le_of_ble_eq_true rfl) rfl (fun ls hl => ?_)
    refine lv_iconst hx hb dX3_standAs_2 zc_i0 ?_
    refine lv_istore (lv' := [(4, .int 0), (3, .int a1), (0, .ref (zad w k)), (1, .int a1), (2, .int a2)]) hx hb dX3_standAs_3 hl (Nat.le_of_ble_eq_true rfl) rfl (fun ls hl => ?_)
    refine lv_iload_n hx hb dX3_standAs_5 rfl (lv_at hl 4 rfl) ?_
    refine zcalli (zrunSN (As := [.int a2]) (rest := []) X hml hl hW zk_Orders_21 (c_Main_numberOfOrders  h) rfl ⟨Nat.le_of_ble_eq_true rfl, Nat.le_of_ble_eq_true rfl⟩ ⟨Nat.le_refl 0, Nat.le_refl 0⟩ rfl (Nat.le_of_ble_eq_true rfl) dX3_standAs_6) hW (fun zr2 zm1 H locs h hW => ?_)
    refine lv_istore (lv' := [(5, .int zr2), (4, .int 0), (3, .int a1), (0, .ref (zad w k)), (1, .int a1), (2, .int a2)]) hx hb dX3_standAs_9 hl (Nat.le_of_ble_eq_true rfl) rfl (fun ls hl => ?_)
    refine lv_iconst hx hb dX3_standAs_11 zc_i0 ?_
    refine lv_istore (lv' := [(6, .int 0), (5, .int zr2), (4, .int 0), (3, .int a1), (0, .ref (zad w k)), (1, .int a1), (2, .int a2)]) hx hb dX3_standAs_12 hl (Nat.le_of_ble_eq_true rfl) rfl (fun ls hl => ?_)
    obtain ⟨n, h⟩ := h
    refine zL_14   n a1 0 zr2 0 zm1 H locs ls hW (lv_sub hl [4, 6, 3, 2, 1, 0] rfl) h
  exact zMain s.heap [] ls hW hl
def wp_Parts_takeFrom (k : Nat) (t1 : Nat) (t2 : Nat) (M : zMem) (Q : zMem → Prop) : Prop :=
  ∀ zm1 : zMem, zm1 = zup M k 1 (M t2 6) → ∀ zm2 : zMem, zm2 = zup zm1 k 2 (zm1 t2 7) → zcpok 0 0 5 5 5 ∧ ∀ zm3 : zMem, zm3 = zcopyM zm2 (t1 + 4) (k + 1) 0 0 5 → Q zm3
set_option maxHeartbeats 4000000 in
set_option maxRecDepth 20000 in
theorem c_Parts_takeFrom {l : Launch} {w : zWd} {k : Nat} {t1 : Nat} {t2 : Nat} {M : zMem} {post : zMem → Prop} (h0 : zI_Parts w k) (h1 : zI_Told w t1) (h2 : zI_Ring w t2) (h : wp_Parts_takeFrom k t1 t2 M post) : zMv l ⟨"HandToHand$Parts", "takeFrom", "(LHandToHand$Told;LHandToHand$Ring;)V"⟩ prog_6_method_2_code 3 none 1 30 w [.ref (zad w k), .ref (zad w t1), .ref (zad w t2)] M post := by
  refine zMet (by decide) (Nat.le_of_ble_eq_true rfl) ?_
  intro p e s m below meth c X hr hlk hml hW ls hl
  have hx := X.1
  have hb := X.2.1
  have hl : lv_has ls 3 [(0, .ref (zad w k)), (1, .ref (zad w t1)), (2, .ref (zad w t2))] := hl
  unfold wp_Parts_takeFrom at h
  have zMain : ∀ (H : Heap) (locs : List Loc) (ls : Array Slot), zWo w s.heap M H locs → lv_has ls 3 [(0, .ref (zad w k)), (1, .ref (zad w t1)), (2, .ref (zad w t2))] → W p l e (zRm 1 30) s m ([.ref (zad w k), .ref (zad w t1), .ref (zad w t2)] : List Value).toArray below meth c H locs 0 0 (MQ below (va_Qv post (zB w) (zA w)) ([.ref (zad w k), .ref (zad w t1), .ref (zad w t2)] : List Value).toArray s 0 0 (zA w)) (F0 m 0 ls []) := by
    intro H locs ls hW hl
    refine lv_aload_n hx hb dX4_takeFrom_0 rfl (lv_at hl 0 rfl) ?_
    refine lv_aload_n hx hb dX4_takeFrom_1 rfl (lv_at hl 2 rfl) ?_
    refine zg_Ring_top X hW h2 zu_306 dX4_takeFrom_2 ?_
    refine zp_Parts_top X hW h0 zu_355 dX4_takeFrom_5 (fun H locs zm1 ezm1 hW => ?_)
    replace h := h zm1 ezm1
    refine lv_aload_n hx hb dX4_takeFrom_8 rfl (lv_at hl 0 rfl) ?_
    refine lv_aload_n hx hb dX4_takeFrom_9 rfl (lv_at hl 2 rfl) ?_
    refine zg_Ring_bottom X hW h2 zu_309 dX4_takeFrom_10 ?_
    refine zp_Parts_bottom X hW h0 zu_357 dX4_takeFrom_13 (fun H locs zm2 ezm2 hW => ?_)
    replace h := h zm2 ezm2
    refine lv_aload_n hx hb dX4_takeFrom_16 rfl (lv_at hl 1 rfl) ?_
    refine zg_Told_ends X hW h1 zu_69 dX4_takeFrom_17 ?_
    refine lv_iconst hx hb dX4_takeFrom_20 zc_i0 ?_
    refine lv_aload_n hx hb dX4_takeFrom_21 rfl (lv_at hl 0 rfl) ?_
    refine zg_Parts_ends X hW h0 zu_359 dX4_takeFrom_22 ?_
    refine lv_iconst hx hb dX4_takeFrom_25 zc_i0 ?_
    refine lv_iconst hx hb dX4_takeFrom_26 zc_i5 ?_
    obtain ⟨g, h⟩ := h
    refine zcopy X hml hl hW h1.2.2.2.2 h0.2 zu_950 g ⟨Nat.le_of_ble_eq_true rfl, Nat.le_of_ble_eq_true rfl⟩ dX4_takeFrom_27 (fun H locs zm3 ezm3 hW => ?_)
    replace h := h zm3 ezm3
    exact zretv X hr hlk hW h dX4_takeFrom_30
  exact zMain s.heap [] ls hW hl
def wpB_Sheet_makeNew_12 (k : Nat) (a1 : Int32) (a2 : Int32)   (Q : zMem → Prop) (J : Int32 → zMem → Prop) (x_3 : Int32) (M : zMem) : Prop :=
  (40 ≤ x_3 → Q M) ∧ (¬ 40 ≤ x_3 → vp_in x_3 40 ∧ ∀ zm3 : zMem, zm3 = zup M (k + 1) (ix x_3) 0 → ∀ zx4 : Int32, zx4 = x_3 + 1 → J zx4 zm3)
def wp_Sheet_makeNew (k : Nat) (a1 : Int32) (a2 : Int32) (M : zMem) (Q : zMem → Prop) : Prop :=
  ∀ zm1 : zMem, zm1 = zup M k 0 a1 → ∀ zm2 : zMem, zm2 = zup zm1 k 1 a2 → ∃ n : Nat, zlp1 (wpB_Sheet_makeNew_12 k a1 a2   Q) n 0 zm2
set_option maxHeartbeats 4000000 in
set_option maxRecDepth 20000 in
theorem c_Sheet_makeNew {l : Launch} {w : zWd} {k : Nat} {a1 : Int32} {a2 : Int32} {M : zMem} {post : zMem → Prop} (h0 : zI_Sheet w k) (h : wp_Sheet_makeNew k a1 a2 M post) : zMv l ⟨"HandToHand$Sheet", "makeNew", "(II)V"⟩ prog_10_method_2_code 4 none 0 0 w [.ref (zad w k), .int a1, .int a2] M post := by
  refine zMet (by decide) (Nat.le_of_ble_eq_true rfl) ?_
  intro p e s m below meth c X hr hlk hml hW ls hl
  have hx := X.1
  have hb := X.2.1
  have hl : lv_has ls 4 [(0, .ref (zad w k)), (1, .int a1), (2, .int a2)] := hl
  have zL_12 :  ∀ (n : Nat) (x_3 : Int32) (M : zMem) (H : Heap) (locs : List Loc) (ls : Array Slot), zWo w s.heap M H locs → lv_has ls 4 [(0, .ref (zad w k)), (3, .int x_3)] → zlp1 (wpB_Sheet_makeNew_12 k a1 a2   post) n x_3 M → W p l e (zRm 0 0) s m ([.ref (zad w k), .int a1, .int a2] : List Value).toArray below meth c H locs 0 0 (MQ below (va_Qv post (zB w) (zA w)) ([.ref (zad w k), .int a1, .int a2] : List Value).toArray s 0 0 (zA w)) (F0 m 12 ls []) := by
    intro n
    induction n with
    | zero => intro x_3 M H locs ls hW hl h; exact h.elim
    | succ n zJ =>
      intro x_3 M H locs ls hW hl h
      have h : wpB_Sheet_makeNew_12 k a1 a2   post (zlp1 (wpB_Sheet_makeNew_12 k a1 a2   post) n) x_3 M := h
      unfold wpB_Sheet_makeNew_12 at h
      refine lv_iload_n hx hb dX8_makeNew_12 rfl (lv_at hl 1 rfl) ?_
      refine lv_bipush hx hb dX8_makeNew_13 zc_b40 ?_
      refine lv_icmp_ge (tgt := 31) hx hb dX8_makeNew_15 rfl (fun c => ?_) (fun c => ?_)
      · replace h := h.1 c
        exact zretv X hr hlk hW h dX8_makeNew_31
      · replace h := h.2 c
        refine lv_aload_n hx hb dX8_makeNew_18 rfl (lv_at hl 0 rfl) ?_
        refine zg_Sheet_cells X hW h0 zu_393 dX8_makeNew_19 ?_
        refine lv_iload_n hx hb dX8_makeNew_22 rfl (lv_at hl 1 rfl) ?_
        refine lv_iconst hx hb dX8_makeNew_23 zc_i0 ?_
        obtain ⟨g, h⟩ := h
        refine ziast X hW h0.2 g dX8_makeNew_24 (fun H locs zm3 ezm3 hW => ?_)
        replace h := h zm3 ezm3
        obtain ⟨zx4, ezx4⟩ : ∃ y : Int32, y = x_3 + 1 := ⟨_, rfl⟩
        replace h := h zx4 ezx4
        refine lv_iinc (v := zx4) (lv' := [(3, .int zx4), (0, .ref (zad w k))]) hx hb dX8_makeNew_25 hl (k := 1) rfl (by rw [ezx4, zc_i1]) (Nat.le_of_ble_eq_true rfl) rfl (fun ls hl => ?_)
        refine lv_goto (tgt := 12) hx hb dX8_makeNew_28 rfl ?_
        exact zJ zx4 zm3 H locs ls hW (lv_sub hl [1, 0] rfl) h
  unfold wp_Sheet_makeNew at h
  have zMain : ∀ (H : Heap) (locs : List Loc) (ls : Array Slot), zWo w s.heap M H locs → lv_has ls 4 [(0, .ref (zad w k)), (1, .int a1), (2, .int a2)] → W p l e (zRm 0 0) s m ([.ref (zad w k), .int a1, .int a2] : List Value).toArray below meth c H locs 0 0 (MQ below (va_Qv post (zB w) (zA w)) ([.ref (zad w k), .int a1, .int a2] : List Value).toArray s 0 0 (zA w)) (F0 m 0 ls []) := by
    intro H locs ls hW hl
    refine lv_aload_n hx hb dX8_makeNew_0 rfl (lv_at hl 0 rfl) ?_
    refine lv_iload_n hx hb dX8_makeNew_1 rfl (lv_at hl 1 rfl) ?_
    refine zp_Sheet_lane X hW h0 zu_389 dX8_makeNew_2 (fun H locs zm1 ezm1 hW => ?_)
    replace h := h zm1 ezm1
    refine lv_aload_n hx hb dX8_makeNew_5 rfl (lv_at hl 0 rfl) ?_
    refine lv_iload_n hx hb dX8_makeNew_6 rfl (lv_at hl 2 rfl) ?_
    refine zp_Sheet_size X hW h0 zu_391 dX8_makeNew_7 (fun H locs zm2 ezm2 hW => ?_)
    replace h := h zm2 ezm2
    refine lv_iconst hx hb dX8_makeNew_10 zc_i0 ?_
    refine lv_istore_n (lv' := [(3, .int 0), (0, .ref (zad w k)), (1, .int a1), (2, .int a2)]) hx hb dX8_makeNew_11 rfl hl (Nat.le_of_ble_eq_true rfl) rfl (fun ls hl => ?_)
    obtain ⟨n, h⟩ := h
    refine zL_12   n 0 zm2 H locs ls hW (lv_sub hl [1, 0] rfl) h
  exact zMain s.heap [] ls hW hl
def wp_Sheet_put (k : Nat) (a1 : Int32) (a2 : Int32) (M : zMem) (Q : zMem → Prop) : Prop :=
  (¬ (M k 0) = 0 → (¬ (M k 0) = 1 → vp_in a1 40 ∧ ∀ zm1 : zMem, zm1 = zup M (k + 1) (ix a1) a2 → Q zm1) ∧ ((M k 0) = 1 → vp_in a1 40 ∧ ∀ zm2 : zMem, zm2 = zup M (k + 1) (ix a1) a2.toInt16.toInt32 → Q zm2)) ∧ ((M k 0) = 0 → vp_in a1 40 ∧ ∀ zm3 : zMem, zm3 = zup M (k + 1) (ix a1) a2.toInt8.toInt32 → Q zm3)
set_option maxHeartbeats 4000000 in
set_option maxRecDepth 20000 in
theorem c_Sheet_put {l : Launch} {w : zWd} {k : Nat} {a1 : Int32} {a2 : Int32} {M : zMem} {post : zMem → Prop} (h0 : zI_Sheet w k) (h : wp_Sheet_put k a1 a2 M post) : zMv l ⟨"HandToHand$Sheet", "put", "(II)V"⟩ prog_10_method_3_code 3 none 0 0 w [.ref (zad w k), .int a1, .int a2] M post := by
  refine zMet (by decide) (Nat.le_of_ble_eq_true rfl) ?_
  intro p e s m below meth c X hr hlk hml hW ls hl
  have hx := X.1
  have hb := X.2.1
  have hl : lv_has ls 3 [(0, .ref (zad w k)), (1, .int a1), (2, .int a2)] := hl
  unfold wp_Sheet_put at h
  have zMain : ∀ (H : Heap) (locs : List Loc) (ls : Array Slot), zWo w s.heap M H locs → lv_has ls 3 [(0, .ref (zad w k)), (1, .int a1), (2, .int a2)] → W p l e (zRm 0 0) s m ([.ref (zad w k), .int a1, .int a2] : List Value).toArray below meth c H locs 0 0 (MQ below (va_Qv post (zB w) (zA w)) ([.ref (zad w k), .int a1, .int a2] : List Value).toArray s 0 0 (zA w)) (F0 m 0 ls []) := by
    intro H locs ls hW hl
    refine lv_aload_n hx hb dX8_put_0 rfl (lv_at hl 0 rfl) ?_
    refine zg_Sheet_cells X hW h0 zu_393 dX8_put_1 ?_
    refine lv_iload_n hx hb dX8_put_4 rfl (lv_at hl 1 rfl) ?_
    refine lv_aload_n hx hb dX8_put_5 rfl (lv_at hl 0 rfl) ?_
    refine zg_Sheet_lane X hW h0 zu_389 dX8_put_6 ?_
    refine lv_if_ne (tgt := 17) hx hb dX8_put_9 rfl (fun c => ?_) (fun c => ?_)
    · replace h := h.1 c
      refine lv_aload_n hx hb dX8_put_17 rfl (lv_at hl 0 rfl) ?_
      refine zg_Sheet_lane X hW h0 zu_389 dX8_put_18 ?_
      refine lv_iconst hx hb dX8_put_21 zc_i1 ?_
      refine lv_icmp_ne (tgt := 30) hx hb dX8_put_22 rfl (fun c => ?_) (fun c => ?_)
      · replace h := h.1 c
        refine lv_iload_n hx hb dX8_put_30 rfl (lv_at hl 2 rfl) ?_
        obtain ⟨g, h⟩ := h
        refine ziast X hW h0.2 g dX8_put_31 (fun H locs zm1 ezm1 hW => ?_)
        replace h := h zm1 ezm1
        exact zretv X hr hlk hW h dX8_put_32
      · replace h := h.2 c
        refine lv_iload_n hx hb dX8_put_25 rfl (lv_at hl 2 rfl) ?_
        refine lv_i2s hx hb dX8_put_26 rfl ?_
        refine lv_goto (tgt := 31) hx hb dX8_put_27 rfl ?_
        obtain ⟨g, h⟩ := h
        refine ziast X hW h0.2 g dX8_put_31 (fun H locs zm2 ezm2 hW => ?_)
        replace h := h zm2 ezm2
        exact zretv X hr hlk hW h dX8_put_32
    · replace h := h.2 c
      refine lv_iload_n hx hb dX8_put_12 rfl (lv_at hl 2 rfl) ?_
      refine lv_i2b hx hb dX8_put_13 rfl ?_
      refine lv_goto (tgt := 31) hx hb dX8_put_14 rfl ?_
      obtain ⟨g, h⟩ := h
      refine ziast X hW h0.2 g dX8_put_31 (fun H locs zm3 ezm3 hW => ?_)
      replace h := h zm3 ezm3
      exact zretv X hr hlk hW h dX8_put_32
  exact zMain s.heap [] ls hW hl
def wp_Sheet_faultAs (k : Nat) (a1 : Int32) (M : zMem) (Q : Int32 → zMem → Prop) : Prop :=
  (¬ (M k 0) = (-1) → ((M k 0) = a1 → Q 0 M) ∧ (¬ (M k 0) = a1 → Q 3 M)) ∧ ((M k 0) = (-1) → Q 1 M)
set_option maxHeartbeats 4000000 in
set_option maxRecDepth 20000 in
theorem c_Sheet_faultAs {l : Launch} {w : zWd} {k : Nat} {a1 : Int32} {M : zMem} {post : Int32 → zMem → Prop} (h0 : zI_Sheet w k) (h : wp_Sheet_faultAs k a1 M post) : zMi l ⟨"HandToHand$Sheet", "faultAs", "(I)I"⟩ prog_10_method_4_code 2 (Option.some .int) 0 0 w [.ref (zad w k), .int a1] M post := by
  refine zMet (by decide) (Nat.le_of_ble_eq_true rfl) ?_
  intro p e s m below meth c X hr hlk hml hW ls hl
  have hx := X.1
  have hb := X.2.1
  have hl : lv_has ls 2 [(0, .ref (zad w k)), (1, .int a1)] := hl
  unfold wp_Sheet_faultAs at h
  have zMain : ∀ (H : Heap) (locs : List Loc) (ls : Array Slot), zWo w s.heap M H locs → lv_has ls 2 [(0, .ref (zad w k)), (1, .int a1)] → W p l e (zRm 0 0) s m ([.ref (zad w k), .int a1] : List Value).toArray below meth c H locs 0 0 (MQ below (va_Qi post (zB w) (zA w)) ([.ref (zad w k), .int a1] : List Value).toArray s 0 0 (zA w)) (F0 m 0 ls []) := by
    intro H locs ls hW hl
    refine lv_aload_n hx hb dX8_faultAs_0 rfl (lv_at hl 0 rfl) ?_
    refine zg_Sheet_lane X hW h0 zu_389 dX8_faultAs_1 ?_
    refine lv_iconst hx hb dX8_faultAs_4 zc_im1 ?_
    refine lv_icmp_ne (tgt := 10) hx hb dX8_faultAs_5 rfl (fun c => ?_) (fun c => ?_)
    · replace h := h.1 c
      refine lv_aload_n hx hb dX8_faultAs_10 rfl (lv_at hl 0 rfl) ?_
      refine zg_Sheet_lane X hW h0 zu_389 dX8_faultAs_11 ?_
      refine lv_iload_n hx hb dX8_faultAs_14 rfl (lv_at hl 1 rfl) ?_
      refine lv_icmp_eq (tgt := 22) hx hb dX8_faultAs_15 rfl (fun c => ?_) (fun c => ?_)
      · replace h := h.1 c
        refine lv_iconst hx hb dX8_faultAs_22 zc_i0 ?_
        exact zreti X hr hlk hW h dX8_faultAs_23
      · replace h := h.2 c
        refine lv_iconst hx hb dX8_faultAs_18 zc_i3 ?_
        refine lv_goto (tgt := 23) hx hb dX8_faultAs_19 rfl ?_
        exact zreti X hr hlk hW h dX8_faultAs_23
    · replace h := h.2 c
      refine lv_iconst hx hb dX8_faultAs_8 zc_i1 ?_
      exact zreti X hr hlk hW h dX8_faultAs_9
  exact zMain s.heap [] ls hW hl
def wp_Sheet_wholeRows (k : Nat) (a1 : Int32) (a2 : Int32) (a3 : Int32) (M : zMem) (Q : Int32 → zMem → Prop) : Prop :=
  (a1 < 0 → Q 0 M) ∧ (¬ a1 < 0 → ((M k 1) ≤ a1 → Q 0 M) ∧ (¬ (M k 1) ≤ a1 → (1 ≤ a2 → (¬ a2 = 0) ∧ ∀ zx1 : Int32, zx1 = ((M k 1) - a1) / a2 → (a3 ≤ zx1 → Q a3 M) ∧ (¬ a3 ≤ zx1 → Q zx1 M)) ∧ (¬ 1 ≤ a2 → Q 0 M)))
set_option maxHeartbeats 4000000 in
set_option maxRecDepth 20000 in
theorem c_Sheet_wholeRows {l : Launch} {w : zWd} {k : Nat} {a1 : Int32} {a2 : Int32} {a3 : Int32} {M : zMem} {post : Int32 → zMem → Prop} (h0 : zI_Sheet w k) (h : wp_Sheet_wholeRows k a1 a2 a3 M post) : zMi l ⟨"HandToHand$Sheet", "wholeRows", "(III)I"⟩ prog_10_method_5_code 5 (Option.some .int) 0 0 w [.ref (zad w k), .int a1, .int a2, .int a3] M post := by
  refine zMet (by decide) (Nat.le_of_ble_eq_true rfl) ?_
  intro p e s m below meth c X hr hlk hml hW ls hl
  have hx := X.1
  have hb := X.2.1
  have hl : lv_has ls 5 [(0, .ref (zad w k)), (1, .int a1), (2, .int a2), (3, .int a3)] := hl
  unfold wp_Sheet_wholeRows at h
  have zMain : ∀ (H : Heap) (locs : List Loc) (ls : Array Slot), zWo w s.heap M H locs → lv_has ls 5 [(0, .ref (zad w k)), (1, .int a1), (2, .int a2), (3, .int a3)] → W p l e (zRm 0 0) s m ([.ref (zad w k), .int a1, .int a2, .int a3] : List Value).toArray below meth c H locs 0 0 (MQ below (va_Qi post (zB w) (zA w)) ([.ref (zad w k), .int a1, .int a2, .int a3] : List Value).toArray s 0 0 (zA w)) (F0 m 0 ls []) := by
    intro H locs ls hW hl
    refine lv_iload_n hx hb dX8_wholeRows_0 rfl (lv_at hl 1 rfl) ?_
    refine lv_if_lt (tgt := 17) hx hb dX8_wholeRows_1 rfl (fun c => ?_) (fun c => ?_)
    · replace h := h.1 c
      refine lv_iconst hx hb dX8_wholeRows_17 zc_i0 ?_
      exact zreti X hr hlk hW h dX8_wholeRows_18
    · replace h := h.2 c
      refine lv_iload_n hx hb dX8_wholeRows_4 rfl (lv_at hl 1 rfl) ?_
      refine lv_aload_n hx hb dX8_wholeRows_5 rfl (lv_at hl 0 rfl) ?_
      refine zg_Sheet_size X hW h0 zu_391 dX8_wholeRows_6 ?_
      refine lv_icmp_ge (tgt := 17) hx hb dX8_wholeRows_9 rfl (fun c => ?_) (fun c => ?_)
      · replace h := h.1 c
        refine lv_iconst hx hb dX8_wholeRows_17 zc_i0 ?_
        exact zreti X hr hlk hW h dX8_wholeRows_18
      · replace h := h.2 c
        refine lv_iload_n hx hb dX8_wholeRows_12 rfl (lv_at hl 2 rfl) ?_
        refine lv_iconst hx hb dX8_wholeRows_13 zc_i1 ?_
        refine lv_icmp_ge (tgt := 19) hx hb dX8_wholeRows_14 rfl (fun c => ?_) (fun c => ?_)
        · replace h := h.1 c
          refine lv_aload_n hx hb dX8_wholeRows_19 rfl (lv_at hl 0 rfl) ?_
          refine zg_Sheet_size X hW h0 zu_391 dX8_wholeRows_20 ?_
          refine lv_iload_n hx hb dX8_wholeRows_23 rfl (lv_at hl 1 rfl) ?_
          refine lv_isub hx hb dX8_wholeRows_24 ?_
          refine lv_iload_n hx hb dX8_wholeRows_25 rfl (lv_at hl 2 rfl) ?_
          obtain ⟨g, h⟩ := h
          refine lv_idiv hx hb dX8_wholeRows_26 g ?_
          refine lv_topi (fun zx1 ezx1 => ?_)
          replace h := h zx1 ezx1
          refine lv_istore (lv' := [(4, .int zx1), (0, .ref (zad w k)), (1, .int a1), (2, .int a2), (3, .int a3)]) hx hb dX8_wholeRows_27 hl (Nat.le_of_ble_eq_true rfl) rfl (fun ls hl => ?_)
          refine lv_iload hx hb dX8_wholeRows_29 (lv_at hl 0 rfl) ?_
          refine lv_iload_n hx hb dX8_wholeRows_31 rfl (lv_at hl 4 rfl) ?_
          refine lv_icmp_ge (tgt := 40) hx hb dX8_wholeRows_32 rfl (fun c => ?_) (fun c => ?_)
          · replace h := h.1 c
            refine lv_iload_n hx hb dX8_wholeRows_40 rfl (lv_at hl 4 rfl) ?_
            exact zreti X hr hlk hW h dX8_wholeRows_41
          · replace h := h.2 c
            refine lv_iload hx hb dX8_wholeRows_35 (lv_at hl 0 rfl) ?_
            refine lv_goto (tgt := 41) hx hb dX8_wholeRows_37 rfl ?_
            exact zreti X hr hlk hW h dX8_wholeRows_41
        · replace h := h.2 c
          refine lv_iconst hx hb dX8_wholeRows_17 zc_i0 ?_
          exact zreti X hr hlk hW h dX8_wholeRows_18
  exact zMain s.heap [] ls hW hl
def wp_Reader_refuse (k : Nat) (a1 : Int32) (a2 : Int32) (M : zMem) (Q : Int32 → zMem → Prop) : Prop :=
  ∀ zm1 : zMem, zm1 = zup M k 1 a1 → ∀ zm2 : zMem, zm2 = zup zm1 k 2 a2 → Q 0 zm2
set_option maxHeartbeats 4000000 in
set_option maxRecDepth 20000 in
theorem c_Reader_refuse {l : Launch} {w : zWd} {k : Nat} {a1 : Int32} {a2 : Int32} {M : zMem} {post : Int32 → zMem → Prop} (h0 : zI_Reader w k) (h : wp_Reader_refuse k a1 a2 M post) : zMi l ⟨"HandToHand$Reader", "refuse", "(II)Z"⟩ prog_7_method_3_code 3 (Option.some .boolean) 0 0 w [.ref (zad w k), .int a1, .int a2] M post := by
  refine zMet (by decide) (Nat.le_of_ble_eq_true rfl) ?_
  intro p e s m below meth c X hr hlk hml hW ls hl
  have hx := X.1
  have hb := X.2.1
  have hl : lv_has ls 3 [(0, .ref (zad w k)), (1, .int a1), (2, .int a2)] := hl
  unfold wp_Reader_refuse at h
  have zMain : ∀ (H : Heap) (locs : List Loc) (ls : Array Slot), zWo w s.heap M H locs → lv_has ls 3 [(0, .ref (zad w k)), (1, .int a1), (2, .int a2)] → W p l e (zRm 0 0) s m ([.ref (zad w k), .int a1, .int a2] : List Value).toArray below meth c H locs 0 0 (MQ below (va_Qi post (zB w) (zA w)) ([.ref (zad w k), .int a1, .int a2] : List Value).toArray s 0 0 (zA w)) (F0 m 0 ls []) := by
    intro H locs ls hW hl
    refine lv_aload_n hx hb dX5_refuse_0 rfl (lv_at hl 0 rfl) ?_
    refine lv_iload_n hx hb dX5_refuse_1 rfl (lv_at hl 1 rfl) ?_
    refine zp_Reader_fault X hW h0 zu_106 dX5_refuse_2 (fun H locs zm1 ezm1 hW => ?_)
    replace h := h zm1 ezm1
    refine lv_aload_n hx hb dX5_refuse_5 rfl (lv_at hl 0 rfl) ?_
    refine lv_iload_n hx hb dX5_refuse_6 rfl (lv_at hl 2 rfl) ?_
    refine zp_Reader_faultPlace X hW h0 zu_108 dX5_refuse_7 (fun H locs zm2 ezm2 hW => ?_)
    replace h := h zm2 ezm2
    refine lv_iconst hx hb dX5_refuse_10 zc_i0 ?_
    exact zretz X hr hlk hW rfl h dX5_refuse_11
  exact zMain s.heap [] ls hW hl
def wpJ_Reader_isComplete_77 (k : Nat)  (J : Int32 → zMem → Prop) (Q : Int32 → zMem → Prop) (x_1 : Int32)  (M : zMem) : Prop :=
  wp_Told_pieceFrom (k + 1) 0 x_1 M (fun zr6 zm5 => (¬ zr6 = (zm5 (k + 1) 0) → ∀ zx7 : Int32, zx7 = x_1 + 1 → J zx7 zm5) ∧ (zr6 = (zm5 (k + 1) 0) → wp_Reader_refuse k 7 (zm5 k 5) zm5 (fun zr9 zm8 => zbo zr9 ∧ Q zr9 zm8)))
def wpB_Reader_isComplete_33 (k : Nat)   (Q : Int32 → zMem → Prop) (J : Int32 → zMem → Prop) (x_1 : Int32) (M : zMem) : Prop :=
  (3 ≤ x_1 → wp_Told_fillEnds (k + 1) M (fun zm3 => Q 1 zm3)) ∧ (¬ 3 ≤ x_1 → (¬ (((M k 11) >>> (x_1 &&& 31)) &&& 1) = 0 → wpJ_Reader_isComplete_77 k J Q x_1 M) ∧ ((((M k 11) >>> (x_1 &&& 31)) &&& 1) = 0 → (x_1 ≤ 0 → wpJ_Reader_isComplete_77 k J Q x_1 M) ∧ (¬ x_1 ≤ 0 → zcpok 0 (x_1 * 8) 8 24 24 ∧ ∀ zm10 : zMem, zm10 = zcopyM M (k + 3) (k + 3) 0 (x_1 * 8) 8 → wpJ_Reader_isComplete_77 k J Q x_1 zm10)))
def wp_Reader_isComplete (k : Nat) (M : zMem) (Q : Int32 → zMem → Prop) : Prop :=
  ((M (k + 1) 0) = 0 → wp_Reader_refuse k 6 (M k 5) M (fun zr2 zm1 => zbo zr2 ∧ Q zr2 zm1)) ∧ (¬ (M (k + 1) 0) = 0 → (¬ (M (k + 1) 1) = 0 → ∃ n : Nat, zlp1 (wpB_Reader_isComplete_33 k   Q) n 0 M) ∧ ((M (k + 1) 1) = 0 → wp_Reader_refuse k 6 (M k 5) M (fun zr12 zm11 => zbo zr12 ∧ Q zr12 zm11)))
set_option maxHeartbeats 4000000 in
set_option maxRecDepth 20000 in
theorem c_Reader_isComplete {l : Launch} {w : zWd} {k : Nat} {M : zMem} {post : Int32 → zMem → Prop} (h0 : zI_Reader w k) (h : wp_Reader_isComplete k M post) : zMi l ⟨"HandToHand$Reader", "isComplete", "()Z"⟩ prog_7_method_4_code 2 (Option.some .boolean) 1 30 w [.ref (zad w k)] M post := by
  refine zMet (by decide) (Nat.le_of_ble_eq_true rfl) ?_
  intro p e s m below meth c X hr hlk hml hW ls hl
  have hx := X.1
  have hb := X.2.1
  have hl : lv_has ls 2 [(0, .ref (zad w k))] := hl
  have zJ_77 : ∀ (x_1 : Int32) (J : Int32 → zMem → Prop) (zJ : ∀ (y_1 : Int32) (M : zMem) (H : Heap) (locs : List Loc) (ls : Array Slot), zWo w s.heap M H locs → lv_has ls 2 [(0, .ref (zad w k)), (1, .int y_1)] → J y_1 M → W p l e (zRm 1 30) s m ([.ref (zad w k)] : List Value).toArray below meth c H locs 0 0 (MQ below (va_Qi post (zB w) (zA w)) ([.ref (zad w k)] : List Value).toArray s 0 0 (zA w)) (F0 m 33 ls [])) (M : zMem) (H : Heap) (locs : List Loc) (ls : Array Slot), zWo w s.heap M H locs → lv_has ls 2 [(0, .ref (zad w k)), (1, .int x_1)] → wpJ_Reader_isComplete_77 k J post x_1 M → W p l e (zRm 1 30) s m ([.ref (zad w k)] : List Value).toArray below meth c H locs 0 0 (MQ below (va_Qi post (zB w) (zA w)) ([.ref (zad w k)] : List Value).toArray s 0 0 (zA w)) (F0 m 77 ls []) := by
    intro x_1 J zJ M H locs ls hW hl h
    unfold wpJ_Reader_isComplete_77 at h
    refine lv_aload_n hx hb dX5_isComplete_77 rfl (lv_at hl 0 rfl) ?_
    refine zg_Reader_draft X hW h0 zu_104 dX5_isComplete_78 ?_
    refine lv_iconst hx hb dX5_isComplete_81 zc_i0 ?_
    refine lv_iload_n hx hb dX5_isComplete_82 rfl (lv_at hl 1 rfl) ?_
    refine zcalli (zrunV (As := [.int 0, .int x_1]) (rest := []) X hml hl hW h0.2.2.1 rfl zk_Reader_87 (c_Told_pieceFrom h0.2.2 h) rfl ⟨Nat.le_of_ble_eq_true rfl, Nat.le_of_ble_eq_true rfl⟩ ⟨Nat.le_refl 0, Nat.le_refl 0⟩ rfl (Nat.le_of_ble_eq_true rfl) dX5_isComplete_83) hW (fun zr6 zm5 H locs h hW => ?_)
    refine lv_aload_n hx hb dX5_isComplete_86 rfl (lv_at hl 0 rfl) ?_
    refine zg_Reader_draft X hW h0 zu_104 dX5_isComplete_87 ?_
    refine zg_Told_pieces X hW h0.2.2 zu_34 dX5_isComplete_90 ?_
    refine lv_icmp_ne (tgt := 107) hx hb dX5_isComplete_93 rfl (fun c => ?_) (fun c => ?_)
    · replace h := h.1 c
      obtain ⟨zx7, ezx7⟩ : ∃ y : Int32, y = x_1 + 1 := ⟨_, rfl⟩
      replace h := h zx7 ezx7
      refine lv_iinc (v := zx7) (lv' := [(1, .int zx7), (0, .ref (zad w k))]) hx hb dX5_isComplete_107 hl (k := 1) rfl (by rw [ezx7, zc_i1]) (Nat.le_of_ble_eq_true rfl) rfl (fun ls hl => ?_)
      refine lv_goto (tgt := 33) hx hb dX5_isComplete_110 rfl ?_
      exact zJ zx7 zm5 H locs ls hW (lv_sub hl [1, 0] rfl) h
    · replace h := h.2 c
      refine lv_aload_n hx hb dX5_isComplete_96 rfl (lv_at hl 0 rfl) ?_
      refine lv_bipush hx hb dX5_isComplete_97 zc_b7 ?_
      refine lv_aload_n hx hb dX5_isComplete_99 rfl (lv_at hl 0 rfl) ?_
      refine zg_Reader_length X hW h0 zu_115 dX5_isComplete_100 ?_
      refine zcalli (zrunV (As := [.int 7, .int (zm5 k 5)]) (rest := []) X hml hl hW h0.1 rfl zk_Reader_73 (c_Reader_refuse h0 h) rfl ⟨Nat.le_of_ble_eq_true rfl, Nat.le_of_ble_eq_true rfl⟩ ⟨Nat.le_refl 0, Nat.le_refl 0⟩ rfl (Nat.le_of_ble_eq_true rfl) dX5_isComplete_103) hW (fun zr9 zm8 H locs h hW => ?_)
      exact zretz X hr hlk hW (zbo_n h.1) h.2 dX5_isComplete_106
  have zL_33 :  ∀ (n : Nat) (x_1 : Int32) (M : zMem) (H : Heap) (locs : List Loc) (ls : Array Slot), zWo w s.heap M H locs → lv_has ls 2 [(0, .ref (zad w k)), (1, .int x_1)] → zlp1 (wpB_Reader_isComplete_33 k   post) n x_1 M → W p l e (zRm 1 30) s m ([.ref (zad w k)] : List Value).toArray below meth c H locs 0 0 (MQ below (va_Qi post (zB w) (zA w)) ([.ref (zad w k)] : List Value).toArray s 0 0 (zA w)) (F0 m 33 ls []) := by
    intro n
    induction n with
    | zero => intro x_1 M H locs ls hW hl h; exact h.elim
    | succ n zJ =>
      intro x_1 M H locs ls hW hl h
      have h : wpB_Reader_isComplete_33 k   post (zlp1 (wpB_Reader_isComplete_33 k   post) n) x_1 M := h
      unfold wpB_Reader_isComplete_33 at h
      refine lv_iload_n hx hb dX5_isComplete_33 rfl (lv_at hl 1 rfl) ?_
      refine lv_iconst hx hb dX5_isComplete_34 zc_i3 ?_
      refine lv_icmp_ge (tgt := 113) hx hb dX5_isComplete_35 rfl (fun c => ?_) (fun c => ?_)
      · replace h := h.1 c
        refine lv_aload_n hx hb dX5_isComplete_113 rfl (lv_at hl 0 rfl) ?_
        refine zg_Reader_draft X hW h0 zu_104 dX5_isComplete_114 ?_
        refine zcallv (zrunV (As := []) (rest := []) X hml hl hW h0.2.2.1 rfl zk_Reader_91 (c_Told_fillEnds h0.2.2 h) rfl ⟨Nat.le_of_ble_eq_true rfl, Nat.le_of_ble_eq_true rfl⟩ ⟨Nat.le_refl 0, Nat.le_refl 0⟩ rfl (Nat.le_of_ble_eq_true rfl) dX5_isComplete_117) hW (fun zm3 H locs h hW => ?_)
        refine lv_iconst hx hb dX5_isComplete_120 zc_i1 ?_
        exact zretz X hr hlk hW rfl h dX5_isComplete_121
      · replace h := h.2 c
        refine lv_aload_n hx hb dX5_isComplete_38 rfl (lv_at hl 0 rfl) ?_
        refine zg_Reader_sorts X hW h0 zu_121 dX5_isComplete_39 ?_
        refine lv_iload_n hx hb dX5_isComplete_42 rfl (lv_at hl 1 rfl) ?_
        refine lv_ishr hx hb dX5_isComplete_43 ?_
        refine lv_iconst hx hb dX5_isComplete_44 zc_i1 ?_
        refine lv_iand hx hb dX5_isComplete_45 ?_
        refine lv_if_ne (tgt := 77) hx hb dX5_isComplete_46 rfl (fun c => ?_) (fun c => ?_)
        · replace h := h.1 c
          exact zJ_77 x_1 _ zJ M H locs ls hW (lv_sub hl [0, 1] rfl) h
        · replace h := h.2 c
          refine lv_iload_n hx hb dX5_isComplete_49 rfl (lv_at hl 1 rfl) ?_
          refine lv_if_le (tgt := 77) hx hb dX5_isComplete_50 rfl (fun c => ?_) (fun c => ?_)
          · replace h := h.1 c
            exact zJ_77 x_1 _ zJ M H locs ls hW (lv_sub hl [0, 1] rfl) h
          · replace h := h.2 c
            refine lv_aload_n hx hb dX5_isComplete_53 rfl (lv_at hl 0 rfl) ?_
            refine zg_Reader_draft X hW h0 zu_104 dX5_isComplete_54 ?_
            refine zg_Told_units X hW h0.2.2 zu_64 dX5_isComplete_57 ?_
            refine lv_iconst hx hb dX5_isComplete_60 zc_i0 ?_
            refine lv_aload_n hx hb dX5_isComplete_61 rfl (lv_at hl 0 rfl) ?_
            refine zg_Reader_draft X hW h0 zu_104 dX5_isComplete_62 ?_
            refine zg_Told_units X hW h0.2.2 zu_64 dX5_isComplete_65 ?_
            refine lv_iload_n hx hb dX5_isComplete_68 rfl (lv_at hl 1 rfl) ?_
            refine lv_bipush hx hb dX5_isComplete_69 zc_b8 ?_
            refine lv_imul hx hb dX5_isComplete_71 ?_
            refine lv_bipush hx hb dX5_isComplete_72 zc_b8 ?_
            obtain ⟨g, h⟩ := h
            refine zcopy X hml hl hW h0.2.2.2.2.1 h0.2.2.2.2.1 zu_673 g ⟨Nat.le_of_ble_eq_true rfl, Nat.le_of_ble_eq_true rfl⟩ dX5_isComplete_74 (fun H locs zm10 ezm10 hW => ?_)
            replace h := h zm10 ezm10
            exact zJ_77 x_1 _ zJ zm10 H locs ls hW (lv_sub hl [0, 1] rfl) h
  unfold wp_Reader_isComplete at h
  have zMain : ∀ (H : Heap) (locs : List Loc) (ls : Array Slot), zWo w s.heap M H locs → lv_has ls 2 [(0, .ref (zad w k))] → W p l e (zRm 1 30) s m ([.ref (zad w k)] : List Value).toArray below meth c H locs 0 0 (MQ below (va_Qi post (zB w) (zA w)) ([.ref (zad w k)] : List Value).toArray s 0 0 (zA w)) (F0 m 0 ls []) := by
    intro H locs ls hW hl
    refine lv_aload_n hx hb dX5_isComplete_0 rfl (lv_at hl 0 rfl) ?_
    refine zg_Reader_draft X hW h0 zu_104 dX5_isComplete_1 ?_
    refine zg_Told_pieces X hW h0.2.2 zu_34 dX5_isComplete_4 ?_
    refine lv_if_eq (tgt := 20) hx hb dX5_isComplete_7 rfl (fun c => ?_) (fun c => ?_)
    · replace h := h.1 c
      refine lv_aload_n hx hb dX5_isComplete_20 rfl (lv_at hl 0 rfl) ?_
      refine lv_bipush hx hb dX5_isComplete_21 zc_b6 ?_
      refine lv_aload_n hx hb dX5_isComplete_23 rfl (lv_at hl 0 rfl) ?_
      refine zg_Reader_length X hW h0 zu_115 dX5_isComplete_24 ?_
      refine zcalli (zrunV (As := [.int 6, .int (M k 5)]) (rest := []) X hml hl hW h0.1 rfl zk_Reader_73 (c_Reader_refuse h0 h) rfl ⟨Nat.le_of_ble_eq_true rfl, Nat.le_of_ble_eq_true rfl⟩ ⟨Nat.le_refl 0, Nat.le_refl 0⟩ rfl (Nat.le_of_ble_eq_true rfl) dX5_isComplete_27) hW (fun zr2 zm1 H locs h hW => ?_)
      exact zretz X hr hlk hW (zbo_n h.1) h.2 dX5_isComplete_30
    · replace h := h.2 c
      refine lv_aload_n hx hb dX5_isComplete_10 rfl (lv_at hl 0 rfl) ?_
      refine zg_Reader_draft X hW h0 zu_104 dX5_isComplete_11 ?_
      refine zg_Told_hands X hW h0.2.2 zu_39 dX5_isComplete_14 ?_
      refine lv_if_ne (tgt := 31) hx hb dX5_isComplete_17 rfl (fun c => ?_) (fun c => ?_)
      · replace h := h.1 c
        refine lv_iconst hx hb dX5_isComplete_31 zc_i0 ?_
        refine lv_istore_n (lv' := [(1, .int 0), (0, .ref (zad w k))]) hx hb dX5_isComplete_32 rfl hl (Nat.le_of_ble_eq_true rfl) rfl (fun ls hl => ?_)
        obtain ⟨n, h⟩ := h
        refine zL_33   n 0 M H locs ls hW (lv_sub hl [1, 0] rfl) h
      · replace h := h.2 c
        refine lv_aload_n hx hb dX5_isComplete_20 rfl (lv_at hl 0 rfl) ?_
        refine lv_bipush hx hb dX5_isComplete_21 zc_b6 ?_
        refine lv_aload_n hx hb dX5_isComplete_23 rfl (lv_at hl 0 rfl) ?_
        refine zg_Reader_length X hW h0 zu_115 dX5_isComplete_24 ?_
        refine zcalli (zrunV (As := [.int 6, .int (M k 5)]) (rest := []) X hml hl hW h0.1 rfl zk_Reader_73 (c_Reader_refuse h0 h) rfl ⟨Nat.le_of_ble_eq_true rfl, Nat.le_of_ble_eq_true rfl⟩ ⟨Nat.le_refl 0, Nat.le_refl 0⟩ rfl (Nat.le_of_ble_eq_true rfl) dX5_isComplete_27) hW (fun zr12 zm11 H locs h hW => ?_)
        exact zretz X hr hlk hW (zbo_n h.1) h.2 dX5_isComplete_30
  exact zMain s.heap [] ls hW hl
def wp_Reader_isLetter (k : Nat) (a1 : Int32) (M : zMem) (Q : Int32 → zMem → Prop) : Prop :=
  vp_in a1 400 ∧ ((M (k + 6) (ix a1)) < 97 → Q 0 M) ∧ (¬ (M (k + 6) (ix a1)) < 97 → vp_in a1 400 ∧ (122 < (M (k + 6) (ix a1)) → Q 0 M) ∧ (¬ 122 < (M (k + 6) (ix a1)) → Q 1 M))
set_option maxHeartbeats 4000000 in
set_option maxRecDepth 20000 in
theorem c_Reader_isLetter {l : Launch} {w : zWd} {k : Nat} {a1 : Int32} {M : zMem} {post : Int32 → zMem → Prop} (h0 : zI_Reader w k) (h : wp_Reader_isLetter k a1 M post) : zMi l ⟨"HandToHand$Reader", "isLetter", "(I)Z"⟩ prog_7_method_22_code 2 (Option.some .boolean) 0 0 w [.ref (zad w k), .int a1] M post := by
  refine zMet (by decide) (Nat.le_of_ble_eq_true rfl) ?_
  intro p e s m below meth c X hr hlk hml hW ls hl
  have hx := X.1
  have hb := X.2.1
  have hl : lv_has ls 2 [(0, .ref (zad w k)), (1, .int a1)] := hl
  unfold wp_Reader_isLetter at h
  have zMain : ∀ (H : Heap) (locs : List Loc) (ls : Array Slot), zWo w s.heap M H locs → lv_has ls 2 [(0, .ref (zad w k)), (1, .int a1)] → W p l e (zRm 0 0) s m ([.ref (zad w k), .int a1] : List Value).toArray below meth c H locs 0 0 (MQ below (va_Qi post (zB w) (zA w)) ([.ref (zad w k), .int a1] : List Value).toArray s 0 0 (zA w)) (F0 m 0 ls []) := by
    intro H locs ls hW hl
    refine lv_aload_n hx hb dX5_isLetter_0 rfl (lv_at hl 0 rfl) ?_
    refine zg_Reader_tape X hW h0 zu_112 dX5_isLetter_1 ?_
    refine lv_iload_n hx hb dX5_isLetter_4 rfl (lv_at hl 1 rfl) ?_
    obtain ⟨g, h⟩ := h
    refine zbald X hW h0.2.1 g dX5_isLetter_5 ?_
    refine lv_bipush hx hb dX5_isLetter_6 zc_b97 ?_
    refine lv_icmp_lt (tgt := 26) hx hb dX5_isLetter_8 rfl (fun c => ?_) (fun c => ?_)
    · replace h := h.1 c
      refine lv_iconst hx hb dX5_isLetter_26 zc_i0 ?_
      exact zretz X hr hlk hW rfl h dX5_isLetter_27
    · replace h := h.2 c
      refine lv_aload_n hx hb dX5_isLetter_11 rfl (lv_at hl 0 rfl) ?_
      refine zg_Reader_tape X hW h0 zu_112 dX5_isLetter_12 ?_
      refine lv_iload_n hx hb dX5_isLetter_15 rfl (lv_at hl 1 rfl) ?_
      obtain ⟨g, h⟩ := h
      refine zbald X hW h0.2.1 g dX5_isLetter_16 ?_
      refine lv_bipush hx hb dX5_isLetter_17 zc_b122 ?_
      refine lv_icmp_gt (tgt := 26) hx hb dX5_isLetter_19 rfl (fun c => ?_) (fun c => ?_)
      · replace h := h.1 c
        refine lv_iconst hx hb dX5_isLetter_26 zc_i0 ?_
        exact zretz X hr hlk hW rfl h dX5_isLetter_27
      · replace h := h.2 c
        refine lv_iconst hx hb dX5_isLetter_22 zc_i1 ?_
        refine lv_goto (tgt := 27) hx hb dX5_isLetter_23 rfl ?_
        exact zretz X hr hlk hW rfl h dX5_isLetter_27
  exact zMain s.heap [] ls hW hl
def wp_Reader_isFigure (k : Nat) (a1 : Int32) (M : zMem) (Q : Int32 → zMem → Prop) : Prop :=
  vp_in a1 400 ∧ ((M (k + 6) (ix a1)) < 48 → Q 0 M) ∧ (¬ (M (k + 6) (ix a1)) < 48 → vp_in a1 400 ∧ (57 < (M (k + 6) (ix a1)) → Q 0 M) ∧ (¬ 57 < (M (k + 6) (ix a1)) → Q 1 M))
set_option maxHeartbeats 4000000 in
set_option maxRecDepth 20000 in
theorem c_Reader_isFigure {l : Launch} {w : zWd} {k : Nat} {a1 : Int32} {M : zMem} {post : Int32 → zMem → Prop} (h0 : zI_Reader w k) (h : wp_Reader_isFigure k a1 M post) : zMi l ⟨"HandToHand$Reader", "isFigure", "(I)Z"⟩ prog_7_method_23_code 2 (Option.some .boolean) 0 0 w [.ref (zad w k), .int a1] M post := by
  refine zMet (by decide) (Nat.le_of_ble_eq_true rfl) ?_
  intro p e s m below meth c X hr hlk hml hW ls hl
  have hx := X.1
  have hb := X.2.1
  have hl : lv_has ls 2 [(0, .ref (zad w k)), (1, .int a1)] := hl
  unfold wp_Reader_isFigure at h
  have zMain : ∀ (H : Heap) (locs : List Loc) (ls : Array Slot), zWo w s.heap M H locs → lv_has ls 2 [(0, .ref (zad w k)), (1, .int a1)] → W p l e (zRm 0 0) s m ([.ref (zad w k), .int a1] : List Value).toArray below meth c H locs 0 0 (MQ below (va_Qi post (zB w) (zA w)) ([.ref (zad w k), .int a1] : List Value).toArray s 0 0 (zA w)) (F0 m 0 ls []) := by
    intro H locs ls hW hl
    refine lv_aload_n hx hb dX5_isFigure_0 rfl (lv_at hl 0 rfl) ?_
    refine zg_Reader_tape X hW h0 zu_112 dX5_isFigure_1 ?_
    refine lv_iload_n hx hb dX5_isFigure_4 rfl (lv_at hl 1 rfl) ?_
    obtain ⟨g, h⟩ := h
    refine zbald X hW h0.2.1 g dX5_isFigure_5 ?_
    refine lv_bipush hx hb dX5_isFigure_6 zc_b48 ?_
    refine lv_icmp_lt (tgt := 26) hx hb dX5_isFigure_8 rfl (fun c => ?_) (fun c => ?_)
    · replace h := h.1 c
      refine lv_iconst hx hb dX5_isFigure_26 zc_i0 ?_
      exact zretz X hr hlk hW rfl h dX5_isFigure_27
    · replace h := h.2 c
      refine lv_aload_n hx hb dX5_isFigure_11 rfl (lv_at hl 0 rfl) ?_
      refine zg_Reader_tape X hW h0 zu_112 dX5_isFigure_12 ?_
      refine lv_iload_n hx hb dX5_isFigure_15 rfl (lv_at hl 1 rfl) ?_
      obtain ⟨g, h⟩ := h
      refine zbald X hW h0.2.1 g dX5_isFigure_16 ?_
      refine lv_bipush hx hb dX5_isFigure_17 zc_b57 ?_
      refine lv_icmp_gt (tgt := 26) hx hb dX5_isFigure_19 rfl (fun c => ?_) (fun c => ?_)
      · replace h := h.1 c
        refine lv_iconst hx hb dX5_isFigure_26 zc_i0 ?_
        exact zretz X hr hlk hW rfl h dX5_isFigure_27
      · replace h := h.2 c
        refine lv_iconst hx hb dX5_isFigure_22 zc_i1 ?_
        refine lv_goto (tgt := 27) hx hb dX5_isFigure_23 rfl ?_
        exact zretz X hr hlk hW rfl h dX5_isFigure_27
  exact zMain s.heap [] ls hW hl
def wpB_Reader_readFigures_10 (k : Nat)  (K89 : zMem → Prop) (Q : Int32 → zMem → Prop) (J : zMem → Prop)  (M : zMem) : Prop :=
  ((M k 5) ≤ (M k 6) → K89 M) ∧ (¬ (M k 5) ≤ (M k 6) → wp_Reader_isFigure k (M k 6) M (fun zr4 zm3 => (zr4 = 0 → K89 zm3) ∧ (¬ zr4 = 0 → (2 ≤ ((zm3 k 6) - (zm3 k 8)) → ∀ zm5 : zMem, zm5 = zup zm3 k 9 (zm3 k 9) → ∀ zm6 : zMem, zm6 = zup zm5 k 6 ((zm5 k 6) + 1) → J zm6) ∧ (¬ 2 ≤ ((zm3 k 6) - (zm3 k 8)) → vp_in (zm3 k 6) 400 ∧ ∀ zm7 : zMem, zm7 = zup zm3 k 9 ((((zm3 k 9) * 10) + (zm3 (k + 6) (ix (zm3 k 6)))) - 48) → ∀ zm8 : zMem, zm8 = zup zm7 k 6 ((zm7 k 6) + 1) → J zm8))))
def wpJ_Reader_readFigures_89 (k : Nat)  (Q : Int32 → zMem → Prop)   (M : zMem) : Prop :=
  (((M k 6) - (M k 8)) ≤ 2 → Q 1 M) ∧ (¬ ((M k 6) - (M k 8)) ≤ 2 → wp_Reader_refuse k 1 (M k 8) M (fun zr11 zm10 => (zr11 = 0 → Q 0 zm10) ∧ (¬ zr11 = 0 → Q 1 zm10)))
def wp_Reader_readFigures (k : Nat) (M : zMem) (Q : Int32 → zMem → Prop) : Prop :=
  ∀ zm1 : zMem, zm1 = zup M k 7 2 → ∀ zm2 : zMem, zm2 = zup zm1 k 9 0 → ∃ n : Nat, zlp0 (wpB_Reader_readFigures_10 k  (fun (zm9 : zMem) => wpJ_Reader_readFigures_89 k Q zm9) Q) n  zm2
set_option maxHeartbeats 4000000 in
set_option maxRecDepth 20000 in
theorem c_Reader_readFigures {l : Launch} {w : zWd} {k : Nat} {M : zMem} {post : Int32 → zMem → Prop} (h0 : zI_Reader w k) (h : wp_Reader_readFigures k M post) : zMi l ⟨"HandToHand$Reader", "readFigures", "()Z"⟩ prog_7_method_21_code 1 (Option.some .boolean) 1 22 w [.ref (zad w k)] M post := by
  refine zMet (by decide) (Nat.le_of_ble_eq_true rfl) ?_
  intro p e s m below meth c X hr hlk hml hW ls hl
  have hx := X.1
  have hb := X.2.1
  have hl : lv_has ls 1 [(0, .ref (zad w k))] := hl
  have zL_10 : ∀ (K89 : zMem → Prop) (zK89 : ∀ (M : zMem) (H : Heap) (locs : List Loc) (ls : Array Slot), zWo w s.heap M H locs → lv_has ls 1 [(0, .ref (zad w k))] → K89 M → W p l e (zRm 1 22) s m ([.ref (zad w k)] : List Value).toArray below meth c H locs 0 0 (MQ below (va_Qi post (zB w) (zA w)) ([.ref (zad w k)] : List Value).toArray s 0 0 (zA w)) (F0 m 89 ls [])), ∀ (n : Nat) (M : zMem) (H : Heap) (locs : List Loc) (ls : Array Slot), zWo w s.heap M H locs → lv_has ls 1 [(0, .ref (zad w k))] → zlp0 (wpB_Reader_readFigures_10 k  K89 post) n M → W p l e (zRm 1 22) s m ([.ref (zad w k)] : List Value).toArray below meth c H locs 0 0 (MQ below (va_Qi post (zB w) (zA w)) ([.ref (zad w k)] : List Value).toArray s 0 0 (zA w)) (F0 m 10 ls []) := by
    intro K89 zK89 n
    induction n with
    | zero => intro M H locs ls hW hl h; exact h.elim
    | succ n zJ =>
      intro M H locs ls hW hl h
      have h : wpB_Reader_readFigures_10 k  K89 post (zlp0 (wpB_Reader_readFigures_10 k  K89 post) n) M := h
      unfold wpB_Reader_readFigures_10 at h
      refine lv_aload_n hx hb dX5_readFigures_10 rfl (lv_at hl 0 rfl) ?_
      refine zg_Reader_next X hW h0 zu_116 dX5_readFigures_11 ?_
      refine lv_aload_n hx hb dX5_readFigures_14 rfl (lv_at hl 0 rfl) ?_
      refine zg_Reader_length X hW h0 zu_115 dX5_readFigures_15 ?_
      refine lv_icmp_ge (tgt := 89) hx hb dX5_readFigures_18 rfl (fun c => ?_) (fun c => ?_)
      · replace h := h.1 c
        exact zK89 M H locs ls hW (lv_sub hl [0] rfl) h
      · replace h := h.2 c
        refine lv_aload_n hx hb dX5_readFigures_21 rfl (lv_at hl 0 rfl) ?_
        refine lv_aload_n hx hb dX5_readFigures_22 rfl (lv_at hl 0 rfl) ?_
        refine zg_Reader_next X hW h0 zu_116 dX5_readFigures_23 ?_
        refine zcalli (zrunV (As := [.int (M k 6)]) (rest := []) X hml hl hW h0.1 rfl zk_Reader_168 (c_Reader_isFigure h0 h) rfl ⟨Nat.le_of_ble_eq_true rfl, Nat.le_of_ble_eq_true rfl⟩ ⟨Nat.le_refl 0, Nat.le_refl 0⟩ rfl (Nat.le_of_ble_eq_true rfl) dX5_readFigures_26) hW (fun zr4 zm3 H locs h hW => ?_)
        refine lv_if_eq (tgt := 89) hx hb dX5_readFigures_29 rfl (fun c => ?_) (fun c => ?_)
        · replace h := h.1 c
          exact zK89 zm3 H locs ls hW (lv_sub hl [0] rfl) h
        · replace h := h.2 c
          refine lv_aload_n hx hb dX5_readFigures_32 rfl (lv_at hl 0 rfl) ?_
          refine lv_aload_n hx hb dX5_readFigures_33 rfl (lv_at hl 0 rfl) ?_
          refine zg_Reader_next X hW h0 zu_116 dX5_readFigures_34 ?_
          refine lv_aload_n hx hb dX5_readFigures_37 rfl (lv_at hl 0 rfl) ?_
          refine zg_Reader_start X hW h0 zu_118 dX5_readFigures_38 ?_
          refine lv_isub hx hb dX5_readFigures_41 ?_
          refine lv_iconst hx hb dX5_readFigures_42 zc_i2 ?_
          refine lv_icmp_ge (tgt := 69) hx hb dX5_readFigures_43 rfl (fun c => ?_) (fun c => ?_)
          · replace h := h.1 c
            refine lv_aload_n hx hb dX5_readFigures_69 rfl (lv_at hl 0 rfl) ?_
            refine zg_Reader_value X hW h0 zu_119 dX5_readFigures_70 ?_
            refine zp_Reader_value X hW h0 zu_119 dX5_readFigures_73 (fun H locs zm5 ezm5 hW => ?_)
            replace h := h zm5 ezm5
            refine lv_aload_n hx hb dX5_readFigures_76 rfl (lv_at hl 0 rfl) ?_
            refine lv_dup hx hb dX5_readFigures_77 rfl ?_
            refine zg_Reader_next X hW h0 zu_116 dX5_readFigures_78 ?_
            refine lv_iconst hx hb dX5_readFigures_81 zc_i1 ?_
            refine lv_iadd hx hb dX5_readFigures_82 ?_
            refine zp_Reader_next X hW h0 zu_116 dX5_readFigures_83 (fun H locs zm6 ezm6 hW => ?_)
            replace h := h zm6 ezm6
            refine lv_goto (tgt := 10) hx hb dX5_readFigures_86 rfl ?_
            exact zJ zm6 H locs ls hW (lv_sub hl [0] rfl) h
          · replace h := h.2 c
            refine lv_aload_n hx hb dX5_readFigures_46 rfl (lv_at hl 0 rfl) ?_
            refine zg_Reader_value X hW h0 zu_119 dX5_readFigures_47 ?_
            refine lv_bipush hx hb dX5_readFigures_50 zc_b10 ?_
            refine lv_imul hx hb dX5_readFigures_52 ?_
            refine lv_aload_n hx hb dX5_readFigures_53 rfl (lv_at hl 0 rfl) ?_
            refine zg_Reader_tape X hW h0 zu_112 dX5_readFigures_54 ?_
            refine lv_aload_n hx hb dX5_readFigures_57 rfl (lv_at hl 0 rfl) ?_
            refine zg_Reader_next X hW h0 zu_116 dX5_readFigures_58 ?_
            obtain ⟨g, h⟩ := h
            refine zbald X hW h0.2.1 g dX5_readFigures_61 ?_
            refine lv_iadd hx hb dX5_readFigures_62 ?_
            refine lv_bipush hx hb dX5_readFigures_63 zc_b48 ?_
            refine lv_isub hx hb dX5_readFigures_65 ?_
            refine lv_goto (tgt := 73) hx hb dX5_readFigures_66 rfl ?_
            refine zp_Reader_value X hW h0 zu_119 dX5_readFigures_73 (fun H locs zm7 ezm7 hW => ?_)
            replace h := h zm7 ezm7
            refine lv_aload_n hx hb dX5_readFigures_76 rfl (lv_at hl 0 rfl) ?_
            refine lv_dup hx hb dX5_readFigures_77 rfl ?_
            refine zg_Reader_next X hW h0 zu_116 dX5_readFigures_78 ?_
            refine lv_iconst hx hb dX5_readFigures_81 zc_i1 ?_
            refine lv_iadd hx hb dX5_readFigures_82 ?_
            refine zp_Reader_next X hW h0 zu_116 dX5_readFigures_83 (fun H locs zm8 ezm8 hW => ?_)
            replace h := h zm8 ezm8
            refine lv_goto (tgt := 10) hx hb dX5_readFigures_86 rfl ?_
            exact zJ zm8 H locs ls hW (lv_sub hl [0] rfl) h
  have zJ_89 : ∀ (M : zMem) (H : Heap) (locs : List Loc) (ls : Array Slot), zWo w s.heap M H locs → lv_has ls 1 [(0, .ref (zad w k))] → wpJ_Reader_readFigures_89 k post M → W p l e (zRm 1 22) s m ([.ref (zad w k)] : List Value).toArray below meth c H locs 0 0 (MQ below (va_Qi post (zB w) (zA w)) ([.ref (zad w k)] : List Value).toArray s 0 0 (zA w)) (F0 m 89 ls []) := by
    intro  M H locs ls hW hl h
    unfold wpJ_Reader_readFigures_89 at h
    refine lv_aload_n hx hb dX5_readFigures_89 rfl (lv_at hl 0 rfl) ?_
    refine zg_Reader_next X hW h0 zu_116 dX5_readFigures_90 ?_
    refine lv_aload_n hx hb dX5_readFigures_93 rfl (lv_at hl 0 rfl) ?_
    refine zg_Reader_start X hW h0 zu_118 dX5_readFigures_94 ?_
    refine lv_isub hx hb dX5_readFigures_97 ?_
    refine lv_iconst hx hb dX5_readFigures_98 zc_i2 ?_
    refine lv_icmp_le (tgt := 114) hx hb dX5_readFigures_99 rfl (fun c => ?_) (fun c => ?_)
    · replace h := h.1 c
      refine lv_iconst hx hb dX5_readFigures_114 zc_i1 ?_
      refine lv_goto (tgt := 119) hx hb dX5_readFigures_115 rfl ?_
      exact zretz X hr hlk hW rfl h dX5_readFigures_119
    · replace h := h.2 c
      refine lv_aload_n hx hb dX5_readFigures_102 rfl (lv_at hl 0 rfl) ?_
      refine lv_iconst hx hb dX5_readFigures_103 zc_i1 ?_
      refine lv_aload_n hx hb dX5_readFigures_104 rfl (lv_at hl 0 rfl) ?_
      refine zg_Reader_start X hW h0 zu_118 dX5_readFigures_105 ?_
      refine zcalli (zrunV (As := [.int 1, .int (M k 8)]) (rest := []) X hml hl hW h0.1 rfl zk_Reader_73 (c_Reader_refuse h0 h) rfl ⟨Nat.le_of_ble_eq_true rfl, Nat.le_of_ble_eq_true rfl⟩ ⟨Nat.le_refl 0, Nat.le_refl 0⟩ rfl (Nat.le_of_ble_eq_true rfl) dX5_readFigures_108) hW (fun zr11 zm10 H locs h hW => ?_)
      refine lv_if_eq (tgt := 118) hx hb dX5_readFigures_111 rfl (fun c => ?_) (fun c => ?_)
      · replace h := h.1 c
        refine lv_iconst hx hb dX5_readFigures_118 zc_i0 ?_
        exact zretz X hr hlk hW rfl h dX5_readFigures_119
      · replace h := h.2 c
        refine lv_iconst hx hb dX5_readFigures_114 zc_i1 ?_
        refine lv_goto (tgt := 119) hx hb dX5_readFigures_115 rfl ?_
        exact zretz X hr hlk hW rfl h dX5_readFigures_119
  unfold wp_Reader_readFigures at h
  have zMain : ∀ (H : Heap) (locs : List Loc) (ls : Array Slot), zWo w s.heap M H locs → lv_has ls 1 [(0, .ref (zad w k))] → W p l e (zRm 1 22) s m ([.ref (zad w k)] : List Value).toArray below meth c H locs 0 0 (MQ below (va_Qi post (zB w) (zA w)) ([.ref (zad w k)] : List Value).toArray s 0 0 (zA w)) (F0 m 0 ls []) := by
    intro H locs ls hW hl
    refine lv_aload_n hx hb dX5_readFigures_0 rfl (lv_at hl 0 rfl) ?_
    refine lv_iconst hx hb dX5_readFigures_1 zc_i2 ?_
    refine zp_Reader_kind X hW h0 zu_117 dX5_readFigures_2 (fun H locs zm1 ezm1 hW => ?_)
    replace h := h zm1 ezm1
    refine lv_aload_n hx hb dX5_readFigures_5 rfl (lv_at hl 0 rfl) ?_
    refine lv_iconst hx hb dX5_readFigures_6 zc_i0 ?_
    refine zp_Reader_value X hW h0 zu_119 dX5_readFigures_7 (fun H locs zm2 ezm2 hW => ?_)
    replace h := h zm2 ezm2
    obtain ⟨n, h⟩ := h
    refine zL_10  _ (fun  zm9 H locs ls hW hl h => ?_) n  zm2 H locs ls hW (lv_sub hl [0] rfl) h
    · skip
      exact zJ_89  zm9 H locs ls hW (lv_sub hl [0] rfl) h
  exact zMain s.heap [] ls hW hl
def wpB_Reader_readName_5 (k : Nat)  (K40 : zMem → Prop) (Q : Int32 → zMem → Prop) (J : zMem → Prop)  (M : zMem) : Prop :=
  ((M k 5) ≤ (M k 6) → K40 M) ∧ (¬ (M k 5) ≤ (M k 6) → wp_Reader_isLetter k (M k 6) M (fun zr3 zm2 => (zr3 = 0 → K40 zm2) ∧ (¬ zr3 = 0 → ∀ zm4 : zMem, zm4 = zup zm2 k 6 ((zm2 k 6) + 1) → J zm4)))
def wpB_Reader_readName_68 (k : Nat) (x_1 : Int32) (x_2 : Nat) (K114 : Int32 → zMem → Prop) (Q : Int32 → zMem → Prop) (J : Int32 → zMem → Prop) (x_3 : Int32) (M : zMem) : Prop :=
  wp_Str_length x_2 M (fun zr10 zm9 => (zr10 ≤ x_3 → K114 x_3 zm9) ∧ (¬ zr10 ≤ x_3 → ((zm9 k 6) ≤ ((zm9 k 8) + x_3) → K114 x_3 zm9) ∧ (¬ (zm9 k 6) ≤ ((zm9 k 8) + x_3) → vp_in ((zm9 k 8) + x_3) 400 ∧ wp_Str_charAt x_2 x_3 zm9 (fun zr12 zm11 => (¬ (zm9 (k + 6) (ix ((zm9 k 8) + x_3))) = zr12 → K114 x_3 zm11) ∧ ((zm9 (k + 6) (ix ((zm9 k 8) + x_3))) = zr12 → ∀ zx13 : Int32, zx13 = x_3 + 1 → J zx13 zm11)))))
def wpJ_Reader_readName_114 (k : Nat) (K146 : zMem → Prop) (J : Int32 → zMem → Prop) (Q : Int32 → zMem → Prop) (x_1 : Int32) (x_2 : Nat) (x_3 : Int32)  (M : zMem) : Prop :=
  wp_Str_length x_2 M (fun zr17 zm16 => (¬ x_3 = zr17 → ∀ zx18 : Int32, zx18 = x_1 + 1 → J zx18 zm16) ∧ (x_3 = zr17 → (¬ ((zm16 k 8) + x_3) = (zm16 k 6) → ∀ zx19 : Int32, zx19 = x_1 + 1 → J zx19 zm16) ∧ (((zm16 k 8) + x_3) = (zm16 k 6) → ∀ zm20 : zMem, zm20 = zup zm16 k 9 x_1 → ∀ zx21 : Int32, zx21 = x_1 + 1 → J zx21 zm20)))
def wpB_Reader_readName_47 (k : Nat)  (K146 : zMem → Prop) (Q : Int32 → zMem → Prop) (J : Int32 → zMem → Prop) (x_1 : Int32) (M : zMem) : Prop :=
  (10 ≤ x_1 → K146 M) ∧ (¬ 10 ≤ x_1 → (¬ (M k 9) = (-1) → K146 M) ∧ ((M k 9) = (-1) → wp_Reader_wordOf x_1 M (fun zr8 zm7 => ∃ n : Nat, zlp1 (wpB_Reader_readName_68 k x_1 zr8 (fun (zx15 : Int32) (zm14 : zMem) => wpJ_Reader_readName_114 k K146 J Q x_1 zr8 zx15 zm14) Q) n 0 zm7)))
def wpJ_Reader_readName_146 (k : Nat)  (Q : Int32 → zMem → Prop)   (M : zMem) : Prop :=
  (¬ (M k 9) = (-1) → Q 1 M) ∧ ((M k 9) = (-1) → wp_Reader_refuse k 1 (M k 8) M (fun zr24 zm23 => (zr24 = 0 → Q 0 zm23) ∧ (¬ zr24 = 0 → Q 1 zm23)))
def wp_Reader_readName (k : Nat) (M : zMem) (Q : Int32 → zMem → Prop) : Prop :=
  ∀ zm1 : zMem, zm1 = zup M k 7 1 → ∃ n : Nat, zlp0 (wpB_Reader_readName_5 k  (fun (zm5 : zMem) => ∀ zm6 : zMem, zm6 = zup zm5 k 9 ((-1)) → ∃ n : Nat, zlp1 (wpB_Reader_readName_47 k  (fun (zm22 : zMem) => wpJ_Reader_readName_146 k Q zm22) Q) n 0 zm6) Q) n  zm1
set_option maxHeartbeats 4000000 in
set_option maxRecDepth 20000 in
theorem c_Reader_readName {l : Launch} {w : zWd} {k : Nat} {M : zMem} {post : Int32 → zMem → Prop} (h0 : zI_Reader w k) (h : wp_Reader_readName k M post) : zMi l ⟨"HandToHand$Reader", "readName", "()Z"⟩ prog_7_method_20_code 4 (Option.some .boolean) 4 85 w [.ref (zad w k)] M post := by
  refine zMet (by decide) (Nat.le_of_ble_eq_true rfl) ?_
  intro p e s m below meth c X hr hlk hml hW ls hl
  have hx := X.1
  have hb := X.2.1
  have hl : lv_has ls 4 [(0, .ref (zad w k))] := hl
  have zL_5 : ∀ (K40 : zMem → Prop) (zK40 : ∀ (M : zMem) (H : Heap) (locs : List Loc) (ls : Array Slot), zWo w s.heap M H locs → lv_has ls 4 [(0, .ref (zad w k))] → K40 M → W p l e (zRm 4 85) s m ([.ref (zad w k)] : List Value).toArray below meth c H locs 0 0 (MQ below (va_Qi post (zB w) (zA w)) ([.ref (zad w k)] : List Value).toArray s 0 0 (zA w)) (F0 m 40 ls [])), ∀ (n : Nat) (M : zMem) (H : Heap) (locs : List Loc) (ls : Array Slot), zWo w s.heap M H locs → lv_has ls 4 [(0, .ref (zad w k))] → zlp0 (wpB_Reader_readName_5 k  K40 post) n M → W p l e (zRm 4 85) s m ([.ref (zad w k)] : List Value).toArray below meth c H locs 0 0 (MQ below (va_Qi post (zB w) (zA w)) ([.ref (zad w k)] : List Value).toArray s 0 0 (zA w)) (F0 m 5 ls []) := by
    intro K40 zK40 n
    induction n with
    | zero => intro M H locs ls hW hl h; exact h.elim
    | succ n zJ =>
      intro M H locs ls hW hl h
      have h : wpB_Reader_readName_5 k  K40 post (zlp0 (wpB_Reader_readName_5 k  K40 post) n) M := h
      unfold wpB_Reader_readName_5 at h
      refine lv_aload_n hx hb dX5_readName_5 rfl (lv_at hl 0 rfl) ?_
      refine zg_Reader_next X hW h0 zu_116 dX5_readName_6 ?_
      refine lv_aload_n hx hb dX5_readName_9 rfl (lv_at hl 0 rfl) ?_
      refine zg_Reader_length X hW h0 zu_115 dX5_readName_10 ?_
      refine lv_icmp_ge (tgt := 40) hx hb dX5_readName_13 rfl (fun c => ?_) (fun c => ?_)
      · replace h := h.1 c
        exact zK40 M H locs ls hW (lv_sub hl [0] rfl) h
      · replace h := h.2 c
        refine lv_aload_n hx hb dX5_readName_16 rfl (lv_at hl 0 rfl) ?_
        refine lv_aload_n hx hb dX5_readName_17 rfl (lv_at hl 0 rfl) ?_
        refine zg_Reader_next X hW h0 zu_116 dX5_readName_18 ?_
        refine zcalli (zrunV (As := [.int (M k 6)]) (rest := []) X hml hl hW h0.1 rfl zk_Reader_162 (c_Reader_isLetter h0 h) rfl ⟨Nat.le_of_ble_eq_true rfl, Nat.le_of_ble_eq_true rfl⟩ ⟨Nat.le_refl 0, Nat.le_refl 0⟩ rfl (Nat.le_of_ble_eq_true rfl) dX5_readName_21) hW (fun zr3 zm2 H locs h hW => ?_)
        refine lv_if_eq (tgt := 40) hx hb dX5_readName_24 rfl (fun c => ?_) (fun c => ?_)
        · replace h := h.1 c
          exact zK40 zm2 H locs ls hW (lv_sub hl [0] rfl) h
        · replace h := h.2 c
          refine lv_aload_n hx hb dX5_readName_27 rfl (lv_at hl 0 rfl) ?_
          refine lv_dup hx hb dX5_readName_28 rfl ?_
          refine zg_Reader_next X hW h0 zu_116 dX5_readName_29 ?_
          refine lv_iconst hx hb dX5_readName_32 zc_i1 ?_
          refine lv_iadd hx hb dX5_readName_33 ?_
          refine zp_Reader_next X hW h0 zu_116 dX5_readName_34 (fun H locs zm4 ezm4 hW => ?_)
          replace h := h zm4 ezm4
          refine lv_goto (tgt := 5) hx hb dX5_readName_37 rfl ?_
          exact zJ zm4 H locs ls hW (lv_sub hl [0] rfl) h
  have zL_68 : ∀ (x_1 : Int32) (x_2 : Nat) (K114 : Int32 → zMem → Prop) (zK114 : ∀ (y_3 : Int32) (M : zMem) (H : Heap) (locs : List Loc) (ls : Array Slot), zWo w s.heap M H locs → lv_has ls 4 [(0, .ref (zad w k)), (1, .int x_1), (2, .ref (zsa w x_2)), (3, .int y_3)] → K114 y_3 M → W p l e (zRm 4 85) s m ([.ref (zad w k)] : List Value).toArray below meth c H locs 0 0 (MQ below (va_Qi post (zB w) (zA w)) ([.ref (zad w k)] : List Value).toArray s 0 0 (zA w)) (F0 m 114 ls [])), ∀ (n : Nat) (x_3 : Int32) (M : zMem) (H : Heap) (locs : List Loc) (ls : Array Slot), zWo w s.heap M H locs → lv_has ls 4 [(0, .ref (zad w k)), (1, .int x_1), (2, .ref (zsa w x_2)), (3, .int x_3)] → zlp1 (wpB_Reader_readName_68 k x_1 x_2 K114 post) n x_3 M → W p l e (zRm 4 85) s m ([.ref (zad w k)] : List Value).toArray below meth c H locs 0 0 (MQ below (va_Qi post (zB w) (zA w)) ([.ref (zad w k)] : List Value).toArray s 0 0 (zA w)) (F0 m 68 ls []) := by
    intro x_1 x_2 K114 zK114 n
    induction n with
    | zero => intro x_3 M H locs ls hW hl h; exact h.elim
    | succ n zJ =>
      intro x_3 M H locs ls hW hl h
      have h : wpB_Reader_readName_68 k x_1 x_2 K114 post (zlp1 (wpB_Reader_readName_68 k x_1 x_2 K114 post) n) x_3 M := h
      unfold wpB_Reader_readName_68 at h
      refine lv_iload_n hx hb dX5_readName_68 rfl (lv_at hl 3 rfl) ?_
      refine lv_aload_n hx hb dX5_readName_69 rfl (lv_at hl 2 rfl) ?_
      refine zcalli (zrunVs (As := []) (rest := [.int x_3]) X hml hl hW h.1 zkS_length (c_Str_length h) rfl ⟨Nat.le_of_ble_eq_true rfl, Nat.le_of_ble_eq_true rfl⟩ ⟨Nat.le_refl 0, Nat.le_refl 0⟩ rfl (Nat.le_of_ble_eq_true rfl) dX5_readName_70) hW (fun zr10 zm9 H locs h hW => ?_)
      refine lv_icmp_ge (tgt := 114) hx hb dX5_readName_73 rfl (fun c => ?_) (fun c => ?_)
      · replace h := h.1 c
        exact zK114 x_3 zm9 H locs ls hW (lv_sub hl [0, 1, 2, 3] rfl) h
      · replace h := h.2 c
        refine lv_aload_n hx hb dX5_readName_76 rfl (lv_at hl 0 rfl) ?_
        refine zg_Reader_start X hW h0 zu_118 dX5_readName_77 ?_
        refine lv_iload_n hx hb dX5_readName_80 rfl (lv_at hl 3 rfl) ?_
        refine lv_iadd hx hb dX5_readName_81 ?_
        refine lv_aload_n hx hb dX5_readName_82 rfl (lv_at hl 0 rfl) ?_
        refine zg_Reader_next X hW h0 zu_116 dX5_readName_83 ?_
        refine lv_icmp_ge (tgt := 114) hx hb dX5_readName_86 rfl (fun c => ?_) (fun c => ?_)
        · replace h := h.1 c
          exact zK114 x_3 zm9 H locs ls hW (lv_sub hl [0, 1, 2, 3] rfl) h
        · replace h := h.2 c
          refine lv_aload_n hx hb dX5_readName_89 rfl (lv_at hl 0 rfl) ?_
          refine zg_Reader_tape X hW h0 zu_112 dX5_readName_90 ?_
          refine lv_aload_n hx hb dX5_readName_93 rfl (lv_at hl 0 rfl) ?_
          refine zg_Reader_start X hW h0 zu_118 dX5_readName_94 ?_
          refine lv_iload_n hx hb dX5_readName_97 rfl (lv_at hl 3 rfl) ?_
          refine lv_iadd hx hb dX5_readName_98 ?_
          obtain ⟨g, h⟩ := h
          refine zbald X hW h0.2.1 g dX5_readName_99 ?_
          refine lv_aload_n hx hb dX5_readName_100 rfl (lv_at hl 2 rfl) ?_
          refine lv_iload_n hx hb dX5_readName_101 rfl (lv_at hl 3 rfl) ?_
          refine zcalli (zrunVs (As := [.int x_3]) (rest := [.int (zm9 (k + 6) (ix ((zm9 k 8) + x_3)))]) X hml hl hW h.1 zkS_charAt (c_Str_charAt h) rfl ⟨Nat.le_of_ble_eq_true rfl, Nat.le_of_ble_eq_true rfl⟩ ⟨Nat.le_refl 0, Nat.le_refl 0⟩ rfl (Nat.le_of_ble_eq_true rfl) dX5_readName_102) hW (fun zr12 zm11 H locs h hW => ?_)
          refine lv_icmp_ne (tgt := 114) hx hb dX5_readName_105 rfl (fun c => ?_) (fun c => ?_)
          · replace h := h.1 c
            exact zK114 x_3 zm11 H locs ls hW (lv_sub hl [0, 1, 2, 3] rfl) h
          · replace h := h.2 c
            obtain ⟨zx13, ezx13⟩ : ∃ y : Int32, y = x_3 + 1 := ⟨_, rfl⟩
            replace h := h zx13 ezx13
            refine lv_iinc (v := zx13) (lv' := [(3, .int zx13), (0, .ref (zad w k)), (1, .int x_1), (2, .ref (zsa w x_2))]) hx hb dX5_readName_108 hl (k := 3) rfl (by rw [ezx13, zc_i1]) (Nat.le_of_ble_eq_true rfl) rfl (fun ls hl => ?_)
            refine lv_goto (tgt := 68) hx hb dX5_readName_111 rfl ?_
            exact zJ zx13 zm11 H locs ls hW (lv_sub hl [1, 2, 3, 0] rfl) h
  have zJ_114 : ∀ (x_1 : Int32) (x_2 : Nat) (x_3 : Int32) (K146 : zMem → Prop) (zK146 : ∀ (M : zMem) (H : Heap) (locs : List Loc) (ls : Array Slot), zWo w s.heap M H locs → lv_has ls 4 [(0, .ref (zad w k))] → K146 M → W p l e (zRm 4 85) s m ([.ref (zad w k)] : List Value).toArray below meth c H locs 0 0 (MQ below (va_Qi post (zB w) (zA w)) ([.ref (zad w k)] : List Value).toArray s 0 0 (zA w)) (F0 m 146 ls [])) (J : Int32 → zMem → Prop) (zJ : ∀ (y_1 : Int32) (M : zMem) (H : Heap) (locs : List Loc) (ls : Array Slot), zWo w s.heap M H locs → lv_has ls 4 [(0, .ref (zad w k)), (1, .int y_1)] → J y_1 M → W p l e (zRm 4 85) s m ([.ref (zad w k)] : List Value).toArray below meth c H locs 0 0 (MQ below (va_Qi post (zB w) (zA w)) ([.ref (zad w k)] : List Value).toArray s 0 0 (zA w)) (F0 m 47 ls [])) (M : zMem) (H : Heap) (locs : List Loc) (ls : Array Slot), zWo w s.heap M H locs → lv_has ls 4 [(0, .ref (zad w k)), (1, .int x_1), (2, .ref (zsa w x_2)), (3, .int x_3)] → wpJ_Reader_readName_114 k K146 J post x_1 x_2 x_3 M → W p l e (zRm 4 85) s m ([.ref (zad w k)] : List Value).toArray below meth c H locs 0 0 (MQ below (va_Qi post (zB w) (zA w)) ([.ref (zad w k)] : List Value).toArray s 0 0 (zA w)) (F0 m 114 ls []) := by
    intro x_1 x_2 x_3 K146 zK146 J zJ M H locs ls hW hl h
    unfold wpJ_Reader_readName_114 at h
    refine lv_iload_n hx hb dX5_readName_114 rfl (lv_at hl 3 rfl) ?_
    refine lv_aload_n hx hb dX5_readName_115 rfl (lv_at hl 2 rfl) ?_
    refine zcalli (zrunVs (As := []) (rest := [.int x_3]) X hml hl hW h.1 zkS_length (c_Str_length h) rfl ⟨Nat.le_of_ble_eq_true rfl, Nat.le_of_ble_eq_true rfl⟩ ⟨Nat.le_refl 0, Nat.le_refl 0⟩ rfl (Nat.le_of_ble_eq_true rfl) dX5_readName_116) hW (fun zr17 zm16 H locs h hW => ?_)
    refine lv_icmp_ne (tgt := 140) hx hb dX5_readName_119 rfl (fun c => ?_) (fun c => ?_)
    · replace h := h.1 c
      obtain ⟨zx18, ezx18⟩ : ∃ y : Int32, y = x_1 + 1 := ⟨_, rfl⟩
      replace h := h zx18 ezx18
      refine lv_iinc (v := zx18) (lv' := [(1, .int zx18), (0, .ref (zad w k)), (2, .ref (zsa w x_2)), (3, .int x_3)]) hx hb dX5_readName_140 hl (k := 1) rfl (by rw [ezx18, zc_i1]) (Nat.le_of_ble_eq_true rfl) rfl (fun ls hl => ?_)
      refine lv_goto (tgt := 47) hx hb dX5_readName_143 rfl ?_
      exact zJ zx18 zm16 H locs ls hW (lv_sub hl [1, 0] rfl) h
    · replace h := h.2 c
      refine lv_aload_n hx hb dX5_readName_122 rfl (lv_at hl 0 rfl) ?_
      refine zg_Reader_start X hW h0 zu_118 dX5_readName_123 ?_
      refine lv_iload_n hx hb dX5_readName_126 rfl (lv_at hl 3 rfl) ?_
      refine lv_iadd hx hb dX5_readName_127 ?_
      refine lv_aload_n hx hb dX5_readName_128 rfl (lv_at hl 0 rfl) ?_
      refine zg_Reader_next X hW h0 zu_116 dX5_readName_129 ?_
      refine lv_icmp_ne (tgt := 140) hx hb dX5_readName_132 rfl (fun c => ?_) (fun c => ?_)
      · replace h := h.1 c
        obtain ⟨zx19, ezx19⟩ : ∃ y : Int32, y = x_1 + 1 := ⟨_, rfl⟩
        replace h := h zx19 ezx19
        refine lv_iinc (v := zx19) (lv' := [(1, .int zx19), (0, .ref (zad w k)), (2, .ref (zsa w x_2)), (3, .int x_3)]) hx hb dX5_readName_140 hl (k := 1) rfl (by rw [ezx19, zc_i1]) (Nat.le_of_ble_eq_true rfl) rfl (fun ls hl => ?_)
        refine lv_goto (tgt := 47) hx hb dX5_readName_143 rfl ?_
        exact zJ zx19 zm16 H locs ls hW (lv_sub hl [1, 0] rfl) h
      · replace h := h.2 c
        refine lv_aload_n hx hb dX5_readName_135 rfl (lv_at hl 0 rfl) ?_
        refine lv_iload_n hx hb dX5_readName_136 rfl (lv_at hl 1 rfl) ?_
        refine zp_Reader_value X hW h0 zu_119 dX5_readName_137 (fun H locs zm20 ezm20 hW => ?_)
        replace h := h zm20 ezm20
        obtain ⟨zx21, ezx21⟩ : ∃ y : Int32, y = x_1 + 1 := ⟨_, rfl⟩
        replace h := h zx21 ezx21
        refine lv_iinc (v := zx21) (lv' := [(1, .int zx21), (0, .ref (zad w k)), (2, .ref (zsa w x_2)), (3, .int x_3)]) hx hb dX5_readName_140 hl (k := 1) rfl (by rw [ezx21, zc_i1]) (Nat.le_of_ble_eq_true rfl) rfl (fun ls hl => ?_)
        refine lv_goto (tgt := 47) hx hb dX5_readName_143 rfl ?_
        exact zJ zx21 zm20 H locs ls hW (lv_sub hl [1, 0] rfl) h
  have zL_47 : ∀ (K146 : zMem → Prop) (zK146 : ∀ (M : zMem) (H : Heap) (locs : List Loc) (ls : Array Slot), zWo w s.heap M H locs → lv_has ls 4 [(0, .ref (zad w k))] → K146 M → W p l e (zRm 4 85) s m ([.ref (zad w k)] : List Value).toArray below meth c H locs 0 0 (MQ below (va_Qi post (zB w) (zA w)) ([.ref (zad w k)] : List Value).toArray s 0 0 (zA w)) (F0 m 146 ls [])), ∀ (n : Nat) (x_1 : Int32) (M : zMem) (H : Heap) (locs : List Loc) (ls : Array Slot), zWo w s.heap M H locs → lv_has ls 4 [(0, .ref (zad w k)), (1, .int x_1)] → zlp1 (wpB_Reader_readName_47 k  K146 post) n x_1 M → W p l e (zRm 4 85) s m ([.ref (zad w k)] : List Value).toArray below meth c H locs 0 0 (MQ below (va_Qi post (zB w) (zA w)) ([.ref (zad w k)] : List Value).toArray s 0 0 (zA w)) (F0 m 47 ls []) := by
    intro K146 zK146 n
    induction n with
    | zero => intro x_1 M H locs ls hW hl h; exact h.elim
    | succ n zJ =>
      intro x_1 M H locs ls hW hl h
      have h : wpB_Reader_readName_47 k  K146 post (zlp1 (wpB_Reader_readName_47 k  K146 post) n) x_1 M := h
      unfold wpB_Reader_readName_47 at h
      refine lv_iload_n hx hb dX5_readName_47 rfl (lv_at hl 1 rfl) ?_
      refine lv_bipush hx hb dX5_readName_48 zc_b10 ?_
      refine lv_icmp_ge (tgt := 146) hx hb dX5_readName_50 rfl (fun c => ?_) (fun c => ?_)
      · replace h := h.1 c
        exact zK146 M H locs ls hW (lv_sub hl [0] rfl) h
      · replace h := h.2 c
        refine lv_aload_n hx hb dX5_readName_53 rfl (lv_at hl 0 rfl) ?_
        refine zg_Reader_value X hW h0 zu_119 dX5_readName_54 ?_
        refine lv_iconst hx hb dX5_readName_57 zc_im1 ?_
        refine lv_icmp_ne (tgt := 146) hx hb dX5_readName_58 rfl (fun c => ?_) (fun c => ?_)
        · replace h := h.1 c
          exact zK146 M H locs ls hW (lv_sub hl [0] rfl) h
        · replace h := h.2 c
          refine lv_iload_n hx hb dX5_readName_61 rfl (lv_at hl 1 rfl) ?_
          refine zcallr (zrunS (As := [.int x_1]) (rest := []) X hml hl hW zkS_wordOf (c_Reader_wordOf h) rfl ⟨Nat.le_of_ble_eq_true rfl, Nat.le_of_ble_eq_true rfl⟩ ⟨Nat.le_refl 0, Nat.le_refl 0⟩ rfl (Nat.le_of_ble_eq_true rfl) dX5_readName_62) hW (fun zr8 zm7 H locs h hW => ?_)
          refine lv_astore_n (lv' := [(2, .ref (zsa w zr8)), (0, .ref (zad w k)), (1, .int x_1)]) hx hb dX5_readName_65 rfl hl (Nat.le_of_ble_eq_true rfl) rfl (fun ls hl => ?_)
          refine lv_iconst hx hb dX5_readName_66 zc_i0 ?_
          refine lv_istore_n (lv' := [(3, .int 0), (2, .ref (zsa w zr8)), (0, .ref (zad w k)), (1, .int x_1)]) hx hb dX5_readName_67 rfl hl (Nat.le_of_ble_eq_true rfl) rfl (fun ls hl => ?_)
          obtain ⟨n, h⟩ := h
          refine zL_68 x_1 zr8 _ (fun zx15 zm14 H locs ls hW hl h => ?_) n 0 zm7 H locs ls hW (lv_sub hl [2, 3, 1, 0] rfl) h
          · skip
            exact zJ_114 x_1 zr8 zx15 _ zK146 _ zJ zm14 H locs ls hW (lv_sub hl [0, 1, 2, 3] rfl) h
  have zJ_146 : ∀ (M : zMem) (H : Heap) (locs : List Loc) (ls : Array Slot), zWo w s.heap M H locs → lv_has ls 4 [(0, .ref (zad w k))] → wpJ_Reader_readName_146 k post M → W p l e (zRm 4 85) s m ([.ref (zad w k)] : List Value).toArray below meth c H locs 0 0 (MQ below (va_Qi post (zB w) (zA w)) ([.ref (zad w k)] : List Value).toArray s 0 0 (zA w)) (F0 m 146 ls []) := by
    intro  M H locs ls hW hl h
    unfold wpJ_Reader_readName_146 at h
    refine lv_aload_n hx hb dX5_readName_146 rfl (lv_at hl 0 rfl) ?_
    refine zg_Reader_value X hW h0 zu_119 dX5_readName_147 ?_
    refine lv_iconst hx hb dX5_readName_150 zc_im1 ?_
    refine lv_icmp_ne (tgt := 166) hx hb dX5_readName_151 rfl (fun c => ?_) (fun c => ?_)
    · replace h := h.1 c
      refine lv_iconst hx hb dX5_readName_166 zc_i1 ?_
      refine lv_goto (tgt := 171) hx hb dX5_readName_167 rfl ?_
      exact zretz X hr hlk hW rfl h dX5_readName_171
    · replace h := h.2 c
      refine lv_aload_n hx hb dX5_readName_154 rfl (lv_at hl 0 rfl) ?_
      refine lv_iconst hx hb dX5_readName_155 zc_i1 ?_
      refine lv_aload_n hx hb dX5_readName_156 rfl (lv_at hl 0 rfl) ?_
      refine zg_Reader_start X hW h0 zu_118 dX5_readName_157 ?_
      refine zcalli (zrunV (As := [.int 1, .int (M k 8)]) (rest := []) X hml hl hW h0.1 rfl zk_Reader_73 (c_Reader_refuse h0 h) rfl ⟨Nat.le_of_ble_eq_true rfl, Nat.le_of_ble_eq_true rfl⟩ ⟨Nat.le_refl 0, Nat.le_refl 0⟩ rfl (Nat.le_of_ble_eq_true rfl) dX5_readName_160) hW (fun zr24 zm23 H locs h hW => ?_)
      refine lv_if_eq (tgt := 170) hx hb dX5_readName_163 rfl (fun c => ?_) (fun c => ?_)
      · replace h := h.1 c
        refine lv_iconst hx hb dX5_readName_170 zc_i0 ?_
        exact zretz X hr hlk hW rfl h dX5_readName_171
      · replace h := h.2 c
        refine lv_iconst hx hb dX5_readName_166 zc_i1 ?_
        refine lv_goto (tgt := 171) hx hb dX5_readName_167 rfl ?_
        exact zretz X hr hlk hW rfl h dX5_readName_171
  unfold wp_Reader_readName at h
  have zMain : ∀ (H : Heap) (locs : List Loc) (ls : Array Slot), zWo w s.heap M H locs → lv_has ls 4 [(0, .ref (zad w k))] → W p l e (zRm 4 85) s m ([.ref (zad w k)] : List Value).toArray below meth c H locs 0 0 (MQ below (va_Qi post (zB w) (zA w)) ([.ref (zad w k)] : List Value).toArray s 0 0 (zA w)) (F0 m 0 ls []) := by
    intro H locs ls hW hl
    refine lv_aload_n hx hb dX5_readName_0 rfl (lv_at hl 0 rfl) ?_
    refine lv_iconst hx hb dX5_readName_1 zc_i1 ?_
    refine zp_Reader_kind X hW h0 zu_117 dX5_readName_2 (fun H locs zm1 ezm1 hW => ?_)
    replace h := h zm1 ezm1
    obtain ⟨n, h⟩ := h
    refine zL_5  _ (fun  zm5 H locs ls hW hl h => ?_) n  zm1 H locs ls hW (lv_sub hl [0] rfl) h
    · skip
      refine lv_aload_n hx hb dX5_readName_40 rfl (lv_at hl 0 rfl) ?_
      refine lv_iconst hx hb dX5_readName_41 zc_im1 ?_
      refine zp_Reader_value X hW h0 zu_119 dX5_readName_42 (fun H locs zm6 ezm6 hW => ?_)
      replace h := h zm6 ezm6
      refine lv_iconst hx hb dX5_readName_45 zc_i0 ?_
      refine lv_istore_n (lv' := [(1, .int 0), (0, .ref (zad w k))]) hx hb dX5_readName_46 rfl hl (Nat.le_of_ble_eq_true rfl) rfl (fun ls hl => ?_)
      obtain ⟨n, h⟩ := h
      refine zL_47  _ (fun  zm22 H locs ls hW hl h => ?_) n 0 zm6 H locs ls hW (lv_sub hl [1, 0] rfl) h
      · skip
        exact zJ_146  zm22 H locs ls hW (lv_sub hl [0] rfl) h
  exact zMain s.heap [] ls hW hl
def wpB_Reader_readToken_0 (k : Nat)  (K38 : zMem → Prop) (Q : Int32 → zMem → Prop) (J : zMem → Prop)  (M : zMem) : Prop :=
  ((M k 5) ≤ (M k 6) → K38 M) ∧ (¬ (M k 5) ≤ (M k 6) → vp_in (M k 6) 400 ∧ (¬ (M (k + 6) (ix (M k 6))) = 32 → K38 M) ∧ ((M (k + 6) (ix (M k 6))) = 32 → ∀ zm1 : zMem, zm1 = zup M k 6 ((M k 6) + 1) → J zm1))
def wpJ_Reader_readToken_38 (k : Nat)  (Q : Int32 → zMem → Prop)   (M : zMem) : Prop :=
  ∀ zm3 : zMem, zm3 = zup M k 8 (M k 6) → ((zm3 k 6) < (zm3 k 5) → vp_in (zm3 k 6) 400 ∧ (¬ (zm3 (k + 6) (ix (zm3 k 6))) = 59 → wp_Reader_isLetter k (zm3 k 6) zm3 (fun zr5 zm4 => (zr5 = 0 → wp_Reader_isFigure k (zm4 k 6) zm4 (fun zr7 zm6 => (zr7 = 0 → wp_Reader_refuse k 1 (zm6 k 8) zm6 (fun zr9 zm8 => zbo zr9 ∧ Q zr9 zm8)) ∧ (¬ zr7 = 0 → wp_Reader_readFigures k zm6 (fun zr11 zm10 => zbo zr11 ∧ Q zr11 zm10)))) ∧ (¬ zr5 = 0 → wp_Reader_readName k zm4 (fun zr13 zm12 => zbo zr13 ∧ Q zr13 zm12)))) ∧ ((zm3 (k + 6) (ix (zm3 k 6))) = 59 → ∀ zm14 : zMem, zm14 = zup zm3 k 7 3 → ∀ zm15 : zMem, zm15 = zup zm14 k 6 ((zm14 k 6) + 1) → Q 1 zm15)) ∧ (¬ (zm3 k 6) < (zm3 k 5) → ∀ zm16 : zMem, zm16 = zup zm3 k 7 0 → Q 1 zm16)
def wp_Reader_readToken (k : Nat) (M : zMem) (Q : Int32 → zMem → Prop) : Prop :=
  ∃ n : Nat, zlp0 (wpB_Reader_readToken_0 k  (fun (zm2 : zMem) => wpJ_Reader_readToken_38 k Q zm2) Q) n  M
set_option maxHeartbeats 4000000 in
set_option maxRecDepth 20000 in
theorem c_Reader_readToken {l : Launch} {w : zWd} {k : Nat} {M : zMem} {post : Int32 → zMem → Prop} (h0 : zI_Reader w k) (h : wp_Reader_readToken k M post) : zMi l ⟨"HandToHand$Reader", "readToken", "()Z"⟩ prog_7_method_19_code 1 (Option.some .boolean) 5 108 w [.ref (zad w k)] M post := by
  refine zMet (by decide) (Nat.le_of_ble_eq_true rfl) ?_
  intro p e s m below meth c X hr hlk hml hW ls hl
  have hx := X.1
  have hb := X.2.1
  have hl : lv_has ls 1 [(0, .ref (zad w k))] := hl
  have zL_0 : ∀ (K38 : zMem → Prop) (zK38 : ∀ (M : zMem) (H : Heap) (locs : List Loc) (ls : Array Slot), zWo w s.heap M H locs → lv_has ls 1 [(0, .ref (zad w k))] → K38 M → W p l e (zRm 5 108) s m ([.ref (zad w k)] : List Value).toArray below meth c H locs 0 0 (MQ below (va_Qi post (zB w) (zA w)) ([.ref (zad w k)] : List Value).toArray s 0 0 (zA w)) (F0 m 38 ls [])), ∀ (n : Nat) (M : zMem) (H : Heap) (locs : List Loc) (ls : Array Slot), zWo w s.heap M H locs → lv_has ls 1 [(0, .ref (zad w k))] → zlp0 (wpB_Reader_readToken_0 k  K38 post) n M → W p l e (zRm 5 108) s m ([.ref (zad w k)] : List Value).toArray below meth c H locs 0 0 (MQ below (va_Qi post (zB w) (zA w)) ([.ref (zad w k)] : List Value).toArray s 0 0 (zA w)) (F0 m 0 ls []) := by
    intro K38 zK38 n
    induction n with
    | zero => intro M H locs ls hW hl h; exact h.elim
    | succ n zJ =>
      intro M H locs ls hW hl h
      have h : wpB_Reader_readToken_0 k  K38 post (zlp0 (wpB_Reader_readToken_0 k  K38 post) n) M := h
      unfold wpB_Reader_readToken_0 at h
      refine lv_aload_n hx hb dX5_readToken_0 rfl (lv_at hl 0 rfl) ?_
      refine zg_Reader_next X hW h0 zu_116 dX5_readToken_1 ?_
      refine lv_aload_n hx hb dX5_readToken_4 rfl (lv_at hl 0 rfl) ?_
      refine zg_Reader_length X hW h0 zu_115 dX5_readToken_5 ?_
      refine lv_icmp_ge (tgt := 38) hx hb dX5_readToken_8 rfl (fun c => ?_) (fun c => ?_)
      · replace h := h.1 c
        exact zK38 M H locs ls hW (lv_sub hl [0] rfl) h
      · replace h := h.2 c
        refine lv_aload_n hx hb dX5_readToken_11 rfl (lv_at hl 0 rfl) ?_
        refine zg_Reader_tape X hW h0 zu_112 dX5_readToken_12 ?_
        refine lv_aload_n hx hb dX5_readToken_15 rfl (lv_at hl 0 rfl) ?_
        refine zg_Reader_next X hW h0 zu_116 dX5_readToken_16 ?_
        obtain ⟨g, h⟩ := h
        refine zbald X hW h0.2.1 g dX5_readToken_19 ?_
        refine lv_bipush hx hb dX5_readToken_20 zc_b32 ?_
        refine lv_icmp_ne (tgt := 38) hx hb dX5_readToken_22 rfl (fun c => ?_) (fun c => ?_)
        · replace h := h.1 c
          exact zK38 M H locs ls hW (lv_sub hl [0] rfl) h
        · replace h := h.2 c
          refine lv_aload_n hx hb dX5_readToken_25 rfl (lv_at hl 0 rfl) ?_
          refine lv_dup hx hb dX5_readToken_26 rfl ?_
          refine zg_Reader_next X hW h0 zu_116 dX5_readToken_27 ?_
          refine lv_iconst hx hb dX5_readToken_30 zc_i1 ?_
          refine lv_iadd hx hb dX5_readToken_31 ?_
          refine zp_Reader_next X hW h0 zu_116 dX5_readToken_32 (fun H locs zm1 ezm1 hW => ?_)
          replace h := h zm1 ezm1
          refine lv_goto (tgt := 0) hx hb dX5_readToken_35 rfl ?_
          exact zJ zm1 H locs ls hW (lv_sub hl [0] rfl) h
  have zJ_38 : ∀ (M : zMem) (H : Heap) (locs : List Loc) (ls : Array Slot), zWo w s.heap M H locs → lv_has ls 1 [(0, .ref (zad w k))] → wpJ_Reader_readToken_38 k post M → W p l e (zRm 5 108) s m ([.ref (zad w k)] : List Value).toArray below meth c H locs 0 0 (MQ below (va_Qi post (zB w) (zA w)) ([.ref (zad w k)] : List Value).toArray s 0 0 (zA w)) (F0 m 38 ls []) := by
    intro  M H locs ls hW hl h
    unfold wpJ_Reader_readToken_38 at h
    refine lv_aload_n hx hb dX5_readToken_38 rfl (lv_at hl 0 rfl) ?_
    refine lv_aload_n hx hb dX5_readToken_39 rfl (lv_at hl 0 rfl) ?_
    refine zg_Reader_next X hW h0 zu_116 dX5_readToken_40 ?_
    refine zp_Reader_start X hW h0 zu_118 dX5_readToken_43 (fun H locs zm3 ezm3 hW => ?_)
    replace h := h zm3 ezm3
    refine lv_aload_n hx hb dX5_readToken_46 rfl (lv_at hl 0 rfl) ?_
    refine zg_Reader_next X hW h0 zu_116 dX5_readToken_47 ?_
    refine lv_aload_n hx hb dX5_readToken_50 rfl (lv_at hl 0 rfl) ?_
    refine zg_Reader_length X hW h0 zu_115 dX5_readToken_51 ?_
    refine lv_icmp_lt (tgt := 64) hx hb dX5_readToken_54 rfl (fun c => ?_) (fun c => ?_)
    · replace h := h.1 c
      refine lv_aload_n hx hb dX5_readToken_64 rfl (lv_at hl 0 rfl) ?_
      refine zg_Reader_tape X hW h0 zu_112 dX5_readToken_65 ?_
      refine lv_aload_n hx hb dX5_readToken_68 rfl (lv_at hl 0 rfl) ?_
      refine zg_Reader_next X hW h0 zu_116 dX5_readToken_69 ?_
      obtain ⟨g, h⟩ := h
      refine zbald X hW h0.2.1 g dX5_readToken_72 ?_
      refine lv_bipush hx hb dX5_readToken_73 zc_b59 ?_
      refine lv_icmp_ne (tgt := 95) hx hb dX5_readToken_75 rfl (fun c => ?_) (fun c => ?_)
      · replace h := h.1 c
        refine lv_aload_n hx hb dX5_readToken_95 rfl (lv_at hl 0 rfl) ?_
        refine lv_aload_n hx hb dX5_readToken_96 rfl (lv_at hl 0 rfl) ?_
        refine zg_Reader_next X hW h0 zu_116 dX5_readToken_97 ?_
        refine zcalli (zrunV (As := [.int (zm3 k 6)]) (rest := []) X hml hl hW h0.1 rfl zk_Reader_162 (c_Reader_isLetter h0 h) rfl ⟨Nat.le_of_ble_eq_true rfl, Nat.le_of_ble_eq_true rfl⟩ ⟨Nat.le_refl 0, Nat.le_refl 0⟩ rfl (Nat.le_of_ble_eq_true rfl) dX5_readToken_100) hW (fun zr5 zm4 H locs h hW => ?_)
        refine lv_if_eq (tgt := 111) hx hb dX5_readToken_103 rfl (fun c => ?_) (fun c => ?_)
        · replace h := h.1 c
          refine lv_aload_n hx hb dX5_readToken_111 rfl (lv_at hl 0 rfl) ?_
          refine lv_aload_n hx hb dX5_readToken_112 rfl (lv_at hl 0 rfl) ?_
          refine zg_Reader_next X hW h0 zu_116 dX5_readToken_113 ?_
          refine zcalli (zrunV (As := [.int (zm4 k 6)]) (rest := []) X hml hl hW h0.1 rfl zk_Reader_168 (c_Reader_isFigure h0 h) rfl ⟨Nat.le_of_ble_eq_true rfl, Nat.le_of_ble_eq_true rfl⟩ ⟨Nat.le_refl 0, Nat.le_refl 0⟩ rfl (Nat.le_of_ble_eq_true rfl) dX5_readToken_116) hW (fun zr7 zm6 H locs h hW => ?_)
          refine lv_if_eq (tgt := 127) hx hb dX5_readToken_119 rfl (fun c => ?_) (fun c => ?_)
          · replace h := h.1 c
            refine lv_aload_n hx hb dX5_readToken_127 rfl (lv_at hl 0 rfl) ?_
            refine lv_iconst hx hb dX5_readToken_128 zc_i1 ?_
            refine lv_aload_n hx hb dX5_readToken_129 rfl (lv_at hl 0 rfl) ?_
            refine zg_Reader_start X hW h0 zu_118 dX5_readToken_130 ?_
            refine zcalli (zrunV (As := [.int 1, .int (zm6 k 8)]) (rest := []) X hml hl hW h0.1 rfl zk_Reader_73 (c_Reader_refuse h0 h) rfl ⟨Nat.le_of_ble_eq_true rfl, Nat.le_of_ble_eq_true rfl⟩ ⟨Nat.le_refl 0, Nat.le_refl 0⟩ rfl (Nat.le_of_ble_eq_true rfl) dX5_readToken_133) hW (fun zr9 zm8 H locs h hW => ?_)
            exact zretz X hr hlk hW (zbo_n h.1) h.2 dX5_readToken_136
          · replace h := h.2 c
            refine lv_aload_n hx hb dX5_readToken_122 rfl (lv_at hl 0 rfl) ?_
            refine zcalli (zrunV (As := []) (rest := []) X hml hl hW h0.1 rfl zk_Reader_171 (c_Reader_readFigures h0 h) rfl ⟨Nat.le_of_ble_eq_true rfl, Nat.le_of_ble_eq_true rfl⟩ ⟨Nat.le_refl 0, Nat.le_refl 0⟩ rfl (Nat.le_of_ble_eq_true rfl) dX5_readToken_123) hW (fun zr11 zm10 H locs h hW => ?_)
            exact zretz X hr hlk hW (zbo_n h.1) h.2 dX5_readToken_126
        · replace h := h.2 c
          refine lv_aload_n hx hb dX5_readToken_106 rfl (lv_at hl 0 rfl) ?_
          refine zcalli (zrunV (As := []) (rest := []) X hml hl hW h0.1 rfl zk_Reader_165 (c_Reader_readName h0 h) rfl ⟨Nat.le_of_ble_eq_true rfl, Nat.le_of_ble_eq_true rfl⟩ ⟨Nat.le_refl 0, Nat.le_refl 0⟩ rfl (Nat.le_of_ble_eq_true rfl) dX5_readToken_107) hW (fun zr13 zm12 H locs h hW => ?_)
          exact zretz X hr hlk hW (zbo_n h.1) h.2 dX5_readToken_110
      · replace h := h.2 c
        refine lv_aload_n hx hb dX5_readToken_78 rfl (lv_at hl 0 rfl) ?_
        refine lv_iconst hx hb dX5_readToken_79 zc_i3 ?_
        refine zp_Reader_kind X hW h0 zu_117 dX5_readToken_80 (fun H locs zm14 ezm14 hW => ?_)
        replace h := h zm14 ezm14
        refine lv_aload_n hx hb dX5_readToken_83 rfl (lv_at hl 0 rfl) ?_
        refine lv_dup hx hb dX5_readToken_84 rfl ?_
        refine zg_Reader_next X hW h0 zu_116 dX5_readToken_85 ?_
        refine lv_iconst hx hb dX5_readToken_88 zc_i1 ?_
        refine lv_iadd hx hb dX5_readToken_89 ?_
        refine zp_Reader_next X hW h0 zu_116 dX5_readToken_90 (fun H locs zm15 ezm15 hW => ?_)
        replace h := h zm15 ezm15
        refine lv_iconst hx hb dX5_readToken_93 zc_i1 ?_
        exact zretz X hr hlk hW rfl h dX5_readToken_94
    · replace h := h.2 c
      refine lv_aload_n hx hb dX5_readToken_57 rfl (lv_at hl 0 rfl) ?_
      refine lv_iconst hx hb dX5_readToken_58 zc_i0 ?_
      refine zp_Reader_kind X hW h0 zu_117 dX5_readToken_59 (fun H locs zm16 ezm16 hW => ?_)
      replace h := h zm16 ezm16
      refine lv_iconst hx hb dX5_readToken_62 zc_i1 ?_
      exact zretz X hr hlk hW rfl h dX5_readToken_63
  unfold wp_Reader_readToken at h
  have zMain : ∀ (H : Heap) (locs : List Loc) (ls : Array Slot), zWo w s.heap M H locs → lv_has ls 1 [(0, .ref (zad w k))] → W p l e (zRm 5 108) s m ([.ref (zad w k)] : List Value).toArray below meth c H locs 0 0 (MQ below (va_Qi post (zB w) (zA w)) ([.ref (zad w k)] : List Value).toArray s 0 0 (zA w)) (F0 m 0 ls []) := by
    intro H locs ls hW hl
    obtain ⟨n, h⟩ := h
    refine zL_0  _ (fun  zm2 H locs ls hW hl h => ?_) n  M H locs ls hW (lv_sub hl [0] rfl) h
    · skip
      exact zJ_38  zm2 H locs ls hW (lv_sub hl [0] rfl) h
  exact zMain s.heap [] ls hW hl
def wp_Reader_isWithin (k : Nat) (a1 : Int32) (a2 : Int32) (M : zMem) (Q : Int32 → zMem → Prop) : Prop :=
  ((M k 9) < a1 → wp_Reader_refuse k 3 (M k 8) M (fun zr2 zm1 => zbo zr2 ∧ Q zr2 zm1)) ∧ (¬ (M k 9) < a1 → ((M k 9) ≤ a2 → Q 1 M) ∧ (¬ (M k 9) ≤ a2 → wp_Reader_refuse k 3 (M k 8) M (fun zr4 zm3 => zbo zr4 ∧ Q zr4 zm3)))
set_option maxHeartbeats 4000000 in
set_option maxRecDepth 20000 in
theorem c_Reader_isWithin {l : Launch} {w : zWd} {k : Nat} {a1 : Int32} {a2 : Int32} {M : zMem} {post : Int32 → zMem → Prop} (h0 : zI_Reader w k) (h : wp_Reader_isWithin k a1 a2 M post) : zMi l ⟨"HandToHand$Reader", "isWithin", "(II)Z"⟩ prog_7_method_16_code 3 (Option.some .boolean) 1 22 w [.ref (zad w k), .int a1, .int a2] M post := by
  refine zMet (by decide) (Nat.le_of_ble_eq_true rfl) ?_
  intro p e s m below meth c X hr hlk hml hW ls hl
  have hx := X.1
  have hb := X.2.1
  have hl : lv_has ls 3 [(0, .ref (zad w k)), (1, .int a1), (2, .int a2)] := hl
  unfold wp_Reader_isWithin at h
  have zMain : ∀ (H : Heap) (locs : List Loc) (ls : Array Slot), zWo w s.heap M H locs → lv_has ls 3 [(0, .ref (zad w k)), (1, .int a1), (2, .int a2)] → W p l e (zRm 1 22) s m ([.ref (zad w k), .int a1, .int a2] : List Value).toArray below meth c H locs 0 0 (MQ below (va_Qi post (zB w) (zA w)) ([.ref (zad w k), .int a1, .int a2] : List Value).toArray s 0 0 (zA w)) (F0 m 0 ls []) := by
    intro H locs ls hW hl
    refine lv_aload_n hx hb dX5_isWithin_0 rfl (lv_at hl 0 rfl) ?_
    refine zg_Reader_value X hW h0 zu_119 dX5_isWithin_1 ?_
    refine lv_iload_n hx hb dX5_isWithin_4 rfl (lv_at hl 1 rfl) ?_
    refine lv_icmp_lt (tgt := 16) hx hb dX5_isWithin_5 rfl (fun c => ?_) (fun c => ?_)
    · replace h := h.1 c
      refine lv_aload_n hx hb dX5_isWithin_16 rfl (lv_at hl 0 rfl) ?_
      refine lv_iconst hx hb dX5_isWithin_17 zc_i3 ?_
      refine lv_aload_n hx hb dX5_isWithin_18 rfl (lv_at hl 0 rfl) ?_
      refine zg_Reader_start X hW h0 zu_118 dX5_isWithin_19 ?_
      refine zcalli (zrunV (As := [.int 3, .int (M k 8)]) (rest := []) X hml hl hW h0.1 rfl zk_Reader_73 (c_Reader_refuse h0 h) rfl ⟨Nat.le_of_ble_eq_true rfl, Nat.le_of_ble_eq_true rfl⟩ ⟨Nat.le_refl 0, Nat.le_refl 0⟩ rfl (Nat.le_of_ble_eq_true rfl) dX5_isWithin_22) hW (fun zr2 zm1 H locs h hW => ?_)
      exact zretz X hr hlk hW (zbo_n h.1) h.2 dX5_isWithin_25
    · replace h := h.2 c
      refine lv_aload_n hx hb dX5_isWithin_8 rfl (lv_at hl 0 rfl) ?_
      refine zg_Reader_value X hW h0 zu_119 dX5_isWithin_9 ?_
      refine lv_iload_n hx hb dX5_isWithin_12 rfl (lv_at hl 2 rfl) ?_
      refine lv_icmp_le (tgt := 26) hx hb dX5_isWithin_13 rfl (fun c => ?_) (fun c => ?_)
      · replace h := h.1 c
        refine lv_iconst hx hb dX5_isWithin_26 zc_i1 ?_
        exact zretz X hr hlk hW rfl h dX5_isWithin_27
      · replace h := h.2 c
        refine lv_aload_n hx hb dX5_isWithin_16 rfl (lv_at hl 0 rfl) ?_
        refine lv_iconst hx hb dX5_isWithin_17 zc_i3 ?_
        refine lv_aload_n hx hb dX5_isWithin_18 rfl (lv_at hl 0 rfl) ?_
        refine zg_Reader_start X hW h0 zu_118 dX5_isWithin_19 ?_
        refine zcalli (zrunV (As := [.int 3, .int (M k 8)]) (rest := []) X hml hl hW h0.1 rfl zk_Reader_73 (c_Reader_refuse h0 h) rfl ⟨Nat.le_of_ble_eq_true rfl, Nat.le_of_ble_eq_true rfl⟩ ⟨Nat.le_refl 0, Nat.le_refl 0⟩ rfl (Nat.le_of_ble_eq_true rfl) dX5_isWithin_22) hW (fun zr4 zm3 H locs h hW => ?_)
        exact zretz X hr hlk hW (zbo_n h.1) h.2 dX5_isWithin_25
  exact zMain s.heap [] ls hW hl
def wp_Reader_readNumber (k : Nat) (a1 : Int32) (a2 : Int32) (M : zMem) (Q : Int32 → zMem → Prop) : Prop :=
  wp_Reader_readToken k M (fun zr2 zm1 => (¬ zr2 = 0 → ((zm1 k 7) = 2 → wp_Reader_isWithin k a1 a2 zm1 (fun zr4 zm3 => zbo zr4 ∧ Q zr4 zm3)) ∧ (¬ (zm1 k 7) = 2 → wp_Reader_refuse k 2 (zm1 k 8) zm1 (fun zr6 zm5 => zbo zr6 ∧ Q zr6 zm5))) ∧ (zr2 = 0 → Q 0 zm1))
set_option maxHeartbeats 4000000 in
set_option maxRecDepth 20000 in
theorem c_Reader_readNumber {l : Launch} {w : zWd} {k : Nat} {a1 : Int32} {a2 : Int32} {M : zMem} {post : Int32 → zMem → Prop} (h0 : zI_Reader w k) (h : wp_Reader_readNumber k a1 a2 M post) : zMi l ⟨"HandToHand$Reader", "readNumber", "(II)Z"⟩ prog_7_method_15_code 3 (Option.some .boolean) 6 128 w [.ref (zad w k), .int a1, .int a2] M post := by
  refine zMet (by decide) (Nat.le_of_ble_eq_true rfl) ?_
  intro p e s m below meth c X hr hlk hml hW ls hl
  have hx := X.1
  have hb := X.2.1
  have hl : lv_has ls 3 [(0, .ref (zad w k)), (1, .int a1), (2, .int a2)] := hl
  unfold wp_Reader_readNumber at h
  have zMain : ∀ (H : Heap) (locs : List Loc) (ls : Array Slot), zWo w s.heap M H locs → lv_has ls 3 [(0, .ref (zad w k)), (1, .int a1), (2, .int a2)] → W p l e (zRm 6 128) s m ([.ref (zad w k), .int a1, .int a2] : List Value).toArray below meth c H locs 0 0 (MQ below (va_Qi post (zB w) (zA w)) ([.ref (zad w k), .int a1, .int a2] : List Value).toArray s 0 0 (zA w)) (F0 m 0 ls []) := by
    intro H locs ls hW hl
    refine lv_aload_n hx hb dX5_readNumber_0 rfl (lv_at hl 0 rfl) ?_
    refine zcalli (zrunV (As := []) (rest := []) X hml hl hW h0.1 rfl zk_Reader_51 (c_Reader_readToken h0 h) rfl ⟨Nat.le_of_ble_eq_true rfl, Nat.le_of_ble_eq_true rfl⟩ ⟨Nat.le_refl 0, Nat.le_refl 0⟩ rfl (Nat.le_of_ble_eq_true rfl) dX5_readNumber_1) hW (fun zr2 zm1 H locs h hW => ?_)
    refine lv_if_ne (tgt := 9) hx hb dX5_readNumber_4 rfl (fun c => ?_) (fun c => ?_)
    · replace h := h.1 c
      refine lv_aload_n hx hb dX5_readNumber_9 rfl (lv_at hl 0 rfl) ?_
      refine zg_Reader_kind X hW h0 zu_117 dX5_readNumber_10 ?_
      refine lv_iconst hx hb dX5_readNumber_13 zc_i2 ?_
      refine lv_icmp_eq (tgt := 27) hx hb dX5_readNumber_14 rfl (fun c => ?_) (fun c => ?_)
      · replace h := h.1 c
        refine lv_aload_n hx hb dX5_readNumber_27 rfl (lv_at hl 0 rfl) ?_
        refine lv_iload_n hx hb dX5_readNumber_28 rfl (lv_at hl 1 rfl) ?_
        refine lv_iload_n hx hb dX5_readNumber_29 rfl (lv_at hl 2 rfl) ?_
        refine zcalli (zrunV (As := [.int a1, .int a2]) (rest := []) X hml hl hW h0.1 rfl zk_Reader_140 (c_Reader_isWithin h0 h) rfl ⟨Nat.le_of_ble_eq_true rfl, Nat.le_of_ble_eq_true rfl⟩ ⟨Nat.le_refl 0, Nat.le_refl 0⟩ rfl (Nat.le_of_ble_eq_true rfl) dX5_readNumber_30) hW (fun zr4 zm3 H locs h hW => ?_)
        exact zretz X hr hlk hW (zbo_n h.1) h.2 dX5_readNumber_33
      · replace h := h.2 c
        refine lv_aload_n hx hb dX5_readNumber_17 rfl (lv_at hl 0 rfl) ?_
        refine lv_iconst hx hb dX5_readNumber_18 zc_i2 ?_
        refine lv_aload_n hx hb dX5_readNumber_19 rfl (lv_at hl 0 rfl) ?_
        refine zg_Reader_start X hW h0 zu_118 dX5_readNumber_20 ?_
        refine zcalli (zrunV (As := [.int 2, .int (zm1 k 8)]) (rest := []) X hml hl hW h0.1 rfl zk_Reader_73 (c_Reader_refuse h0 h) rfl ⟨Nat.le_of_ble_eq_true rfl, Nat.le_of_ble_eq_true rfl⟩ ⟨Nat.le_refl 0, Nat.le_refl 0⟩ rfl (Nat.le_of_ble_eq_true rfl) dX5_readNumber_23) hW (fun zr6 zm5 H locs h hW => ?_)
        exact zretz X hr hlk hW (zbo_n h.1) h.2 dX5_readNumber_26
    · replace h := h.2 c
      refine lv_iconst hx hb dX5_readNumber_7 zc_i0 ?_
      exact zretz X hr hlk hW rfl h dX5_readNumber_8
  exact zMain s.heap [] ls hW hl
def wp_Reader_isSign (k : Nat) (M : zMem) (Q : Int32 → zMem → Prop) : Prop :=
  ((M k 7) = 3 → Q 1 M) ∧ (¬ (M k 7) = 3 → wp_Reader_refuse k 2 (M k 8) M (fun zr2 zm1 => (zr2 = 0 → Q 0 zm1) ∧ (¬ zr2 = 0 → Q 1 zm1)))
set_option maxHeartbeats 4000000 in
set_option maxRecDepth 20000 in
theorem c_Reader_isSign {l : Launch} {w : zWd} {k : Nat} {M : zMem} {post : Int32 → zMem → Prop} (h0 : zI_Reader w k) (h : wp_Reader_isSign k M post) : zMi l ⟨"HandToHand$Reader", "isSign", "()Z"⟩ prog_7_method_18_code 1 (Option.some .boolean) 1 22 w [.ref (zad w k)] M post := by
  refine zMet (by decide) (Nat.le_of_ble_eq_true rfl) ?_
  intro p e s m below meth c X hr hlk hml hW ls hl
  have hx := X.1
  have hb := X.2.1
  have hl : lv_has ls 1 [(0, .ref (zad w k))] := hl
  unfold wp_Reader_isSign at h
  have zMain : ∀ (H : Heap) (locs : List Loc) (ls : Array Slot), zWo w s.heap M H locs → lv_has ls 1 [(0, .ref (zad w k))] → W p l e (zRm 1 22) s m ([.ref (zad w k)] : List Value).toArray below meth c H locs 0 0 (MQ below (va_Qi post (zB w) (zA w)) ([.ref (zad w k)] : List Value).toArray s 0 0 (zA w)) (F0 m 0 ls []) := by
    intro H locs ls hW hl
    refine lv_aload_n hx hb dX5_isSign_0 rfl (lv_at hl 0 rfl) ?_
    refine zg_Reader_kind X hW h0 zu_117 dX5_isSign_1 ?_
    refine lv_iconst hx hb dX5_isSign_4 zc_i3 ?_
    refine lv_icmp_eq (tgt := 20) hx hb dX5_isSign_5 rfl (fun c => ?_) (fun c => ?_)
    · replace h := h.1 c
      refine lv_iconst hx hb dX5_isSign_20 zc_i1 ?_
      refine lv_goto (tgt := 25) hx hb dX5_isSign_21 rfl ?_
      exact zretz X hr hlk hW rfl h dX5_isSign_25
    · replace h := h.2 c
      refine lv_aload_n hx hb dX5_isSign_8 rfl (lv_at hl 0 rfl) ?_
      refine lv_iconst hx hb dX5_isSign_9 zc_i2 ?_
      refine lv_aload_n hx hb dX5_isSign_10 rfl (lv_at hl 0 rfl) ?_
      refine zg_Reader_start X hW h0 zu_118 dX5_isSign_11 ?_
      refine zcalli (zrunV (As := [.int 2, .int (M k 8)]) (rest := []) X hml hl hW h0.1 rfl zk_Reader_73 (c_Reader_refuse h0 h) rfl ⟨Nat.le_of_ble_eq_true rfl, Nat.le_of_ble_eq_true rfl⟩ ⟨Nat.le_refl 0, Nat.le_refl 0⟩ rfl (Nat.le_of_ble_eq_true rfl) dX5_isSign_14) hW (fun zr2 zm1 H locs h hW => ?_)
      refine lv_if_eq (tgt := 24) hx hb dX5_isSign_17 rfl (fun c => ?_) (fun c => ?_)
      · replace h := h.1 c
        refine lv_iconst hx hb dX5_isSign_24 zc_i0 ?_
        exact zretz X hr hlk hW rfl h dX5_isSign_25
      · replace h := h.2 c
        refine lv_iconst hx hb dX5_isSign_20 zc_i1 ?_
        refine lv_goto (tgt := 25) hx hb dX5_isSign_21 rfl ?_
        exact zretz X hr hlk hW rfl h dX5_isSign_25
  exact zMain s.heap [] ls hW hl
def wp_Reader_readSign (k : Nat) (M : zMem) (Q : Int32 → zMem → Prop) : Prop :=
  wp_Reader_readToken k M (fun zr2 zm1 => (zr2 = 0 → Q 0 zm1) ∧ (¬ zr2 = 0 → wp_Reader_isSign k zm1 (fun zr4 zm3 => (zr4 = 0 → Q 0 zm3) ∧ (¬ zr4 = 0 → Q 1 zm3))))
set_option maxHeartbeats 4000000 in
set_option maxRecDepth 20000 in
theorem c_Reader_readSign {l : Launch} {w : zWd} {k : Nat} {M : zMem} {post : Int32 → zMem → Prop} (h0 : zI_Reader w k) (h : wp_Reader_readSign k M post) : zMi l ⟨"HandToHand$Reader", "readSign", "()Z"⟩ prog_7_method_17_code 1 (Option.some .boolean) 6 128 w [.ref (zad w k)] M post := by
  refine zMet (by decide) (Nat.le_of_ble_eq_true rfl) ?_
  intro p e s m below meth c X hr hlk hml hW ls hl
  have hx := X.1
  have hb := X.2.1
  have hl : lv_has ls 1 [(0, .ref (zad w k))] := hl
  unfold wp_Reader_readSign at h
  have zMain : ∀ (H : Heap) (locs : List Loc) (ls : Array Slot), zWo w s.heap M H locs → lv_has ls 1 [(0, .ref (zad w k))] → W p l e (zRm 6 128) s m ([.ref (zad w k)] : List Value).toArray below meth c H locs 0 0 (MQ below (va_Qi post (zB w) (zA w)) ([.ref (zad w k)] : List Value).toArray s 0 0 (zA w)) (F0 m 0 ls []) := by
    intro H locs ls hW hl
    refine lv_aload_n hx hb dX5_readSign_0 rfl (lv_at hl 0 rfl) ?_
    refine zcalli (zrunV (As := []) (rest := []) X hml hl hW h0.1 rfl zk_Reader_51 (c_Reader_readToken h0 h) rfl ⟨Nat.le_of_ble_eq_true rfl, Nat.le_of_ble_eq_true rfl⟩ ⟨Nat.le_refl 0, Nat.le_refl 0⟩ rfl (Nat.le_of_ble_eq_true rfl) dX5_readSign_1) hW (fun zr2 zm1 H locs h hW => ?_)
    refine lv_if_eq (tgt := 18) hx hb dX5_readSign_4 rfl (fun c => ?_) (fun c => ?_)
    · replace h := h.1 c
      refine lv_iconst hx hb dX5_readSign_18 zc_i0 ?_
      exact zretz X hr hlk hW rfl h dX5_readSign_19
    · replace h := h.2 c
      refine lv_aload_n hx hb dX5_readSign_7 rfl (lv_at hl 0 rfl) ?_
      refine zcalli (zrunV (As := []) (rest := []) X hml hl hW h0.1 rfl zk_Reader_146 (c_Reader_isSign h0 h) rfl ⟨Nat.le_of_ble_eq_true rfl, Nat.le_of_ble_eq_true rfl⟩ ⟨Nat.le_refl 0, Nat.le_refl 0⟩ rfl (Nat.le_of_ble_eq_true rfl) dX5_readSign_8) hW (fun zr4 zm3 H locs h hW => ?_)
      refine lv_if_eq (tgt := 18) hx hb dX5_readSign_11 rfl (fun c => ?_) (fun c => ?_)
      · replace h := h.1 c
        refine lv_iconst hx hb dX5_readSign_18 zc_i0 ?_
        exact zretz X hr hlk hW rfl h dX5_readSign_19
      · replace h := h.2 c
        refine lv_iconst hx hb dX5_readSign_14 zc_i1 ?_
        refine lv_goto (tgt := 19) hx hb dX5_readSign_15 rfl ?_
        exact zretz X hr hlk hW rfl h dX5_readSign_19
  exact zMain s.heap [] ls hW hl
def wp_Reader_readPiece (k : Nat) (M : zMem) (Q : Int32 → zMem → Prop) : Prop :=
  (¬ (M k 12) = 0 → wp_Reader_refuse k 5 (M k 8) M (fun zr2 zm1 => zbo zr2 ∧ Q zr2 zm1)) ∧ ((M k 12) = 0 → ((M (k + 1) 0) < 8 → wp_Reader_readNumber k 0 6 M (fun zr4 zm3 => (¬ zr4 = 0 → vp_in (zm3 (k + 1) 0) 24 ∧ ∀ zm5 : zMem, zm5 = zup zm3 (k + 3) (ix (zm3 (k + 1) 0)) (zm3 k 9) → ∀ zm6 : zMem, zm6 = zup zm5 (k + 1) 0 ((zm5 (k + 1) 0) + 1) → wp_Reader_readSign k zm6 (fun zr8 zm7 => zbo zr8 ∧ Q zr8 zm7)) ∧ (zr4 = 0 → Q 0 zm3))) ∧ (¬ (M (k + 1) 0) < 8 → wp_Reader_refuse k 5 (M k 8) M (fun zr10 zm9 => zbo zr10 ∧ Q zr10 zm9)))
set_option maxHeartbeats 4000000 in
set_option maxRecDepth 20000 in
theorem c_Reader_readPiece {l : Launch} {w : zWd} {k : Nat} {M : zMem} {post : Int32 → zMem → Prop} (h0 : zI_Reader w k) (h : wp_Reader_readPiece k M post) : zMi l ⟨"HandToHand$Reader", "readPiece", "()Z"⟩ prog_7_method_7_code 1 (Option.some .boolean) 7 150 w [.ref (zad w k)] M post := by
  refine zMet (by decide) (Nat.le_of_ble_eq_true rfl) ?_
  intro p e s m below meth c X hr hlk hml hW ls hl
  have hx := X.1
  have hb := X.2.1
  have hl : lv_has ls 1 [(0, .ref (zad w k))] := hl
  unfold wp_Reader_readPiece at h
  have zMain : ∀ (H : Heap) (locs : List Loc) (ls : Array Slot), zWo w s.heap M H locs → lv_has ls 1 [(0, .ref (zad w k))] → W p l e (zRm 7 150) s m ([.ref (zad w k)] : List Value).toArray below meth c H locs 0 0 (MQ below (va_Qi post (zB w) (zA w)) ([.ref (zad w k)] : List Value).toArray s 0 0 (zA w)) (F0 m 0 ls []) := by
    intro H locs ls hW hl
    refine lv_aload_n hx hb dX5_readPiece_0 rfl (lv_at hl 0 rfl) ?_
    refine zg_Reader_piecesClosed X hW h0 zu_122 dX5_readPiece_1 ?_
    refine lv_if_ne (tgt := 19) hx hb dX5_readPiece_4 rfl (fun c => ?_) (fun c => ?_)
    · replace h := h.1 c
      refine lv_aload_n hx hb dX5_readPiece_19 rfl (lv_at hl 0 rfl) ?_
      refine lv_iconst hx hb dX5_readPiece_20 zc_i5 ?_
      refine lv_aload_n hx hb dX5_readPiece_21 rfl (lv_at hl 0 rfl) ?_
      refine zg_Reader_start X hW h0 zu_118 dX5_readPiece_22 ?_
      refine zcalli (zrunV (As := [.int 5, .int (M k 8)]) (rest := []) X hml hl hW h0.1 rfl zk_Reader_73 (c_Reader_refuse h0 h) rfl ⟨Nat.le_of_ble_eq_true rfl, Nat.le_of_ble_eq_true rfl⟩ ⟨Nat.le_refl 0, Nat.le_refl 0⟩ rfl (Nat.le_of_ble_eq_true rfl) dX5_readPiece_25) hW (fun zr2 zm1 H locs h hW => ?_)
      exact zretz X hr hlk hW (zbo_n h.1) h.2 dX5_readPiece_28
    · replace h := h.2 c
      refine lv_aload_n hx hb dX5_readPiece_7 rfl (lv_at hl 0 rfl) ?_
      refine zg_Reader_draft X hW h0 zu_104 dX5_readPiece_8 ?_
      refine zg_Told_pieces X hW h0.2.2 zu_34 dX5_readPiece_11 ?_
      refine lv_bipush hx hb dX5_readPiece_14 zc_b8 ?_
      refine lv_icmp_lt (tgt := 29) hx hb dX5_readPiece_16 rfl (fun c => ?_) (fun c => ?_)
      · replace h := h.1 c
        refine lv_aload_n hx hb dX5_readPiece_29 rfl (lv_at hl 0 rfl) ?_
        refine lv_iconst hx hb dX5_readPiece_30 zc_i0 ?_
        refine lv_bipush hx hb dX5_readPiece_31 zc_b6 ?_
        refine zcalli (zrunV (As := [.int 0, .int 6]) (rest := []) X hml hl hW h0.1 rfl zk_Reader_131 (c_Reader_readNumber h0 h) rfl ⟨Nat.le_of_ble_eq_true rfl, Nat.le_of_ble_eq_true rfl⟩ ⟨Nat.le_refl 0, Nat.le_refl 0⟩ rfl (Nat.le_of_ble_eq_true rfl) dX5_readPiece_33) hW (fun zr4 zm3 H locs h hW => ?_)
        refine lv_if_ne (tgt := 41) hx hb dX5_readPiece_36 rfl (fun c => ?_) (fun c => ?_)
        · replace h := h.1 c
          refine lv_aload_n hx hb dX5_readPiece_41 rfl (lv_at hl 0 rfl) ?_
          refine zg_Reader_draft X hW h0 zu_104 dX5_readPiece_42 ?_
          refine zg_Told_units X hW h0.2.2 zu_64 dX5_readPiece_45 ?_
          refine lv_aload_n hx hb dX5_readPiece_48 rfl (lv_at hl 0 rfl) ?_
          refine zg_Reader_draft X hW h0 zu_104 dX5_readPiece_49 ?_
          refine zg_Told_pieces X hW h0.2.2 zu_34 dX5_readPiece_52 ?_
          refine lv_aload_n hx hb dX5_readPiece_55 rfl (lv_at hl 0 rfl) ?_
          refine zg_Reader_value X hW h0 zu_119 dX5_readPiece_56 ?_
          obtain ⟨g, h⟩ := h
          refine ziast X hW h0.2.2.2.2.1 g dX5_readPiece_59 (fun H locs zm5 ezm5 hW => ?_)
          replace h := h zm5 ezm5
          refine lv_aload_n hx hb dX5_readPiece_60 rfl (lv_at hl 0 rfl) ?_
          refine zg_Reader_draft X hW h0 zu_104 dX5_readPiece_61 ?_
          refine lv_dup hx hb dX5_readPiece_64 rfl ?_
          refine zg_Told_pieces X hW h0.2.2 zu_34 dX5_readPiece_65 ?_
          refine lv_iconst hx hb dX5_readPiece_68 zc_i1 ?_
          refine lv_iadd hx hb dX5_readPiece_69 ?_
          refine zp_Told_pieces X hW h0.2.2 zu_34 dX5_readPiece_70 (fun H locs zm6 ezm6 hW => ?_)
          replace h := h zm6 ezm6
          refine lv_aload_n hx hb dX5_readPiece_73 rfl (lv_at hl 0 rfl) ?_
          refine zcalli (zrunV (As := []) (rest := []) X hml hl hW h0.1 rfl zk_Reader_125 (c_Reader_readSign h0 h) rfl ⟨Nat.le_of_ble_eq_true rfl, Nat.le_of_ble_eq_true rfl⟩ ⟨Nat.le_refl 0, Nat.le_refl 0⟩ rfl (Nat.le_of_ble_eq_true rfl) dX5_readPiece_74) hW (fun zr8 zm7 H locs h hW => ?_)
          exact zretz X hr hlk hW (zbo_n h.1) h.2 dX5_readPiece_77
        · replace h := h.2 c
          refine lv_iconst hx hb dX5_readPiece_39 zc_i0 ?_
          exact zretz X hr hlk hW rfl h dX5_readPiece_40
      · replace h := h.2 c
        refine lv_aload_n hx hb dX5_readPiece_19 rfl (lv_at hl 0 rfl) ?_
        refine lv_iconst hx hb dX5_readPiece_20 zc_i5 ?_
        refine lv_aload_n hx hb dX5_readPiece_21 rfl (lv_at hl 0 rfl) ?_
        refine zg_Reader_start X hW h0 zu_118 dX5_readPiece_22 ?_
        refine zcalli (zrunV (As := [.int 5, .int (M k 8)]) (rest := []) X hml hl hW h0.1 rfl zk_Reader_73 (c_Reader_refuse h0 h) rfl ⟨Nat.le_of_ble_eq_true rfl, Nat.le_of_ble_eq_true rfl⟩ ⟨Nat.le_refl 0, Nat.le_refl 0⟩ rfl (Nat.le_of_ble_eq_true rfl) dX5_readPiece_25) hW (fun zr10 zm9 H locs h hW => ?_)
        exact zretz X hr hlk hW (zbo_n h.1) h.2 dX5_readPiece_28
  exact zMain s.heap [] ls hW hl
def wp_Reader_readWhole (k : Nat) (M : zMem) (Q : Int32 → zMem → Prop) : Prop :=
  wp_Reader_readNumber k 0 ((M (k + 1) 0) - 1) M (fun zr2 zm1 => (¬ zr2 = 0 → (¬ (((zm1 (k + 1) 5) >>> ((zm1 k 9) &&& 31)) &&& 1) = 1 → ∀ zm3 : zMem, zm3 = zup zm1 (k + 1) 5 ((zm1 (k + 1) 5) ||| (1 <<< ((zm1 k 9) &&& 31))) → wp_Reader_readSign k zm3 (fun zr5 zm4 => zbo zr5 ∧ Q zr5 zm4)) ∧ ((((zm1 (k + 1) 5) >>> ((zm1 k 9) &&& 31)) &&& 1) = 1 → wp_Reader_refuse k 4 (zm1 k 8) zm1 (fun zr7 zm6 => zbo zr7 ∧ Q zr7 zm6))) ∧ (zr2 = 0 → Q 0 zm1))
set_option maxHeartbeats 4000000 in
set_option maxRecDepth 20000 in
theorem c_Reader_readWhole {l : Launch} {w : zWd} {k : Nat} {M : zMem} {post : Int32 → zMem → Prop} (h0 : zI_Reader w k) (h : wp_Reader_readWhole k M post) : zMi l ⟨"HandToHand$Reader", "readWhole", "()Z"⟩ prog_7_method_8_code 1 (Option.some .boolean) 7 150 w [.ref (zad w k)] M post := by
  refine zMet (by decide) (Nat.le_of_ble_eq_true rfl) ?_
  intro p e s m below meth c X hr hlk hml hW ls hl
  have hx := X.1
  have hb := X.2.1
  have hl : lv_has ls 1 [(0, .ref (zad w k))] := hl
  unfold wp_Reader_readWhole at h
  have zMain : ∀ (H : Heap) (locs : List Loc) (ls : Array Slot), zWo w s.heap M H locs → lv_has ls 1 [(0, .ref (zad w k))] → W p l e (zRm 7 150) s m ([.ref (zad w k)] : List Value).toArray below meth c H locs 0 0 (MQ below (va_Qi post (zB w) (zA w)) ([.ref (zad w k)] : List Value).toArray s 0 0 (zA w)) (F0 m 0 ls []) := by
    intro H locs ls hW hl
    refine lv_aload_n hx hb dX5_readWhole_0 rfl (lv_at hl 0 rfl) ?_
    refine lv_iconst hx hb dX5_readWhole_1 zc_i0 ?_
    refine lv_aload_n hx hb dX5_readWhole_2 rfl (lv_at hl 0 rfl) ?_
    refine zg_Reader_draft X hW h0 zu_104 dX5_readWhole_3 ?_
    refine zg_Told_pieces X hW h0.2.2 zu_34 dX5_readWhole_6 ?_
    refine lv_iconst hx hb dX5_readWhole_9 zc_i1 ?_
    refine lv_isub hx hb dX5_readWhole_10 ?_
    refine zcalli (zrunV (As := [.int 0, .int ((M (k + 1) 0) - 1)]) (rest := []) X hml hl hW h0.1 rfl zk_Reader_131 (c_Reader_readNumber h0 h) rfl ⟨Nat.le_of_ble_eq_true rfl, Nat.le_of_ble_eq_true rfl⟩ ⟨Nat.le_refl 0, Nat.le_refl 0⟩ rfl (Nat.le_of_ble_eq_true rfl) dX5_readWhole_11) hW (fun zr2 zm1 H locs h hW => ?_)
    refine lv_if_ne (tgt := 19) hx hb dX5_readWhole_14 rfl (fun c => ?_) (fun c => ?_)
    · replace h := h.1 c
      refine lv_aload_n hx hb dX5_readWhole_19 rfl (lv_at hl 0 rfl) ?_
      refine zg_Reader_draft X hW h0 zu_104 dX5_readWhole_20 ?_
      refine zg_Told_whole X hW h0.2.2 zu_54 dX5_readWhole_23 ?_
      refine lv_aload_n hx hb dX5_readWhole_26 rfl (lv_at hl 0 rfl) ?_
      refine zg_Reader_value X hW h0 zu_119 dX5_readWhole_27 ?_
      refine lv_ishr hx hb dX5_readWhole_30 ?_
      refine lv_iconst hx hb dX5_readWhole_31 zc_i1 ?_
      refine lv_iand hx hb dX5_readWhole_32 ?_
      refine lv_iconst hx hb dX5_readWhole_33 zc_i1 ?_
      refine lv_icmp_ne (tgt := 47) hx hb dX5_readWhole_34 rfl (fun c => ?_) (fun c => ?_)
      · replace h := h.1 c
        refine lv_aload_n hx hb dX5_readWhole_47 rfl (lv_at hl 0 rfl) ?_
        refine zg_Reader_draft X hW h0 zu_104 dX5_readWhole_48 ?_
        refine lv_dup hx hb dX5_readWhole_51 rfl ?_
        refine zg_Told_whole X hW h0.2.2 zu_54 dX5_readWhole_52 ?_
        refine lv_iconst hx hb dX5_readWhole_55 zc_i1 ?_
        refine lv_aload_n hx hb dX5_readWhole_56 rfl (lv_at hl 0 rfl) ?_
        refine zg_Reader_value X hW h0 zu_119 dX5_readWhole_57 ?_
        refine lv_ishl hx hb dX5_readWhole_60 ?_
        refine lv_ior hx hb dX5_readWhole_61 ?_
        refine zp_Told_whole X hW h0.2.2 zu_54 dX5_readWhole_62 (fun H locs zm3 ezm3 hW => ?_)
        replace h := h zm3 ezm3
        refine lv_aload_n hx hb dX5_readWhole_65 rfl (lv_at hl 0 rfl) ?_
        refine zcalli (zrunV (As := []) (rest := []) X hml hl hW h0.1 rfl zk_Reader_125 (c_Reader_readSign h0 h) rfl ⟨Nat.le_of_ble_eq_true rfl, Nat.le_of_ble_eq_true rfl⟩ ⟨Nat.le_refl 0, Nat.le_refl 0⟩ rfl (Nat.le_of_ble_eq_true rfl) dX5_readWhole_66) hW (fun zr5 zm4 H locs h hW => ?_)
        exact zretz X hr hlk hW (zbo_n h.1) h.2 dX5_readWhole_69
      · replace h := h.2 c
        refine lv_aload_n hx hb dX5_readWhole_37 rfl (lv_at hl 0 rfl) ?_
        refine lv_iconst hx hb dX5_readWhole_38 zc_i4 ?_
        refine lv_aload_n hx hb dX5_readWhole_39 rfl (lv_at hl 0 rfl) ?_
        refine zg_Reader_start X hW h0 zu_118 dX5_readWhole_40 ?_
        refine zcalli (zrunV (As := [.int 4, .int (zm1 k 8)]) (rest := []) X hml hl hW h0.1 rfl zk_Reader_73 (c_Reader_refuse h0 h) rfl ⟨Nat.le_of_ble_eq_true rfl, Nat.le_of_ble_eq_true rfl⟩ ⟨Nat.le_refl 0, Nat.le_refl 0⟩ rfl (Nat.le_of_ble_eq_true rfl) dX5_readWhole_43) hW (fun zr7 zm6 H locs h hW => ?_)
        exact zretz X hr hlk hW (zbo_n h.1) h.2 dX5_readWhole_46
    · replace h := h.2 c
      refine lv_iconst hx hb dX5_readWhole_17 zc_i0 ?_
      exact zretz X hr hlk hW rfl h dX5_readWhole_18
  exact zMain s.heap [] ls hW hl
