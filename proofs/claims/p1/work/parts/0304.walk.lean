def wpB_Bench_mostStoodAt_4 (k : Nat)   (Q : Int32 → zMem → Prop) (J : Int32 → Int32 → zMem → Prop) (x_1 : Int32) (x_2 : Int32) (M : zMem) : Prop :=
  ((M (ztc (M k 0)) 0) ≤ x_2 → vp_in x_1 8 ∧ ((M (k + 8) (ix x_1)) ≤ 0 → Q ((-4)) M) ∧ (¬ (M (k + 8) (ix x_1)) ≤ 0 → Q x_1 M)) ∧ (¬ (M (ztc (M k 0)) 0) ≤ x_2 → vp_in x_2 8 ∧ vp_in x_1 8 ∧ ((M (k + 8) (ix x_2)) ≤ (M (k + 8) (ix x_1)) → ∀ zx1 : Int32, zx1 = x_2 + 1 → J x_1 zx1 M) ∧ (¬ (M (k + 8) (ix x_2)) ≤ (M (k + 8) (ix x_1)) → ∀ zx2 : Int32, zx2 = x_2 + 1 → J x_2 zx2 M))
def wp_Bench_mostStoodAt (k : Nat) (M : zMem) (Q : Int32 → zMem → Prop) : Prop :=
  ∃ n : Nat, zlp2 (wpB_Bench_mostStoodAt_4 k   Q) n 0 1 M
set_option maxHeartbeats 4000000 in
set_option maxRecDepth 20000 in
theorem c_Bench_mostStoodAt {l : Launch} {w : zWd} {k : Nat} {M : zMem} {post : Int32 → zMem → Prop} (h0 : zI_Bench w k) (h : wp_Bench_mostStoodAt k M post) : zMi l ⟨"HandToHand$Bench", "mostStoodAt", "()I"⟩ prog_2_method_18_code 3 (Option.some .int) 0 0 w [.ref (zad w k)] M post := by
  refine zMet (by decide) (Nat.le_of_ble_eq_true rfl) ?_
  intro p e s m below meth c X hr hlk hml hW ls hl
  have hx := X.1
  have hb := X.2.1
  have hl : lv_has ls 3 [(0, .ref (zad w k))] := hl
  have zL_4 :  ∀ (n : Nat) (x_1 : Int32) (x_2 : Int32) (M : zMem) (H : Heap) (locs : List Loc) (ls : Array Slot), zWo w s.heap M H locs → lv_has ls 3 [(0, .ref (zad w k)), (1, .int x_1), (2, .int x_2)] → zlp2 (wpB_Bench_mostStoodAt_4 k   post) n x_1 x_2 M → W p l e (zRm 0 0) s m ([.ref (zad w k)] : List Value).toArray below meth c H locs 0 0 (MQ below (va_Qi post (zB w) (zA w)) ([.ref (zad w k)] : List Value).toArray s 0 0 (zA w)) (F0 m 4 ls []) := by
    intro n
    induction n with
    | zero => intro x_1 x_2 M H locs ls hW hl h; exact h.elim
    | succ n zJ =>
      intro x_1 x_2 M H locs ls hW hl h
      have h : wpB_Bench_mostStoodAt_4 k   post (zlp2 (wpB_Bench_mostStoodAt_4 k   post) n) x_1 x_2 M := h
      unfold wpB_Bench_mostStoodAt_4 at h
      refine lv_iload_n hx hb dX0_mostStoodAt_4 rfl (lv_at hl 2 rfl) ?_
      refine lv_aload_n hx hb dX0_mostStoodAt_5 rfl (lv_at hl 0 rfl) ?_
      refine zg_Bench_told X hW h0 zu_160 dX0_mostStoodAt_6 ?_
      refine zg_Told_pieces X hW (h0.2.2.2.2.2.2.2.2.2.1 _) zu_36 dX0_mostStoodAt_9 ?_
      refine lv_icmp_ge (tgt := 38) hx hb dX0_mostStoodAt_12 rfl (fun c => ?_) (fun c => ?_)
      · replace h := h.1 c
        refine lv_aload_n hx hb dX0_mostStoodAt_38 rfl (lv_at hl 0 rfl) ?_
        refine zg_Bench_stood X hW h0 zu_190 dX0_mostStoodAt_39 ?_
        refine lv_iload_n hx hb dX0_mostStoodAt_42 rfl (lv_at hl 1 rfl) ?_
        obtain ⟨g, h⟩ := h
        refine ziald X hW h0.2.2.2.2.2.2.2.2.1 g dX0_mostStoodAt_43 ?_
        refine lv_if_le (tgt := 51) hx hb dX0_mostStoodAt_44 rfl (fun c => ?_) (fun c => ?_)
        · replace h := h.1 c
          refine lv_bipush hx hb dX0_mostStoodAt_51 zc_bm4 ?_
          exact zreti X hr hlk hW h dX0_mostStoodAt_53
        · replace h := h.2 c
          refine lv_iload_n hx hb dX0_mostStoodAt_47 rfl (lv_at hl 1 rfl) ?_
          refine lv_goto (tgt := 53) hx hb dX0_mostStoodAt_48 rfl ?_
          exact zreti X hr hlk hW h dX0_mostStoodAt_53
      · replace h := h.2 c
        refine lv_aload_n hx hb dX0_mostStoodAt_15 rfl (lv_at hl 0 rfl) ?_
        refine zg_Bench_stood X hW h0 zu_190 dX0_mostStoodAt_16 ?_
        refine lv_iload_n hx hb dX0_mostStoodAt_19 rfl (lv_at hl 2 rfl) ?_
        obtain ⟨g, h⟩ := h
        refine ziald X hW h0.2.2.2.2.2.2.2.2.1 g dX0_mostStoodAt_20 ?_
        refine lv_aload_n hx hb dX0_mostStoodAt_21 rfl (lv_at hl 0 rfl) ?_
        refine zg_Bench_stood X hW h0 zu_190 dX0_mostStoodAt_22 ?_
        refine lv_iload_n hx hb dX0_mostStoodAt_25 rfl (lv_at hl 1 rfl) ?_
        obtain ⟨g, h⟩ := h
        refine ziald X hW h0.2.2.2.2.2.2.2.2.1 g dX0_mostStoodAt_26 ?_
        refine lv_icmp_le (tgt := 32) hx hb dX0_mostStoodAt_27 rfl (fun c => ?_) (fun c => ?_)
        · replace h := h.1 c
          obtain ⟨zx1, ezx1⟩ : ∃ y : Int32, y = x_2 + 1 := ⟨_, rfl⟩
          replace h := h zx1 ezx1
          refine lv_iinc (v := zx1) (lv' := [(2, .int zx1), (0, .ref (zad w k)), (1, .int x_1)]) hx hb dX0_mostStoodAt_32 hl (k := 2) rfl (by rw [ezx1, zc_i1]) (Nat.le_of_ble_eq_true rfl) rfl (fun ls hl => ?_)
          refine lv_goto (tgt := 4) hx hb dX0_mostStoodAt_35 rfl ?_
          exact zJ x_1 zx1 M H locs ls hW (lv_sub hl [1, 2, 0] rfl) h
        · replace h := h.2 c
          refine lv_iload_n hx hb dX0_mostStoodAt_30 rfl (lv_at hl 2 rfl) ?_
          refine lv_istore_n (lv' := [(1, .int x_2), (0, .ref (zad w k)), (2, .int x_2)]) hx hb dX0_mostStoodAt_31 rfl hl (Nat.le_of_ble_eq_true rfl) rfl (fun ls hl => ?_)
          obtain ⟨zx2, ezx2⟩ : ∃ y : Int32, y = x_2 + 1 := ⟨_, rfl⟩
          replace h := h zx2 ezx2
          refine lv_iinc (v := zx2) (lv' := [(2, .int zx2), (1, .int x_2), (0, .ref (zad w k))]) hx hb dX0_mostStoodAt_32 hl (k := 2) rfl (by rw [ezx2, zc_i1]) (Nat.le_of_ble_eq_true rfl) rfl (fun ls hl => ?_)
          refine lv_goto (tgt := 4) hx hb dX0_mostStoodAt_35 rfl ?_
          exact zJ x_2 zx2 M H locs ls hW (lv_sub hl [2, 1, 0] rfl) h
  unfold wp_Bench_mostStoodAt at h
  have zMain : ∀ (H : Heap) (locs : List Loc) (ls : Array Slot), zWo w s.heap M H locs → lv_has ls 3 [(0, .ref (zad w k))] → W p l e (zRm 0 0) s m ([.ref (zad w k)] : List Value).toArray below meth c H locs 0 0 (MQ below (va_Qi post (zB w) (zA w)) ([.ref (zad w k)] : List Value).toArray s 0 0 (zA w)) (F0 m 0 ls []) := by
    intro H locs ls hW hl
    refine lv_iconst hx hb dX0_mostStoodAt_0 zc_i0 ?_
    refine lv_istore_n (lv' := [(1, .int 0), (0, .ref (zad w k))]) hx hb dX0_mostStoodAt_1 rfl hl (Nat.le_of_ble_eq_true rfl) rfl (fun ls hl => ?_)
    refine lv_iconst hx hb dX0_mostStoodAt_2 zc_i1 ?_
    refine lv_istore_n (lv' := [(2, .int 1), (1, .int 0), (0, .ref (zad w k))]) hx hb dX0_mostStoodAt_3 rfl hl (Nat.le_of_ble_eq_true rfl) rfl (fun ls hl => ?_)
    obtain ⟨n, h⟩ := h
    refine zL_4   n 0 1 M H locs ls hW (lv_sub hl [2, 1, 0] rfl) h
  exact zMain s.heap [] ls hW hl
