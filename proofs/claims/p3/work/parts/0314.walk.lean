def wpB_Main_read_116 (a1 : Int32) (a2 : Int32) (a3 : Int32) (a4 : Int32) (a5 : Int32) (x_6 : Nat) (x_7 : Int32) (x_8 : Int32) (K156 : zMem → Prop) (Q : Int32 → zMem → Prop) (J : Int32 → zMem → Prop) (x_9 : Int32) (M : zMem) : Prop :=
  (x_8 ≤ x_9 → K156 M) ∧ (¬ x_8 ≤ x_9 → wp_Main_hasPacesAlone x_6 (a3 + (x_9 * (M 1 0))) M (fun zr10 zm9 => (¬ zr10 = 0 → ∀ zx11 : Int32, zx11 = x_9 + 1 → J zx11 zm9) ∧ (zr10 = 0 → Q (((-20)) - x_9) zm9)))
def wpB_Main_read_159 (a1 : Int32) (a2 : Int32) (a3 : Int32) (a4 : Int32) (a5 : Int32) (x_6 : Nat) (x_7 : Int32) (x_8 : Int32)  (Q : Int32 → zMem → Prop) (J : Int32 → zMem → Prop) (x_9 : Int32) (M : zMem) : Prop :=
  (x_8 ≤ x_9 → ∀ zm13 : zMem, zm13 = zup M 0 13 x_7 → (x_8 ≤ 0 → Q x_8 zm13) ∧ (¬ x_8 ≤ 0 → wp_Main_forgetAnswers zm13 (fun zm14 => Q x_8 zm14))) ∧ (¬ x_8 ≤ x_9 → wp_Main_copyPaces x_6 (a3 + (x_9 * (M 1 0))) (a4 + x_9) M (fun zm16 => ∀ zx18 : Int32, zx18 = x_9 + 1 → J zx18 zm16))
def wpJ_Main_read_70 (a1 : Int32) (a2 : Int32) (a3 : Int32) (a4 : Int32) (a5 : Int32)  (Q : Int32 → zMem → Prop) (x_6 : Nat) (s_0 : Int32) (M : zMem) : Prop :=
  (s_0 = 0 → wp_Sheet_wholeRows x_6 a3 (M 1 0) a5 M (fun zr8 zm7 => (¬ s_0 = 0 → ∃ n : Nat, zlp1 (wpB_Main_read_116 a1 a2 a3 a4 a5 x_6 s_0 zr8 (fun (zm12 : zMem) => ∃ n : Nat, zlp1 (wpB_Main_read_159 a1 a2 a3 a4 a5 x_6 s_0 zr8  Q) n 0 zm12) Q) n 0 zm7) ∧ (s_0 = 0 → (a5 ≤ zr8 → ∃ n : Nat, zlp1 (wpB_Main_read_116 a1 a2 a3 a4 a5 x_6 s_0 zr8 (fun (zm19 : zMem) => ∃ n : Nat, zlp1 (wpB_Main_read_159 a1 a2 a3 a4 a5 x_6 s_0 zr8  Q) n 0 zm19) Q) n 0 zm7) ∧ (¬ a5 ≤ zr8 → ∃ n : Nat, zlp1 (wpB_Main_read_116 a1 a2 a3 a4 a5 x_6 2 zr8 (fun (zm20 : zMem) => ∃ n : Nat, zlp1 (wpB_Main_read_159 a1 a2 a3 a4 a5 x_6 2 zr8  Q) n 0 zm20) Q) n 0 zm7)))) ∧ (¬ s_0 = 0 → (¬ s_0 = 0 → ∃ n : Nat, zlp1 (wpB_Main_read_116 a1 a2 a3 a4 a5 x_6 s_0 0 (fun (zm21 : zMem) => ∃ n : Nat, zlp1 (wpB_Main_read_159 a1 a2 a3 a4 a5 x_6 s_0 0  Q) n 0 zm21) Q) n 0 M) ∧ (s_0 = 0 → (a5 ≤ (0 : Int32) → ∃ n : Nat, zlp1 (wpB_Main_read_116 a1 a2 a3 a4 a5 x_6 s_0 0 (fun (zm22 : zMem) => ∃ n : Nat, zlp1 (wpB_Main_read_159 a1 a2 a3 a4 a5 x_6 s_0 0  Q) n 0 zm22) Q) n 0 M) ∧ (¬ a5 ≤ (0 : Int32) → ∃ n : Nat, zlp1 (wpB_Main_read_116 a1 a2 a3 a4 a5 x_6 2 0 (fun (zm23 : zMem) => ∃ n : Nat, zlp1 (wpB_Main_read_159 a1 a2 a3 a4 a5 x_6 2 0  Q) n 0 zm23) Q) n 0 M)))
def wp_Main_read (a1 : Int32) (a2 : Int32) (a3 : Int32) (a4 : Int32) (a5 : Int32) (M : zMem) (Q : Int32 → zMem → Prop) : Prop :=
  wp_Main_isSheet a1 M (fun zr2 zm1 => (zr2 = 0 → Q ((-1)) zm1) ∧ (¬ zr2 = 0 → wp_Main_isLane a2 zm1 (fun zr4 zm3 => (zr4 = 0 → Q ((-1)) zm3) ∧ (¬ zr4 = 0 → (a4 < 0 → Q ((-1)) zm3) ∧ (¬ a4 < 0 → (a5 < 0 → Q ((-1)) zm3) ∧ (¬ a5 < 0 → (5 < a5 → Q ((-1)) zm3) ∧ (¬ 5 < a5 → (a4 ≤ ((zm3 1 1) - a5) → vp_in a1 4 ∧ (¬ a5 = 0 → wp_Sheet_faultAs (81 + 2 * ix a1) a2 zm3 (fun zr6 zm5 => wpJ_Main_read_70 a1 a2 a3 a4 a5 Q (81 + 2 * ix a1) zr6 zm5)) ∧ (a5 = 0 → wpJ_Main_read_70 a1 a2 a3 a4 a5 Q (81 + 2 * ix a1) 0 zm3)) ∧ (¬ a4 ≤ ((zm3 1 1) - a5) → Q ((-1)) zm3))))))))
set_option maxHeartbeats 4000000 in
set_option maxRecDepth 20000 in
theorem c_Main_read {l : Launch} {w : zWd} {a1 : Int32} {a2 : Int32} {a3 : Int32} {a4 : Int32} {a5 : Int32} {M : zMem} {post : Int32 → zMem → Prop} (h0 : zI_Main w) (h : wp_Main_read a1 a2 a3 a4 a5 M post) : zMi l ⟨"HandToHand", "read", "(IIIII)I"⟩ prog_1_method_34_code 10 (Option.some .int) 2 43 w [.ref (zad w 0), .int a1, .int a2, .int a3, .int a4, .int a5] M post := by
  refine zMet (by decide) (Nat.le_of_ble_eq_true rfl) ?_
  intro p e s m below meth c X hr hlk hml hW ls hl
  have hx := X.1
  have hb := X.2.1
  have hl : lv_has ls 10 [(0, .ref (zad w 0)), (1, .int a1), (2, .int a2), (3, .int a3), (4, .int a4), (5, .int a5)] := hl
  have zL_116 : ∀ (x_6 : Nat) (hx_6 : zI_Sheet w x_6) (x_7 : Int32) (x_8 : Int32) (K156 : zMem → Prop) (zK156 : ∀ (M : zMem) (H : Heap) (locs : List Loc) (ls : Array Slot), zWo w s.heap M H locs → lv_has ls 10 [(0, .ref (zad w 0)), (3, .int a3), (4, .int a4), (6, .ref (zad w x_6)), (7, .int x_7), (8, .int x_8)] → K156 M → W p l e (zRm 2 43) s m ([.ref (zad w 0), .int a1, .int a2, .int a3, .int a4, .int a5] : List Value).toArray below meth c H locs 0 0 (MQ below (va_Qi post (zB w) (zA w)) ([.ref (zad w 0), .int a1, .int a2, .int a3, .int a4, .int a5] : List Value).toArray s 0 0 (zA w)) (F0 m 156 ls [])), ∀ (n : Nat) (x_9 : Int32) (M : zMem) (H : Heap) (locs : List Loc) (ls : Array Slot), zWo w s.heap M H locs → lv_has ls 10 [(0, .ref (zad w 0)), (3, .int a3), (4, .int a4), (6, .ref (zad w x_6)), (7, .int x_7), (8, .int x_8), (9, .int x_9)] → zlp1 (wpB_Main_read_116 a1 a2 a3 a4 a5 x_6 x_7 x_8 K156 post) n x_9 M → W p l e (zRm 2 43) s m ([.ref (zad w 0), .int a1, .int a2, .int a3, .int a4, .int a5] : List Value).toArray below meth c H locs 0 0 (MQ below (va_Qi post (zB w) (zA w)) ([.ref (zad w 0), .int a1, .int a2, .int a3, .int a4, .int a5] : List Value).toArray s 0 0 (zA w)) (F0 m 116 ls []) := by
    intro x_6 hx_6 x_7 x_8 K156 zK156 n
    induction n with
    | zero => intro x_9 M H locs ls hW hl h; exact h.elim
    | succ n zJ =>
      intro x_9 M H locs ls hW hl h
      have h : wpB_Main_read_116 a1 a2 a3 a4 a5 x_6 x_7 x_8 K156 post (zlp1 (wpB_Main_read_116 a1 a2 a3 a4 a5 x_6 x_7 x_8 K156 post) n) x_9 M := h
      unfold wpB_Main_read_116 at h
      refine lv_iload hx hb dX10_read_116 (lv_at hl 6 rfl) ?_
      refine lv_iload hx hb dX10_read_118 (lv_at hl 5 rfl) ?_
      refine lv_icmp_ge (tgt := 156) hx hb dX10_read_120 rfl (fun c => ?_) (fun c => ?_)
      · replace h := h.1 c
        exact zK156 M H locs ls hW (lv_sub hl [0, 1, 2, 3, 4, 5] rfl) h
      · replace h := h.2 c
        refine lv_aload_n hx hb dX10_read_123 rfl (lv_at hl 0 rfl) ?_
        refine lv_aload hx hb dX10_read_124 (lv_at hl 3 rfl) ?_
        refine lv_iload_n hx hb dX10_read_126 rfl (lv_at hl 1 rfl) ?_
        refine lv_iload hx hb dX10_read_127 (lv_at hl 6 rfl) ?_
        refine lv_aload_n hx hb dX10_read_129 rfl (lv_at hl 0 rfl) ?_
        refine zg_Main_told X hW h0 zu_467 dX10_read_130 ?_
        refine zg_Told_pieces X hW h0.2.2.2.2.1 zu_35 dX10_read_133 ?_
        refine lv_imul hx hb dX10_read_136 ?_
        refine lv_iadd hx hb dX10_read_137 ?_
        refine zcalli (zrunV (As := [.ref (zad w x_6), .int (a3 + (x_9 * (M 1 0)))]) (rest := []) X hml hl hW h0.1 rfl zk_Main_359 (c_Main_hasPacesAlone h0 hx_6 h) rfl ⟨Nat.le_of_ble_eq_true rfl, Nat.le_of_ble_eq_true rfl⟩ ⟨Nat.le_refl 0, Nat.le_refl 0⟩ rfl (Nat.le_of_ble_eq_true rfl) dX10_read_138) hW (fun zr10 zm9 H locs h hW => ?_)
        refine lv_if_ne (tgt := 150) hx hb dX10_read_141 rfl (fun c => ?_) (fun c => ?_)
        · replace h := h.1 c
          obtain ⟨zx11, ezx11⟩ : ∃ y : Int32, y = x_9 + 1 := ⟨_, rfl⟩
          replace h := h zx11 ezx11
          refine lv_iinc (v := zx11) (lv' := [(9, .int zx11), (0, .ref (zad w 0)), (3, .int a3), (4, .int a4), (6, .ref (zad w x_6)), (7, .int x_7), (8, .int x_8)]) hx hb dX10_read_150 hl (k := 6) rfl (by rw [ezx11, zc_i1]) (Nat.le_of_ble_eq_true rfl) rfl (fun ls hl => ?_)
          refine lv_goto (tgt := 116) hx hb dX10_read_153 rfl ?_
          exact zJ zx11 zm9 H locs ls hW (lv_sub hl [1, 2, 3, 4, 5, 6, 0] rfl) h
        · replace h := h.2 c
          refine lv_bipush hx hb dX10_read_144 zc_bm20 ?_
          refine lv_iload hx hb dX10_read_146 (lv_at hl 6 rfl) ?_
          refine lv_isub hx hb dX10_read_148 ?_
          exact zreti X hr hlk hW h dX10_read_149
  have zL_159 : ∀ (x_6 : Nat) (hx_6 : zI_Sheet w x_6) (x_7 : Int32) (x_8 : Int32), ∀ (n : Nat) (x_9 : Int32) (M : zMem) (H : Heap) (locs : List Loc) (ls : Array Slot), zWo w s.heap M H locs → lv_has ls 10 [(0, .ref (zad w 0)), (3, .int a3), (4, .int a4), (6, .ref (zad w x_6)), (7, .int x_7), (8, .int x_8), (9, .int x_9)] → zlp1 (wpB_Main_read_159 a1 a2 a3 a4 a5 x_6 x_7 x_8  post) n x_9 M → W p l e (zRm 2 43) s m ([.ref (zad w 0), .int a1, .int a2, .int a3, .int a4, .int a5] : List Value).toArray below meth c H locs 0 0 (MQ below (va_Qi post (zB w) (zA w)) ([.ref (zad w 0), .int a1, .int a2, .int a3, .int a4, .int a5] : List Value).toArray s 0 0 (zA w)) (F0 m 159 ls []) := by
    intro x_6 hx_6 x_7 x_8 n
    induction n with
    | zero => intro x_9 M H locs ls hW hl h; exact h.elim
    | succ n zJ =>
      intro x_9 M H locs ls hW hl h
      have h : wpB_Main_read_159 a1 a2 a3 a4 a5 x_6 x_7 x_8  post (zlp1 (wpB_Main_read_159 a1 a2 a3 a4 a5 x_6 x_7 x_8  post) n) x_9 M := h
      unfold wpB_Main_read_159 at h
      refine lv_iload hx hb dX10_read_159 (lv_at hl 6 rfl) ?_
      refine lv_iload hx hb dX10_read_161 (lv_at hl 5 rfl) ?_
      refine lv_icmp_ge (tgt := 195) hx hb dX10_read_163 rfl (fun c => ?_) (fun c => ?_)
      · replace h := h.1 c
        refine lv_aload_n hx hb dX10_read_195 rfl (lv_at hl 0 rfl) ?_
        refine lv_iload hx hb dX10_read_196 (lv_at hl 4 rfl) ?_
        refine zp_Main_latestTorn X hW h0 zu_480 dX10_read_198 (fun H locs zm13 ezm13 hW => ?_)
        replace h := h zm13 ezm13
        refine lv_iload hx hb dX10_read_201 (lv_at hl 5 rfl) ?_
        refine lv_if_le (tgt := 210) hx hb dX10_read_203 rfl (fun c => ?_) (fun c => ?_)
        · replace h := h.1 c
          refine lv_iload hx hb dX10_read_210 (lv_at hl 5 rfl) ?_
          exact zreti X hr hlk hW h dX10_read_212
        · replace h := h.2 c
          refine lv_aload_n hx hb dX10_read_206 rfl (lv_at hl 0 rfl) ?_
          refine zcallv (zrunV (As := []) (rest := []) X hml hl hW h0.1 rfl zk_Main_120 (c_Main_forgetAnswers h0 h) rfl ⟨Nat.le_of_ble_eq_true rfl, Nat.le_of_ble_eq_true rfl⟩ ⟨Nat.le_refl 0, Nat.le_refl 0⟩ rfl (Nat.le_of_ble_eq_true rfl) dX10_read_207) hW (fun zm14 H locs h hW => ?_)
          refine lv_iload hx hb dX10_read_210 (lv_at hl 5 rfl) ?_
          exact zreti X hr hlk hW h dX10_read_212
      · replace h := h.2 c
        refine lv_aload_n hx hb dX10_read_166 rfl (lv_at hl 0 rfl) ?_
        refine lv_aload hx hb dX10_read_167 (lv_at hl 3 rfl) ?_
        refine lv_iload_n hx hb dX10_read_169 rfl (lv_at hl 1 rfl) ?_
        refine lv_iload hx hb dX10_read_170 (lv_at hl 6 rfl) ?_
        refine lv_aload_n hx hb dX10_read_172 rfl (lv_at hl 0 rfl) ?_
        refine zg_Main_told X hW h0 zu_467 dX10_read_173 ?_
        refine zg_Told_pieces X hW h0.2.2.2.2.1 zu_35 dX10_read_176 ?_
        refine lv_imul hx hb dX10_read_179 ?_
        refine lv_iadd hx hb dX10_read_180 ?_
        refine lv_iload hx hb dX10_read_181 (lv_at hl 2 rfl) ?_
        refine lv_iload hx hb dX10_read_183 (lv_at hl 6 rfl) ?_
        refine lv_iadd hx hb dX10_read_185 ?_
        refine zcallv (zrunV (As := [.ref (zad w x_6), .int (a3 + (x_9 * (M 1 0))), .int (a4 + x_9)]) (rest := []) X hml hl hW h0.1 rfl zk_Main_363 (c_Main_copyPaces h0 hx_6 h) rfl ⟨Nat.le_of_ble_eq_true rfl, Nat.le_of_ble_eq_true rfl⟩ ⟨Nat.le_refl 0, Nat.le_refl 0⟩ rfl (Nat.le_of_ble_eq_true rfl) dX10_read_186) hW (fun zm16 H locs h hW => ?_)
        obtain ⟨zx18, ezx18⟩ : ∃ y : Int32, y = x_9 + 1 := ⟨_, rfl⟩
        replace h := h zx18 ezx18
        refine lv_iinc (v := zx18) (lv' := [(9, .int zx18), (0, .ref (zad w 0)), (3, .int a3), (4, .int a4), (6, .ref (zad w x_6)), (7, .int x_7), (8, .int x_8)]) hx hb dX10_read_189 hl (k := 6) rfl (by rw [ezx18, zc_i1]) (Nat.le_of_ble_eq_true rfl) rfl (fun ls hl => ?_)
        refine lv_goto (tgt := 159) hx hb dX10_read_192 rfl ?_
        exact zJ zx18 zm16 H locs ls hW (lv_sub hl [1, 2, 3, 4, 5, 6, 0] rfl) h
  have zJ_70 : ∀ (x_6 : Nat) (hx_6 : zI_Sheet w x_6) (s_0 : Int32) (M : zMem) (H : Heap) (locs : List Loc) (ls : Array Slot), zWo w s.heap M H locs → lv_has ls 10 [(0, .ref (zad w 0)), (3, .int a3), (4, .int a4), (5, .int a5), (6, .ref (zad w x_6))] → wpJ_Main_read_70 a1 a2 a3 a4 a5 post x_6 s_0 M → W p l e (zRm 2 43) s m ([.ref (zad w 0), .int a1, .int a2, .int a3, .int a4, .int a5] : List Value).toArray below meth c H locs 0 0 (MQ below (va_Qi post (zB w) (zA w)) ([.ref (zad w 0), .int a1, .int a2, .int a3, .int a4, .int a5] : List Value).toArray s 0 0 (zA w)) (F0 m 70 ls [.int s_0]) := by
    intro x_6 hx_6 s_0 M H locs ls hW hl h
    unfold wpJ_Main_read_70 at h
    refine lv_istore (lv' := [(7, .int s_0), (0, .ref (zad w 0)), (3, .int a3), (4, .int a4), (5, .int a5), (6, .ref (zad w x_6))]) hx hb dX10_read_70 hl (Nat.le_of_ble_eq_true rfl) rfl (fun ls hl => ?_)
    refine lv_iload hx hb dX10_read_72 (lv_at hl 0 rfl) ?_
    refine lv_if_eq (tgt := 81) hx hb dX10_read_74 rfl (fun c => ?_) (fun c => ?_)
    · replace h := h.1 c
      refine lv_aload hx hb dX10_read_81 (lv_at hl 5 rfl) ?_
      refine lv_iload_n hx hb dX10_read_83 rfl (lv_at hl 2 rfl) ?_
      refine lv_aload_n hx hb dX10_read_84 rfl (lv_at hl 1 rfl) ?_
      refine zg_Main_told X hW h0 zu_467 dX10_read_85 ?_
      refine zg_Told_pieces X hW h0.2.2.2.2.1 zu_35 dX10_read_88 ?_
      refine lv_iload hx hb dX10_read_91 (lv_at hl 4 rfl) ?_
      refine zcalli (zrunV (As := [.int a3, .int (M 1 0), .int a5]) (rest := []) X hml hl hW hx_6.1 rfl zk_Main_356 (c_Sheet_wholeRows hx_6 h) rfl ⟨Nat.le_of_ble_eq_true rfl, Nat.le_of_ble_eq_true rfl⟩ ⟨Nat.le_refl 0, Nat.le_refl 0⟩ rfl (Nat.le_of_ble_eq_true rfl) dX10_read_93) hW (fun zr8 zm7 H locs h hW => ?_)
      refine lv_istore (lv' := [(8, .int zr8), (7, .int s_0), (0, .ref (zad w 0)), (3, .int a3), (4, .int a4), (5, .int a5), (6, .ref (zad w x_6))]) hx hb dX10_read_96 hl (Nat.le_of_ble_eq_true rfl) rfl (fun ls hl => ?_)
      refine lv_iload hx hb dX10_read_98 (lv_at hl 1 rfl) ?_
      refine lv_if_ne (tgt := 113) hx hb dX10_read_100 rfl (fun c => ?_) (fun c => ?_)
      · replace h := h.1 c
        refine lv_iconst hx hb dX10_read_113 zc_i0 ?_
        refine lv_istore (lv' := [(9, .int 0), (8, .int zr8), (7, .int s_0), (0, .ref (zad w 0)), (3, .int a3), (4, .int a4), (5, .int a5), (6, .ref (zad w x_6))]) hx hb dX10_read_114 hl (Nat.le_of_ble_eq_true rfl) rfl (fun ls hl => ?_)
        obtain ⟨n, h⟩ := h
        refine zL_116 x_6 hx_6 s_0 zr8 _ (fun  zm12 H locs ls hW hl h => ?_) n 0 zm7 H locs ls hW (lv_sub hl [3, 4, 5, 7, 2, 1, 0] rfl) h
        · skip
          refine lv_iconst hx hb dX10_read_156 zc_i0 ?_
          refine lv_istore (lv' := [(9, .int 0), (0, .ref (zad w 0)), (3, .int a3), (4, .int a4), (6, .ref (zad w x_6)), (7, .int s_0), (8, .int zr8)]) hx hb dX10_read_157 hl (Nat.le_of_ble_eq_true rfl) rfl (fun ls hl => ?_)
          obtain ⟨n, h⟩ := h
          refine zL_159 x_6 hx_6 s_0 zr8  n 0 zm12 H locs ls hW (lv_sub hl [1, 2, 3, 4, 5, 6, 0] rfl) h
      · replace h := h.2 c
        refine lv_iload hx hb dX10_read_103 (lv_at hl 0 rfl) ?_
        refine lv_iload hx hb dX10_read_105 (lv_at hl 5 rfl) ?_
        refine lv_icmp_ge (tgt := 113) hx hb dX10_read_107 rfl (fun c => ?_) (fun c => ?_)
        · replace h := h.1 c
          refine lv_iconst hx hb dX10_read_113 zc_i0 ?_
          refine lv_istore (lv' := [(9, .int 0), (8, .int zr8), (7, .int s_0), (0, .ref (zad w 0)), (3, .int a3), (4, .int a4), (5, .int a5), (6, .ref (zad w x_6))]) hx hb dX10_read_114 hl (Nat.le_of_ble_eq_true rfl) rfl (fun ls hl => ?_)
          obtain ⟨n, h⟩ := h
          refine zL_116 x_6 hx_6 s_0 zr8 _ (fun  zm19 H locs ls hW hl h => ?_) n 0 zm7 H locs ls hW (lv_sub hl [3, 4, 5, 7, 2, 1, 0] rfl) h
          · skip
            refine lv_iconst hx hb dX10_read_156 zc_i0 ?_
            refine lv_istore (lv' := [(9, .int 0), (0, .ref (zad w 0)), (3, .int a3), (4, .int a4), (6, .ref (zad w x_6)), (7, .int s_0), (8, .int zr8)]) hx hb dX10_read_157 hl (Nat.le_of_ble_eq_true rfl) rfl (fun ls hl => ?_)
            obtain ⟨n, h⟩ := h
            refine zL_159 x_6 hx_6 s_0 zr8  n 0 zm19 H locs ls hW (lv_sub hl [1, 2, 3, 4, 5, 6, 0] rfl) h
        · replace h := h.2 c
          refine lv_iconst hx hb dX10_read_110 zc_i2 ?_
          refine lv_istore (lv' := [(7, .int 2), (8, .int zr8), (0, .ref (zad w 0)), (3, .int a3), (4, .int a4), (5, .int a5), (6, .ref (zad w x_6))]) hx hb dX10_read_111 hl (Nat.le_of_ble_eq_true rfl) rfl (fun ls hl => ?_)
          refine lv_iconst hx hb dX10_read_113 zc_i0 ?_
          refine lv_istore (lv' := [(9, .int 0), (7, .int 2), (8, .int zr8), (0, .ref (zad w 0)), (3, .int a3), (4, .int a4), (5, .int a5), (6, .ref (zad w x_6))]) hx hb dX10_read_114 hl (Nat.le_of_ble_eq_true rfl) rfl (fun ls hl => ?_)
          obtain ⟨n, h⟩ := h
          refine zL_116 x_6 hx_6 2 zr8 _ (fun  zm20 H locs ls hW hl h => ?_) n 0 zm7 H locs ls hW (lv_sub hl [3, 4, 5, 7, 1, 2, 0] rfl) h
          · skip
            refine lv_iconst hx hb dX10_read_156 zc_i0 ?_
            refine lv_istore (lv' := [(9, .int 0), (0, .ref (zad w 0)), (3, .int a3), (4, .int a4), (6, .ref (zad w x_6)), (7, .int 2), (8, .int zr8)]) hx hb dX10_read_157 hl (Nat.le_of_ble_eq_true rfl) rfl (fun ls hl => ?_)
            obtain ⟨n, h⟩ := h
            refine zL_159 x_6 hx_6 2 zr8  n 0 zm20 H locs ls hW (lv_sub hl [1, 2, 3, 4, 5, 6, 0] rfl) h
    · replace h := h.2 c
      refine lv_iconst hx hb dX10_read_77 zc_i0 ?_
      refine lv_goto (tgt := 96) hx hb dX10_read_78 rfl ?_
      refine lv_istore (lv' := [(8, .int 0), (7, .int s_0), (0, .ref (zad w 0)), (3, .int a3), (4, .int a4), (5, .int a5), (6, .ref (zad w x_6))]) hx hb dX10_read_96 hl (Nat.le_of_ble_eq_true rfl) rfl (fun ls hl => ?_)
      refine lv_iload hx hb dX10_read_98 (lv_at hl 1 rfl) ?_
      refine lv_if_ne (tgt := 113) hx hb dX10_read_100 rfl (fun c => ?_) (fun c => ?_)
      · replace h := h.1 c
        refine lv_iconst hx hb dX10_read_113 zc_i0 ?_
        refine lv_istore (lv' := [(9, .int 0), (8, .int 0), (7, .int s_0), (0, .ref (zad w 0)), (3, .int a3), (4, .int a4), (5, .int a5), (6, .ref (zad w x_6))]) hx hb dX10_read_114 hl (Nat.le_of_ble_eq_true rfl) rfl (fun ls hl => ?_)
        obtain ⟨n, h⟩ := h
        refine zL_116 x_6 hx_6 s_0 0 _ (fun  zm21 H locs ls hW hl h => ?_) n 0 M H locs ls hW (lv_sub hl [3, 4, 5, 7, 2, 1, 0] rfl) h
        · skip
          refine lv_iconst hx hb dX10_read_156 zc_i0 ?_
          refine lv_istore (lv' := [(9, .int 0), (0, .ref (zad w 0)), (3, .int a3), (4, .int a4), (6, .ref (zad w x_6)), (7, .int s_0), (8, .int 0)]) hx hb dX10_read_157 hl (Nat.le_of_ble_eq_true rfl) rfl (fun ls hl => ?_)
          obtain ⟨n, h⟩ := h
          refine zL_159 x_6 hx_6 s_0 0  n 0 zm21 H locs ls hW (lv_sub hl [1, 2, 3, 4, 5, 6, 0] rfl) h
      · replace h := h.2 c
        refine lv_iload hx hb dX10_read_103 (lv_at hl 0 rfl) ?_
        refine lv_iload hx hb dX10_read_105 (lv_at hl 5 rfl) ?_
        refine lv_icmp_ge (tgt := 113) hx hb dX10_read_107 rfl (fun c => ?_) (fun c => ?_)
        · replace h := h.1 c
          refine lv_iconst hx hb dX10_read_113 zc_i0 ?_
          refine lv_istore (lv' := [(9, .int 0), (8, .int 0), (7, .int s_0), (0, .ref (zad w 0)), (3, .int a3), (4, .int a4), (5, .int a5), (6, .ref (zad w x_6))]) hx hb dX10_read_114 hl (Nat.le_of_ble_eq_true rfl) rfl (fun ls hl => ?_)
          obtain ⟨n, h⟩ := h
          refine zL_116 x_6 hx_6 s_0 0 _ (fun  zm22 H locs ls hW hl h => ?_) n 0 M H locs ls hW (lv_sub hl [3, 4, 5, 7, 2, 1, 0] rfl) h
          · skip
            refine lv_iconst hx hb dX10_read_156 zc_i0 ?_
            refine lv_istore (lv' := [(9, .int 0), (0, .ref (zad w 0)), (3, .int a3), (4, .int a4), (6, .ref (zad w x_6)), (7, .int s_0), (8, .int 0)]) hx hb dX10_read_157 hl (Nat.le_of_ble_eq_true rfl) rfl (fun ls hl => ?_)
            obtain ⟨n, h⟩ := h
            refine zL_159 x_6 hx_6 s_0 0  n 0 zm22 H locs ls hW (lv_sub hl [1, 2, 3, 4, 5, 6, 0] rfl) h
        · replace h := h.2 c
          refine lv_iconst hx hb dX10_read_110 zc_i2 ?_
          refine lv_istore (lv' := [(7, .int 2), (8, .int 0), (0, .ref (zad w 0)), (3, .int a3), (4, .int a4), (5, .int a5), (6, .ref (zad w x_6))]) hx hb dX10_read_111 hl (Nat.le_of_ble_eq_true rfl) rfl (fun ls hl => ?_)
          refine lv_iconst hx hb dX10_read_113 zc_i0 ?_
          refine lv_istore (lv' := [(9, .int 0), (7, .int 2), (8, .int 0), (0, .ref (zad w 0)), (3, .int a3), (4, .int a4), (5, .int a5), (6, .ref (zad w x_6))]) hx hb dX10_read_114 hl (Nat.le_of_ble_eq_true rfl) rfl (fun ls hl => ?_)
          obtain ⟨n, h⟩ := h
          refine zL_116 x_6 hx_6 2 0 _ (fun  zm23 H locs ls hW hl h => ?_) n 0 M H locs ls hW (lv_sub hl [3, 4, 5, 7, 1, 2, 0] rfl) h
          · skip
            refine lv_iconst hx hb dX10_read_156 zc_i0 ?_
            refine lv_istore (lv' := [(9, .int 0), (0, .ref (zad w 0)), (3, .int a3), (4, .int a4), (6, .ref (zad w x_6)), (7, .int 2), (8, .int 0)]) hx hb dX10_read_157 hl (Nat.le_of_ble_eq_true rfl) rfl (fun ls hl => ?_)
            obtain ⟨n, h⟩ := h
            refine zL_159 x_6 hx_6 2 0  n 0 zm23 H locs ls hW (lv_sub hl [1, 2, 3, 4, 5, 6, 0] rfl) h
  unfold wp_Main_read at h
  have zMain : ∀ (H : Heap) (locs : List Loc) (ls : Array Slot), zWo w s.heap M H locs → lv_has ls 10 [(0, .ref (zad w 0)), (1, .int a1), (2, .int a2), (3, .int a3), (4, .int a4), (5, .int a5)] → W p l e (zRm 2 43) s m ([.ref (zad w 0), .int a1, .int a2, .int a3, .int a4, .int a5] : List Value).toArray below meth c H locs 0 0 (MQ below (va_Qi post (zB w) (zA w)) ([.ref (zad w 0), .int a1, .int a2, .int a3, .int a4, .int a5] : List Value).toArray s 0 0 (zA w)) (F0 m 0 ls []) := by
    intro H locs ls hW hl
    refine lv_iload_n hx hb dX10_read_0 rfl (lv_at hl 1 rfl) ?_
    refine zcalli (zrunS (As := [.int a1]) (rest := []) X hml hl hW zk_Main_337 (c_Main_isSheet  h) rfl ⟨Nat.le_of_ble_eq_true rfl, Nat.le_of_ble_eq_true rfl⟩ ⟨Nat.le_refl 0, Nat.le_refl 0⟩ rfl (Nat.le_of_ble_eq_true rfl) dX10_read_1) hW (fun zr2 zm1 H locs h hW => ?_)
    refine lv_if_eq (tgt := 45) hx hb dX10_read_4 rfl (fun c => ?_) (fun c => ?_)
    · replace h := h.1 c
      refine lv_iconst hx hb dX10_read_45 zc_im1 ?_
      exact zreti X hr hlk hW h dX10_read_46
    · replace h := h.2 c
      refine lv_iload_n hx hb dX10_read_7 rfl (lv_at hl 2 rfl) ?_
      refine zcalli (zrunS (As := [.int a2]) (rest := []) X hml hl hW zk_Main_340 (c_Main_isLane  h) rfl ⟨Nat.le_of_ble_eq_true rfl, Nat.le_of_ble_eq_true rfl⟩ ⟨Nat.le_refl 0, Nat.le_refl 0⟩ rfl (Nat.le_of_ble_eq_true rfl) dX10_read_8) hW (fun zr4 zm3 H locs h hW => ?_)
      refine lv_if_eq (tgt := 45) hx hb dX10_read_11 rfl (fun c => ?_) (fun c => ?_)
      · replace h := h.1 c
        refine lv_iconst hx hb dX10_read_45 zc_im1 ?_
        exact zreti X hr hlk hW h dX10_read_46
      · replace h := h.2 c
        refine lv_iload hx hb dX10_read_14 (lv_at hl 4 rfl) ?_
        refine lv_if_lt (tgt := 45) hx hb dX10_read_16 rfl (fun c => ?_) (fun c => ?_)
        · replace h := h.1 c
          refine lv_iconst hx hb dX10_read_45 zc_im1 ?_
          exact zreti X hr hlk hW h dX10_read_46
        · replace h := h.2 c
          refine lv_iload hx hb dX10_read_19 (lv_at hl 5 rfl) ?_
          refine lv_if_lt (tgt := 45) hx hb dX10_read_21 rfl (fun c => ?_) (fun c => ?_)
          · replace h := h.1 c
            refine lv_iconst hx hb dX10_read_45 zc_im1 ?_
            exact zreti X hr hlk hW h dX10_read_46
          · replace h := h.2 c
            refine lv_iload hx hb dX10_read_24 (lv_at hl 5 rfl) ?_
            refine lv_iconst hx hb dX10_read_26 zc_i5 ?_
            refine lv_icmp_gt (tgt := 45) hx hb dX10_read_27 rfl (fun c => ?_) (fun c => ?_)
            · replace h := h.1 c
              refine lv_iconst hx hb dX10_read_45 zc_im1 ?_
              exact zreti X hr hlk hW h dX10_read_46
            · replace h := h.2 c
              refine lv_iload hx hb dX10_read_30 (lv_at hl 4 rfl) ?_
              refine lv_aload_n hx hb dX10_read_32 rfl (lv_at hl 0 rfl) ?_
              refine zg_Main_told X hW h0 zu_467 dX10_read_33 ?_
              refine zg_Told_hands X hW h0.2.2.2.2.1 zu_41 dX10_read_36 ?_
              refine lv_iload hx hb dX10_read_39 (lv_at hl 5 rfl) ?_
              refine lv_isub hx hb dX10_read_41 ?_
              refine lv_icmp_le (tgt := 47) hx hb dX10_read_42 rfl (fun c => ?_) (fun c => ?_)
              · replace h := h.1 c
                refine lv_aload_n hx hb dX10_read_47 rfl (lv_at hl 0 rfl) ?_
                refine zg_Main_sheets X hW h0 zu_479 dX10_read_48 ?_
                refine lv_iload_n hx hb dX10_read_51 rfl (lv_at hl 1 rfl) ?_
                obtain ⟨g, h⟩ := h
                refine zaald_Sheet X hW h0.2.2.2.1 g dX10_read_52 ?_
                refine lv_astore (lv' := [(6, .ref (zad w (81 + 2 * ix a1))), (0, .ref (zad w 0)), (1, .int a1), (2, .int a2), (3, .int a3), (4, .int a4), (5, .int a5)]) hx hb dX10_read_53 hl (Nat.le_of_ble_eq_true rfl) rfl (fun ls hl => ?_)
                refine lv_iload hx hb dX10_read_55 (lv_at hl 6 rfl) ?_
                refine lv_if_ne (tgt := 64) hx hb dX10_read_57 rfl (fun c => ?_) (fun c => ?_)
                · replace h := h.1 c
                  refine lv_aload hx hb dX10_read_64 (lv_at hl 0 rfl) ?_
                  refine lv_iload_n hx hb dX10_read_66 rfl (lv_at hl 3 rfl) ?_
                  refine zcalli (zrunV (As := [.int a2]) (rest := []) X hml hl hW (h0.2.2.2.1.2 _ (zix_lt g)).1 rfl zk_Main_353 (c_Sheet_faultAs (h0.2.2.2.1.2 _ (zix_lt g)) h) rfl ⟨Nat.le_of_ble_eq_true rfl, Nat.le_of_ble_eq_true rfl⟩ ⟨Nat.le_refl 0, Nat.le_refl 0⟩ rfl (Nat.le_of_ble_eq_true rfl) dX10_read_67) hW (fun zr6 zm5 H locs h hW => ?_)
                  exact zJ_70 (81 + 2 * ix a1) (h0.2.2.2.1.2 _ (zix_lt g)) zr6 zm5 H locs ls hW (lv_sub hl [1, 4, 5, 6, 0] rfl) h
                · replace h := h.2 c
                  refine lv_iconst hx hb dX10_read_60 zc_i0 ?_
                  refine lv_goto (tgt := 70) hx hb dX10_read_61 rfl ?_
                  exact zJ_70 (81 + 2 * ix a1) (h0.2.2.2.1.2 _ (zix_lt g)) 0 zm3 H locs ls hW (lv_sub hl [1, 4, 5, 6, 0] rfl) h
              · replace h := h.2 c
                refine lv_iconst hx hb dX10_read_45 zc_im1 ?_
                exact zreti X hr hlk hW h dX10_read_46
  exact zMain s.heap [] ls hW hl
def wp_Main_torn  (M : zMem) (Q : Int32 → zMem → Prop) : Prop :=
  Q (M 0 13) M
set_option maxHeartbeats 4000000 in
set_option maxRecDepth 20000 in
theorem c_Main_torn {l : Launch} {w : zWd} {M : zMem} {post : Int32 → zMem → Prop} (h0 : zI_Main w) (h : wp_Main_torn  M post) : zMi l ⟨"HandToHand", "torn", "()I"⟩ prog_1_method_35_code 1 (Option.some .int) 0 0 w [.ref (zad w 0)] M post := by
  refine zMet (by decide) (Nat.le_of_ble_eq_true rfl) ?_
  intro p e s m below meth c X hr hlk hml hW ls hl
  have hx := X.1
  have hb := X.2.1
  have hl : lv_has ls 1 [(0, .ref (zad w 0))] := hl
  unfold wp_Main_torn at h
  have zMain : ∀ (H : Heap) (locs : List Loc) (ls : Array Slot), zWo w s.heap M H locs → lv_has ls 1 [(0, .ref (zad w 0))] → W p l e (zRm 0 0) s m ([.ref (zad w 0)] : List Value).toArray below meth c H locs 0 0 (MQ below (va_Qi post (zB w) (zA w)) ([.ref (zad w 0)] : List Value).toArray s 0 0 (zA w)) (F0 m 0 ls []) := by
    intro H locs ls hW hl
    refine lv_aload_n hx hb dX10_torn_0 rfl (lv_at hl 0 rfl) ?_
    refine zg_Main_latestTorn X hW h0 zu_480 dX10_torn_1 ?_
    exact zreti X hr hlk hW h dX10_torn_4
  exact zMain s.heap [] ls hW hl
def wp_Main_count (a1 : Int32) (M : zMem) (Q : Int32 → zMem → Prop) : Prop :=
  ∀ zx1 : Int32, zx1 = a1 → (zx1 = 0 → vp_in 0 2 ∧ ((M 28 (ix 0)) = 0 → vp_in 1 2 ∧ ((M 28 (ix 1)) = 0 → Q (0 + 0) M) ∧ (¬ (M 28 (ix 1)) = 0 → Q (0 + 1) M)) ∧ (¬ (M 28 (ix 0)) = 0 → vp_in 1 2 ∧ ((M 28 (ix 1)) = 0 → Q (1 + 0) M) ∧ (¬ (M 28 (ix 1)) = 0 → Q (1 + 1) M))) ∧ (zx1 = 1 → Q (M 11 5) M) ∧ (zx1 = 2 → vp_in 0 4 ∧ (¬ (M (81 + 2 * ix 0) 0) = (-1) → vp_in 0 4 ∧ Q (M (81 + 2 * ix 0) 1) M) ∧ ((M (81 + 2 * ix 0) 0) = (-1) → Q ((-4)) M)) ∧ (zx1 = 3 → wp_Main_numberOfOrders (M 1 1) M (fun zr3 zm2 => Q zr3 zm2)) ∧ (¬ zx1 = 0 → ¬ zx1 = 1 → ¬ zx1 = 2 → ¬ zx1 = 3 → Q ((-1)) M)
set_option maxHeartbeats 4000000 in
set_option maxRecDepth 20000 in
theorem c_Main_count {l : Launch} {w : zWd} {a1 : Int32} {M : zMem} {post : Int32 → zMem → Prop} (h0 : zI_Main w) (h : wp_Main_count a1 M post) : zMi l ⟨"HandToHand", "count", "(I)I"⟩ prog_1_method_36_code 2 (Option.some .int) 1 22 w [.ref (zad w 0), .int a1] M post := by
  refine zMet (by decide) (Nat.le_of_ble_eq_true rfl) ?_
  intro p e s m below meth c X hr hlk hml hW ls hl
  have hx := X.1
  have hb := X.2.1
  have hl : lv_has ls 2 [(0, .ref (zad w 0)), (1, .int a1)] := hl
  unfold wp_Main_count at h
  have zMain : ∀ (H : Heap) (locs : List Loc) (ls : Array Slot), zWo w s.heap M H locs → lv_has ls 2 [(0, .ref (zad w 0)), (1, .int a1)] → W p l e (zRm 1 22) s m ([.ref (zad w 0), .int a1] : List Value).toArray below meth c H locs 0 0 (MQ below (va_Qi post (zB w) (zA w)) ([.ref (zad w 0), .int a1] : List Value).toArray s 0 0 (zA w)) (F0 m 0 ls []) := by
    intro H locs ls hW hl
    refine lv_iload_n hx hb dX10_count_0 rfl (lv_at hl 1 rfl) ?_
    refine lv_topi (fun zx1 ezx1 => ?_)
    replace h := h zx1 ezx1
    by_cases c0 : zx1 = 0
    · replace h := h.1 c0
      refine lv_tableIn (off := 31) (tgt := 32) hx hb dX10_count_1 (by rw [c0]; decide) (by rw [c0]; decide) (by rw [c0]; rfl) rfl ?_
      refine lv_aload_n hx hb dX10_count_32 rfl (lv_at hl 0 rfl) ?_
      refine zg_Main_kept X hW h0 zu_472 dX10_count_33 ?_
      refine lv_iconst hx hb dX10_count_36 zc_i0 ?_
      obtain ⟨g, h⟩ := h
      refine zzald X hW h0.2.1 g dX10_count_37 ?_
      refine lv_if_eq (tgt := 45) hx hb dX10_count_38 rfl (fun c => ?_) (fun c => ?_)
      · replace h := h.1 c
        refine lv_iconst hx hb dX10_count_45 zc_i0 ?_
        refine lv_aload_n hx hb dX10_count_46 rfl (lv_at hl 0 rfl) ?_
        refine zg_Main_kept X hW h0 zu_472 dX10_count_47 ?_
        refine lv_iconst hx hb dX10_count_50 zc_i1 ?_
        obtain ⟨g, h⟩ := h
        refine zzald X hW h0.2.1 g dX10_count_51 ?_
        refine lv_if_eq (tgt := 59) hx hb dX10_count_52 rfl (fun c => ?_) (fun c => ?_)
        · replace h := h.1 c
          refine lv_iconst hx hb dX10_count_59 zc_i0 ?_
          refine lv_iadd hx hb dX10_count_60 ?_
          exact zreti X hr hlk hW h dX10_count_61
        · replace h := h.2 c
          refine lv_iconst hx hb dX10_count_55 zc_i1 ?_
          refine lv_goto (tgt := 60) hx hb dX10_count_56 rfl ?_
          refine lv_iadd hx hb dX10_count_60 ?_
          exact zreti X hr hlk hW h dX10_count_61
      · replace h := h.2 c
        refine lv_iconst hx hb dX10_count_41 zc_i1 ?_
        refine lv_goto (tgt := 46) hx hb dX10_count_42 rfl ?_
        refine lv_aload_n hx hb dX10_count_46 rfl (lv_at hl 0 rfl) ?_
        refine zg_Main_kept X hW h0 zu_472 dX10_count_47 ?_
        refine lv_iconst hx hb dX10_count_50 zc_i1 ?_
        obtain ⟨g, h⟩ := h
        refine zzald X hW h0.2.1 g dX10_count_51 ?_
        refine lv_if_eq (tgt := 59) hx hb dX10_count_52 rfl (fun c => ?_) (fun c => ?_)
        · replace h := h.1 c
          refine lv_iconst hx hb dX10_count_59 zc_i0 ?_
          refine lv_iadd hx hb dX10_count_60 ?_
          exact zreti X hr hlk hW h dX10_count_61
        · replace h := h.2 c
          refine lv_iconst hx hb dX10_count_55 zc_i1 ?_
          refine lv_goto (tgt := 60) hx hb dX10_count_56 rfl ?_
          refine lv_iadd hx hb dX10_count_60 ?_
          exact zreti X hr hlk hW h dX10_count_61
    replace h := h.2
    by_cases c1 : zx1 = 1
    · replace h := h.1 c1
      refine lv_tableIn (off := 61) (tgt := 62) hx hb dX10_count_1 (by rw [c1]; decide) (by rw [c1]; decide) (by rw [c1]; rfl) rfl ?_
      refine lv_aload_n hx hb dX10_count_62 rfl (lv_at hl 0 rfl) ?_
      refine zg_Main_reader X hW h0 zu_469 dX10_count_63 ?_
      refine zg_Reader_length X hW h0.2.2.2.2.2.2.1 zu_114 dX10_count_66 ?_
      exact zreti X hr hlk hW h dX10_count_69
    replace h := h.2
    by_cases c2 : zx1 = 2
    · replace h := h.1 c2
      refine lv_tableIn (off := 69) (tgt := 70) hx hb dX10_count_1 (by rw [c2]; decide) (by rw [c2]; decide) (by rw [c2]; rfl) rfl ?_
      refine lv_aload_n hx hb dX10_count_70 rfl (lv_at hl 0 rfl) ?_
      refine zg_Main_sheets X hW h0 zu_479 dX10_count_71 ?_
      refine lv_iconst hx hb dX10_count_74 zc_i0 ?_
      obtain ⟨g, h⟩ := h
      refine zaald_Sheet X hW h0.2.2.2.1 g dX10_count_75 ?_
      refine zg_Sheet_lane X hW (h0.2.2.2.1.2 _ (zix_lt g)) zu_390 dX10_count_76 ?_
      refine lv_iconst hx hb dX10_count_79 zc_im1 ?_
      refine lv_icmp_ne (tgt := 88) hx hb dX10_count_80 rfl (fun c => ?_) (fun c => ?_)
      · replace h := h.1 c
        refine lv_aload_n hx hb dX10_count_88 rfl (lv_at hl 0 rfl) ?_
        refine zg_Main_sheets X hW h0 zu_479 dX10_count_89 ?_
        refine lv_iconst hx hb dX10_count_92 zc_i0 ?_
        obtain ⟨g, h⟩ := h
        refine zaald_Sheet X hW h0.2.2.2.1 g dX10_count_93 ?_
        refine zg_Sheet_size X hW (h0.2.2.2.1.2 _ (zix_lt g)) zu_392 dX10_count_94 ?_
        exact zreti X hr hlk hW h dX10_count_97
      · replace h := h.2 c
        refine lv_bipush hx hb dX10_count_83 zc_bm4 ?_
        refine lv_goto (tgt := 97) hx hb dX10_count_85 rfl ?_
        exact zreti X hr hlk hW h dX10_count_97
    replace h := h.2
    by_cases c3 : zx1 = 3
    · replace h := h.1 c3
      refine lv_tableIn (off := 97) (tgt := 98) hx hb dX10_count_1 (by rw [c3]; decide) (by rw [c3]; decide) (by rw [c3]; rfl) rfl ?_
      refine lv_aload_n hx hb dX10_count_98 rfl (lv_at hl 0 rfl) ?_
      refine zg_Main_told X hW h0 zu_467 dX10_count_99 ?_
      refine zg_Told_hands X hW h0.2.2.2.2.1 zu_41 dX10_count_102 ?_
      refine zcalli (zrunS (As := [.int (M 1 1)]) (rest := []) X hml hl hW zk_Main_309 (c_Main_numberOfOrders  h) rfl ⟨Nat.le_of_ble_eq_true rfl, Nat.le_of_ble_eq_true rfl⟩ ⟨Nat.le_refl 0, Nat.le_refl 0⟩ rfl (Nat.le_of_ble_eq_true rfl) dX10_count_105) hW (fun zr3 zm2 H locs h hW => ?_)
      exact zreti X hr hlk hW h dX10_count_108
    replace h := h.2
    replace h := h c0 c1 c2 c3
    refine lv_tableOut (tgt := 109) hx hb dX10_count_1 (zsw 3 (Nat.le_of_ble_eq_true rfl) (fun j hj => ?_)) rfl ?_
    · rcases (show j = 0 ∨ j = 1 ∨ j = 2 ∨ j = 3 by omega) with rfl | rfl | rfl | rfl
      · exact c0
      · exact c1
      · exact c2
      · exact c3
    refine lv_iconst hx hb dX10_count_109 zc_im1 ?_
    exact zreti X hr hlk hW h dX10_count_110
  exact zMain s.heap [] ls hW hl
def wp_Model_in (a1 : Int64) (a2 : Int64) (a3 : Int64) (M : zMem) (Q : Int32 → zMem → Prop) : Prop :=
  ((lg_cmp a1 a2) < 0 → Q 0 M) ∧ (¬ (lg_cmp a1 a2) < 0 → (0 < (lg_cmp a1 a3) → Q 0 M) ∧ (¬ 0 < (lg_cmp a1 a3) → Q 1 M))
set_option maxHeartbeats 4000000 in
set_option maxRecDepth 20000 in
theorem c_Model_in {l : Launch} {w : zWd} {a1 : Int64} {a2 : Int64} {a3 : Int64} {M : zMem} {post : Int32 → zMem → Prop}  (h : wp_Model_in a1 a2 a3 M post) : zMi l ⟨"HandToHandModel", "in", "(JJJ)Z"⟩ prog_13_method_3_code 6 (Option.some .boolean) 0 0 w [.long a1, .long a2, .long a3] M post := by
  refine zMet (by decide) (Nat.le_of_ble_eq_true rfl) ?_
  intro p e s m below meth c X hr hlk hml hW ls hl
  have hx := X.1
  have hb := X.2.1
  have hl : lv_has ls 6 [(0, .long a1), (2, .long a2), (4, .long a3)] := hl
  unfold wp_Model_in at h
  have zMain : ∀ (H : Heap) (locs : List Loc) (ls : Array Slot), zWo w s.heap M H locs → lv_has ls 6 [(0, .long a1), (2, .long a2), (4, .long a3)] → W p l e (zRm 0 0) s m ([.long a1, .long a2, .long a3] : List Value).toArray below meth c H locs 0 0 (MQ below (va_Qi post (zB w) (zA w)) ([.long a1, .long a2, .long a3] : List Value).toArray s 0 0 (zA w)) (F0 m 0 ls []) := by
    intro H locs ls hW hl
    refine lv_lload_n hx hb dX11_in_0 rfl (lv_at hl 0 rfl) ?_
    refine lv_lload_n hx hb dX11_in_1 rfl (lv_at hl 1 rfl) ?_
    refine W.lcmp hx hb dX11_in_2 ?_
    refine lv_if_lt (tgt := 17) hx hb dX11_in_3 rfl (fun c => ?_) (fun c => ?_)
    · replace h := h.1 c
      refine lv_iconst hx hb dX11_in_17 zc_i0 ?_
      exact zretz X hr hlk hW rfl h dX11_in_18
    · replace h := h.2 c
      refine lv_lload_n hx hb dX11_in_6 rfl (lv_at hl 0 rfl) ?_
      refine lv_lload hx hb dX11_in_7 (lv_at hl 2 rfl) ?_
      refine W.lcmp hx hb dX11_in_9 ?_
      refine lv_if_gt (tgt := 17) hx hb dX11_in_10 rfl (fun c => ?_) (fun c => ?_)
      · replace h := h.1 c
        refine lv_iconst hx hb dX11_in_17 zc_i0 ?_
        exact zretz X hr hlk hW rfl h dX11_in_18
      · replace h := h.2 c
        refine lv_iconst hx hb dX11_in_13 zc_i1 ?_
        refine lv_goto (tgt := 18) hx hb dX11_in_14 rfl ?_
        exact zretz X hr hlk hW rfl h dX11_in_18
  exact zMain s.heap [] ls hW hl
def wpB_Model_feed_19 (a1 : Int64)   (Q : Int32 → zMem → Prop) (J : Int32 → zMem → Prop) (x_3 : Int32) (M : zMem) : Prop :=
  (x_3 < 0 → Q (M 0 1) M) ∧ (¬ x_3 < 0 → vp_in (M 0 1) 400 ∧ ∀ zm1 : zMem, zm1 = zup M 1 (ix (M 0 1)) (((a1 >>> (x_3.toInt64 &&& 63)).toInt32) &&& 255) → ∀ zm2 : zMem, zm2 = zup zm1 0 1 ((zm1 0 1) + 1) → ∀ zx3 : Int32, zx3 = x_3 + (-8) → J zx3 zm2)
def wp_Model_feed (a1 : Int64) (M : zMem) (Q : Int32 → zMem → Prop) : Prop :=
  (((M 0 1) + 8) ≤ 400 → ∃ n : Nat, zlp1 (wpB_Model_feed_19 a1   Q) n 56 M) ∧ (¬ ((M 0 1) + 8) ≤ 400 → Q ((-3)) M)
set_option maxHeartbeats 4000000 in
set_option maxRecDepth 20000 in
theorem c_Model_feed {l : Launch} {w : zWd} {a1 : Int64} {M : zMem} {post : Int32 → zMem → Prop} (h0 : zI_Model w) (h : wp_Model_feed a1 M post) : zMi l ⟨"HandToHandModel", "feed", "(J)I"⟩ prog_13_method_4_code 4 (Option.some .int) 0 0 w [.ref (zad w 0), .long a1] M post := by
  refine zMet (by decide) (Nat.le_of_ble_eq_true rfl) ?_
  intro p e s m below meth c X hr hlk hml hW ls hl
  have hx := X.1
  have hb := X.2.1
  have hl : lv_has ls 4 [(0, .ref (zad w 0)), (1, .long a1)] := hl
  have zL_19 :  ∀ (n : Nat) (x_3 : Int32) (M : zMem) (H : Heap) (locs : List Loc) (ls : Array Slot), zWo w s.heap M H locs → lv_has ls 4 [(0, .ref (zad w 0)), (1, .long a1), (3, .int x_3)] → zlp1 (wpB_Model_feed_19 a1   post) n x_3 M → W p l e (zRm 0 0) s m ([.ref (zad w 0), .long a1] : List Value).toArray below meth c H locs 0 0 (MQ below (va_Qi post (zB w) (zA w)) ([.ref (zad w 0), .long a1] : List Value).toArray s 0 0 (zA w)) (F0 m 19 ls []) := by
    intro n
    induction n with
    | zero => intro x_3 M H locs ls hW hl h; exact h.elim
    | succ n zJ =>
      intro x_3 M H locs ls hW hl h
      have h : wpB_Model_feed_19 a1   post (zlp1 (wpB_Model_feed_19 a1   post) n) x_3 M := h
      unfold wpB_Model_feed_19 at h
      refine lv_iload_n hx hb dX11_feed_19 rfl (lv_at hl 2 rfl) ?_
      refine lv_if_lt (tgt := 56) hx hb dX11_feed_20 rfl (fun c => ?_) (fun c => ?_)
      · replace h := h.1 c
        refine lv_aload_n hx hb dX11_feed_56 rfl (lv_at hl 0 rfl) ?_
        refine zg_Model_taped X hW h0 zu_1021 dX11_feed_57 ?_
        exact zreti X hr hlk hW h dX11_feed_60
      · replace h := h.2 c
        refine lv_aload_n hx hb dX11_feed_23 rfl (lv_at hl 0 rfl) ?_
        refine zg_Model_tape X hW h0 zu_1020 dX11_feed_24 ?_
        refine lv_aload_n hx hb dX11_feed_27 rfl (lv_at hl 0 rfl) ?_
        refine zg_Model_taped X hW h0 zu_1021 dX11_feed_28 ?_
        refine lv_lload_n hx hb dX11_feed_31 rfl (lv_at hl 1 rfl) ?_
        refine lv_iload_n hx hb dX11_feed_32 rfl (lv_at hl 2 rfl) ?_
        refine lv_lshr hx hb dX11_feed_33 rfl ?_
        refine lv_l2i hx hb dX11_feed_34 rfl ?_
        refine lv_sipush hx hb dX11_feed_35 zc_s255 ?_
        refine lv_iand hx hb dX11_feed_38 ?_
        obtain ⟨g, h⟩ := h
        refine ziast X hW h0.2.1 g dX11_feed_39 (fun H locs zm1 ezm1 hW => ?_)
        replace h := h zm1 ezm1
        refine lv_aload_n hx hb dX11_feed_40 rfl (lv_at hl 0 rfl) ?_
        refine lv_dup hx hb dX11_feed_41 rfl ?_
        refine zg_Model_taped X hW h0 zu_1021 dX11_feed_42 ?_
        refine lv_iconst hx hb dX11_feed_45 zc_i1 ?_
        refine lv_iadd hx hb dX11_feed_46 ?_
        refine zp_Model_taped X hW h0 zu_1021 dX11_feed_47 (fun H locs zm2 ezm2 hW => ?_)
        replace h := h zm2 ezm2
        obtain ⟨zx3, ezx3⟩ : ∃ y : Int32, y = x_3 + (-8) := ⟨_, rfl⟩
        replace h := h zx3 ezx3
        refine lv_iinc (v := zx3) (lv' := [(3, .int zx3), (0, .ref (zad w 0)), (1, .long a1)]) hx hb dX11_feed_50 hl (k := 2) rfl (by rw [ezx3, zc_im8]) (Nat.le_of_ble_eq_true rfl) rfl (fun ls hl => ?_)
        refine lv_goto (tgt := 19) hx hb dX11_feed_53 rfl ?_
        exact zJ zx3 zm2 H locs ls hW (lv_sub hl [1, 2, 0] rfl) h
  unfold wp_Model_feed at h
  have zMain : ∀ (H : Heap) (locs : List Loc) (ls : Array Slot), zWo w s.heap M H locs → lv_has ls 4 [(0, .ref (zad w 0)), (1, .long a1)] → W p l e (zRm 0 0) s m ([.ref (zad w 0), .long a1] : List Value).toArray below meth c H locs 0 0 (MQ below (va_Qi post (zB w) (zA w)) ([.ref (zad w 0), .long a1] : List Value).toArray s 0 0 (zA w)) (F0 m 0 ls []) := by
    intro H locs ls hW hl
    refine lv_aload_n hx hb dX11_feed_0 rfl (lv_at hl 0 rfl) ?_
    refine zg_Model_taped X hW h0 zu_1021 dX11_feed_1 ?_
    refine lv_bipush hx hb dX11_feed_4 zc_b8 ?_
    refine lv_iadd hx hb dX11_feed_6 ?_
    refine lv_sipush hx hb dX11_feed_7 zc_s400 ?_
    refine lv_icmp_le (tgt := 16) hx hb dX11_feed_10 rfl (fun c => ?_) (fun c => ?_)
    · replace h := h.1 c
      refine lv_bipush hx hb dX11_feed_16 zc_b56 ?_
      refine lv_istore_n (lv' := [(3, .int 56), (0, .ref (zad w 0)), (1, .long a1)]) hx hb dX11_feed_18 rfl hl (Nat.le_of_ble_eq_true rfl) rfl (fun ls hl => ?_)
      obtain ⟨n, h⟩ := h
      refine zL_19   n 56 M H locs ls hW (lv_sub hl [1, 2, 0] rfl) h
    · replace h := h.2 c
      refine lv_bipush hx hb dX11_feed_13 zc_bm3 ?_
      exact zreti X hr hlk hW h dX11_feed_15
  exact zMain s.heap [] ls hW hl
def wp_Model_end (a1 : Int32) (M : zMem) (Q : Int32 → zMem → Prop) : Prop :=
  wp_Model_in a1.toInt64 0 ((M 0 1).toInt64) M (fun zr2 zm1 => (¬ zr2 = 0 → ∀ zx3 : Int32, zx3 = zm1 0 1 → ∀ zm4 : zMem, zm4 = zup zm1 0 1 a1 → Q zx3 zm4) ∧ (zr2 = 0 → Q ((-1)) zm1))
set_option maxHeartbeats 4000000 in
set_option maxRecDepth 20000 in
theorem c_Model_end {l : Launch} {w : zWd} {a1 : Int32} {M : zMem} {post : Int32 → zMem → Prop} (h0 : zI_Model w) (h : wp_Model_end a1 M post) : zMi l ⟨"HandToHandModel", "end", "(I)I"⟩ prog_13_method_5_code 3 (Option.some .int) 1 25 w [.ref (zad w 0), .int a1] M post := by
  refine zMet (by decide) (Nat.le_of_ble_eq_true rfl) ?_
  intro p e s m below meth c X hr hlk hml hW ls hl
  have hx := X.1
  have hb := X.2.1
  have hl : lv_has ls 3 [(0, .ref (zad w 0)), (1, .int a1)] := hl
  unfold wp_Model_end at h
  have zMain : ∀ (H : Heap) (locs : List Loc) (ls : Array Slot), zWo w s.heap M H locs → lv_has ls 3 [(0, .ref (zad w 0)), (1, .int a1)] → W p l e (zRm 1 25) s m ([.ref (zad w 0), .int a1] : List Value).toArray below meth c H locs 0 0 (MQ below (va_Qi post (zB w) (zA w)) ([.ref (zad w 0), .int a1] : List Value).toArray s 0 0 (zA w)) (F0 m 0 ls []) := by
    intro H locs ls hW hl
    refine lv_iload_n hx hb dX11_end_0 rfl (lv_at hl 1 rfl) ?_
    refine lv_i2l hx hb dX11_end_1 rfl ?_
    refine lv_lconst hx hb dX11_end_2 zc_l0 ?_
    refine lv_aload_n hx hb dX11_end_3 rfl (lv_at hl 0 rfl) ?_
    refine zg_Model_taped X hW h0 zu_1021 dX11_end_4 ?_
    refine lv_i2l hx hb dX11_end_7 rfl ?_
    refine zcalli (zrunS (As := [.long a1.toInt64, .long 0, .long ((M 0 1).toInt64)]) (rest := []) X hml hl hW zk_Model_69 (c_Model_in  h) rfl ⟨Nat.le_of_ble_eq_true rfl, Nat.le_of_ble_eq_true rfl⟩ ⟨Nat.le_refl 0, Nat.le_refl 0⟩ rfl (Nat.le_of_ble_eq_true rfl) dX11_end_8) hW (fun zr2 zm1 H locs h hW => ?_)
    refine lv_if_ne (tgt := 16) hx hb dX11_end_11 rfl (fun c => ?_) (fun c => ?_)
    · replace h := h.1 c
      refine lv_aload_n hx hb dX11_end_16 rfl (lv_at hl 0 rfl) ?_
      refine zg_Model_taped X hW h0 zu_1021 dX11_end_17 ?_
      refine lv_topi (fun zx3 ezx3 => ?_)
      replace h := h zx3 ezx3
      refine lv_istore_n (lv' := [(2, .int zx3), (0, .ref (zad w 0)), (1, .int a1)]) hx hb dX11_end_20 rfl hl (Nat.le_of_ble_eq_true rfl) rfl (fun ls hl => ?_)
      refine lv_aload_n hx hb dX11_end_21 rfl (lv_at hl 1 rfl) ?_
      refine lv_iload_n hx hb dX11_end_22 rfl (lv_at hl 2 rfl) ?_
      refine zp_Model_taped X hW h0 zu_1021 dX11_end_23 (fun H locs zm4 ezm4 hW => ?_)
      replace h := h zm4 ezm4
      refine lv_iload_n hx hb dX11_end_26 rfl (lv_at hl 0 rfl) ?_
      exact zreti X hr hlk hW h dX11_end_27
    · replace h := h.2 c
      refine lv_iconst hx hb dX11_end_14 zc_im1 ?_
      exact zreti X hr hlk hW h dX11_end_15
  exact zMain s.heap [] ls hW hl
def wp_Model_byteAt (a1 : Int32) (M : zMem) (Q : Int32 → zMem → Prop) : Prop :=
  ((M 0 1) ≤ a1 → Q ((-4)) M) ∧ (¬ (M 0 1) ≤ a1 → vp_in a1 400 ∧ Q (M 1 (ix a1)) M)
set_option maxHeartbeats 4000000 in
set_option maxRecDepth 20000 in
theorem c_Model_byteAt {l : Launch} {w : zWd} {a1 : Int32} {M : zMem} {post : Int32 → zMem → Prop} (h0 : zI_Model w) (h : wp_Model_byteAt a1 M post) : zMi l ⟨"HandToHandModel", "byteAt", "(I)I"⟩ prog_13_method_6_code 2 (Option.some .int) 0 0 w [.ref (zad w 0), .int a1] M post := by
  refine zMet (by decide) (Nat.le_of_ble_eq_true rfl) ?_
  intro p e s m below meth c X hr hlk hml hW ls hl
  have hx := X.1
  have hb := X.2.1
  have hl : lv_has ls 2 [(0, .ref (zad w 0)), (1, .int a1)] := hl
  unfold wp_Model_byteAt at h
  have zMain : ∀ (H : Heap) (locs : List Loc) (ls : Array Slot), zWo w s.heap M H locs → lv_has ls 2 [(0, .ref (zad w 0)), (1, .int a1)] → W p l e (zRm 0 0) s m ([.ref (zad w 0), .int a1] : List Value).toArray below meth c H locs 0 0 (MQ below (va_Qi post (zB w) (zA w)) ([.ref (zad w 0), .int a1] : List Value).toArray s 0 0 (zA w)) (F0 m 0 ls []) := by
    intro H locs ls hW hl
    refine lv_iload_n hx hb dX11_byteAt_0 rfl (lv_at hl 1 rfl) ?_
    refine lv_aload_n hx hb dX11_byteAt_1 rfl (lv_at hl 0 rfl) ?_
    refine zg_Model_taped X hW h0 zu_1021 dX11_byteAt_2 ?_
    refine lv_icmp_ge (tgt := 17) hx hb dX11_byteAt_5 rfl (fun c => ?_) (fun c => ?_)
    · replace h := h.1 c
      refine lv_bipush hx hb dX11_byteAt_17 zc_bm4 ?_
      exact zreti X hr hlk hW h dX11_byteAt_19
    · replace h := h.2 c
      refine lv_aload_n hx hb dX11_byteAt_8 rfl (lv_at hl 0 rfl) ?_
      refine zg_Model_tape X hW h0 zu_1020 dX11_byteAt_9 ?_
      refine lv_iload_n hx hb dX11_byteAt_12 rfl (lv_at hl 1 rfl) ?_
      obtain ⟨g, h⟩ := h
      refine ziald X hW h0.2.1 g dX11_byteAt_13 ?_
      refine lv_goto (tgt := 19) hx hb dX11_byteAt_14 rfl ?_
      exact zreti X hr hlk hW h dX11_byteAt_19
  exact zMain s.heap [] ls hW hl
def wp_Model_fails (a1 : Int32) (M : zMem) (Q : zMem → Prop) : Prop :=
  (¬ (M 0 3) = 0 → Q M) ∧ ((M 0 3) = 0 → ∀ zm1 : zMem, zm1 = zup M 0 3 a1 → ∀ zm2 : zMem, zm2 = zup zm1 0 4 (zm1 0 6) → Q zm2)
set_option maxHeartbeats 4000000 in
set_option maxRecDepth 20000 in
theorem c_Model_fails {l : Launch} {w : zWd} {a1 : Int32} {M : zMem} {post : zMem → Prop} (h0 : zI_Model w) (h : wp_Model_fails a1 M post) : zMv l ⟨"HandToHandModel", "fails", "(I)V"⟩ prog_13_method_7_code 2 none 0 0 w [.ref (zad w 0), .int a1] M post := by
  refine zMet (by decide) (Nat.le_of_ble_eq_true rfl) ?_
  intro p e s m below meth c X hr hlk hml hW ls hl
  have hx := X.1
  have hb := X.2.1
  have hl : lv_has ls 2 [(0, .ref (zad w 0)), (1, .int a1)] := hl
  unfold wp_Model_fails at h
  have zMain : ∀ (H : Heap) (locs : List Loc) (ls : Array Slot), zWo w s.heap M H locs → lv_has ls 2 [(0, .ref (zad w 0)), (1, .int a1)] → W p l e (zRm 0 0) s m ([.ref (zad w 0), .int a1] : List Value).toArray below meth c H locs 0 0 (MQ below (va_Qv post (zB w) (zA w)) ([.ref (zad w 0), .int a1] : List Value).toArray s 0 0 (zA w)) (F0 m 0 ls []) := by
    intro H locs ls hW hl
    refine lv_aload_n hx hb dX11_fails_0 rfl (lv_at hl 0 rfl) ?_
    refine zg_Model_wrong X hW h0 zu_1023 dX11_fails_1 ?_
    refine lv_if_ne (tgt := 20) hx hb dX11_fails_4 rfl (fun c => ?_) (fun c => ?_)
    · replace h := h.1 c
      exact zretv X hr hlk hW h dX11_fails_20
    · replace h := h.2 c
      refine lv_aload_n hx hb dX11_fails_7 rfl (lv_at hl 0 rfl) ?_
      refine lv_iload_n hx hb dX11_fails_8 rfl (lv_at hl 1 rfl) ?_
      refine zp_Model_wrong X hW h0 zu_1023 dX11_fails_9 (fun H locs zm1 ezm1 hW => ?_)
      replace h := h zm1 ezm1
      refine lv_aload_n hx hb dX11_fails_12 rfl (lv_at hl 0 rfl) ?_
      refine lv_aload_n hx hb dX11_fails_13 rfl (lv_at hl 0 rfl) ?_
      refine zg_Model_place X hW h0 zu_1026 dX11_fails_14 ?_
      refine zp_Model_wrongAt X hW h0 zu_1024 dX11_fails_17 (fun H locs zm2 ezm2 hW => ?_)
      replace h := h zm2 ezm2
      exact zretv X hr hlk hW h dX11_fails_20
  exact zMain s.heap [] ls hW hl
