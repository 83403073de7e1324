def wpJ_Model_readLine_218   (Q : zMem → Prop)   (M : zMem) : Prop :=
  (¬ (M 0 3) = 0 → wp_Model_next M (fun zm6 => Q zm6)) ∧ ((M 0 3) = 0 → ((M 0 7) = 3 → wp_Model_next M (fun zm8 => Q zm8)) ∧ (¬ (M 0 7) = 3 → wp_Model_fails 2 M (fun zm10 => wp_Model_next zm10 (fun zm12 => Q zm12))))
def wpJ_Model_readLine_71   (Q : zMem → Prop) (x_1 : Int32)  (M : zMem) : Prop :=
  ∀ zx3 : Int32, zx3 = x_1 → (zx3 = 0 → wp_Model_readPiece M (fun zm4 => wpJ_Model_readLine_218  Q zm4)) ∧ (zx3 = 1 → wp_Model_readWhole M (fun zm14 => wpJ_Model_readLine_218  Q zm14)) ∧ (zx3 = 2 → wp_Model_readSort M (fun zm16 => wpJ_Model_readLine_218  Q zm16)) ∧ (zx3 = 3 → wp_Model_readRow M (fun zm18 => wpJ_Model_readLine_218  Q zm18)) ∧ (zx3 = 4 → wp_Model_readHand M (fun zm20 => wpJ_Model_readLine_218  Q zm20)) ∧ (zx3 = 5 → wp_Model_next M (fun zm22 => (¬ x_1 = 5 → (¬ x_1 = 5 → wp_Model_number 0 99 zm22 (fun zr25 zm24 => vp_in 3 100 ∧ ∀ zm26 : zMem, zm26 = zup zm24 5 (ix 3) zr25 → wp_Model_next zm26 (fun zm27 => wpJ_Model_readLine_218  Q zm27))) ∧ (x_1 = 5 → wp_Model_number 0 5 zm22 (fun zr30 zm29 => vp_in 3 100 ∧ ∀ zm31 : zMem, zm31 = zup zm29 5 (ix 3) zr30 → wp_Model_next zm31 (fun zm32 => wpJ_Model_readLine_218  Q zm32)))) ∧ (x_1 = 5 → (¬ x_1 = 5 → wp_Model_number 0 99 zm22 (fun zr35 zm34 => vp_in 2 100 ∧ ∀ zm36 : zMem, zm36 = zup zm34 5 (ix 2) zr35 → wp_Model_next zm36 (fun zm37 => wpJ_Model_readLine_218  Q zm37))) ∧ (x_1 = 5 → wp_Model_number 0 5 zm22 (fun zr40 zm39 => vp_in 2 100 ∧ ∀ zm41 : zMem, zm41 = zup zm39 5 (ix 2) zr40 → wp_Model_next zm41 (fun zm42 => wpJ_Model_readLine_218  Q zm42)))))) ∧ (zx3 = 6 → wp_Model_next M (fun zm44 => (¬ x_1 = 5 → (¬ x_1 = 5 → wp_Model_number 0 99 zm44 (fun zr47 zm46 => vp_in 3 100 ∧ ∀ zm48 : zMem, zm48 = zup zm46 5 (ix 3) zr47 → wp_Model_next zm48 (fun zm49 => wpJ_Model_readLine_218  Q zm49))) ∧ (x_1 = 5 → wp_Model_number 0 5 zm44 (fun zr52 zm51 => vp_in 3 100 ∧ ∀ zm53 : zMem, zm53 = zup zm51 5 (ix 3) zr52 → wp_Model_next zm53 (fun zm54 => wpJ_Model_readLine_218  Q zm54)))) ∧ (x_1 = 5 → (¬ x_1 = 5 → wp_Model_number 0 99 zm44 (fun zr57 zm56 => vp_in 2 100 ∧ ∀ zm58 : zMem, zm58 = zup zm56 5 (ix 2) zr57 → wp_Model_next zm58 (fun zm59 => wpJ_Model_readLine_218  Q zm59))) ∧ (x_1 = 5 → wp_Model_number 0 5 zm44 (fun zr62 zm61 => vp_in 2 100 ∧ ∀ zm63 : zMem, zm63 = zup zm61 5 (ix 2) zr62 → wp_Model_next zm63 (fun zm64 => wpJ_Model_readLine_218  Q zm64)))))) ∧ (zx3 = 7 → wp_Model_next M (fun zm66 => wpJ_Model_readLine_218  Q zm66)) ∧ (¬ zx3 = 0 → ¬ zx3 = 1 → ¬ zx3 = 2 → ¬ zx3 = 3 → ¬ zx3 = 4 → ¬ zx3 = 5 → ¬ zx3 = 6 → ¬ zx3 = 7 → vp_in 4 100 ∧ ∀ zm68 : zMem, zm68 = zup M 5 (ix 4) (x_1 - 7) → wp_Model_readEnds zm68 (fun zm69 => wpJ_Model_readLine_218  Q zm69))
def wpJ_Model_readLine_59   (Q : zMem → Prop) (x_1 : Int32) (x_2 : Int32)  (M : zMem) : Prop :=
  ∀ zm2 : zMem, zm2 = zup M 0 13 ((M 0 13) ||| (1 <<< (x_2 &&& 31))) → wpJ_Model_readLine_71  Q x_1 zm2
def wpJ_Model_readLine_42   (Q : zMem → Prop) (x_1 : Int32) (x_2 : Int32)  (M : zMem) : Prop :=
  (¬ (((M 0 13) >>> (x_2 &&& 31)) &&& 1) = 1 → wpJ_Model_readLine_59  Q x_1 x_2 M) ∧ ((((M 0 13) >>> (x_2 &&& 31)) &&& 1) = 1 → wp_Model_fails 4 M (fun zm71 => wpJ_Model_readLine_59  Q x_1 x_2 zm71))
def wpJ_Model_readLine_31   (Q : zMem → Prop) (x_1 : Int32) (s_0 : Int32) (M : zMem) : Prop :=
  (s_0 = 3 → wpJ_Model_readLine_42  Q x_1 s_0 M) ∧ (¬ s_0 = 3 → (s_0 ≤ 4 → wpJ_Model_readLine_71  Q x_1 M) ∧ (¬ s_0 ≤ 4 → wpJ_Model_readLine_42  Q x_1 s_0 M))
def wp_Model_readLine  (M : zMem) (Q : zMem → Prop) : Prop :=
  ∀ zx1 : Int32, zx1 = M 0 8 → ((M 0 7) = 1 → (zx1 ≤ 7 → wpJ_Model_readLine_31  Q zx1 zx1 M) ∧ (¬ zx1 ≤ 7 → wpJ_Model_readLine_31  Q zx1 7 M)) ∧ (¬ (M 0 7) = 1 → wp_Model_fails 2 M (fun zm73 => Q zm73))
set_option maxHeartbeats 4000000 in
set_option maxRecDepth 20000 in
theorem c_Model_readLine {l : Launch} {w : zWd} {M : zMem} {post : zMem → Prop} (h0 : zI_Model w) (h : wp_Model_readLine  M post) : zMv l ⟨"HandToHandModel", "readLine", "()V"⟩ prog_13_method_18_code 3 none 5 113 w [.ref (zad w 0)] M post := by
  refine zMet (by decide) (Nat.le_of_ble_eq_true rfl) ?_
  intro p e s m below meth c X hr hlk hml hW ls hl
  have hx := X.1
  have hb := X.2.1
  have hl : lv_has ls 3 [(0, .ref (zad w 0))] := hl
  have zJ_218 : ∀ (M : zMem) (H : Heap) (locs : List Loc) (ls : Array Slot), zWo w s.heap M H locs → lv_has ls 3 [(0, .ref (zad w 0))] → wpJ_Model_readLine_218  post M → W p l e (zRm 5 113) s m ([.ref (zad w 0)] : List Value).toArray below meth c H locs 0 0 (MQ below (va_Qv post (zB w) (zA w)) ([.ref (zad w 0)] : List Value).toArray s 0 0 (zA w)) (F0 m 218 ls []) := by
    intro  M H locs ls hW hl h
    unfold wpJ_Model_readLine_218 at h
    refine lv_aload_n hx hb dX11_readLine_218 rfl (lv_at hl 0 rfl) ?_
    refine zg_Model_wrong X hW h0 zu_1023 dX11_readLine_219 ?_
    refine lv_if_ne (tgt := 238) hx hb dX11_readLine_222 rfl (fun c => ?_) (fun c => ?_)
    · replace h := h.1 c
      refine lv_aload_n hx hb dX11_readLine_238 rfl (lv_at hl 0 rfl) ?_
      refine zcallv (zrunV (As := []) (rest := []) X hml hl hW h0.1 rfl zk_Model_114 (c_Model_next h0 h) rfl ⟨Nat.le_of_ble_eq_true rfl, Nat.le_of_ble_eq_true rfl⟩ ⟨Nat.le_refl 0, Nat.le_refl 0⟩ rfl (Nat.le_of_ble_eq_true rfl) dX11_readLine_239) hW (fun zm6 H locs h hW => ?_)
      exact zretv X hr hlk hW h dX11_readLine_242
    · replace h := h.2 c
      refine lv_aload_n hx hb dX11_readLine_225 rfl (lv_at hl 0 rfl) ?_
      refine zg_Model_token X hW h0 zu_1027 dX11_readLine_226 ?_
      refine lv_iconst hx hb dX11_readLine_229 zc_i3 ?_
      refine lv_icmp_eq (tgt := 238) hx hb dX11_readLine_230 rfl (fun c => ?_) (fun c => ?_)
      · replace h := h.1 c
        refine lv_aload_n hx hb dX11_readLine_238 rfl (lv_at hl 0 rfl) ?_
        refine zcallv (zrunV (As := []) (rest := []) X hml hl hW h0.1 rfl zk_Model_114 (c_Model_next h0 h) rfl ⟨Nat.le_of_ble_eq_true rfl, Nat.le_of_ble_eq_true rfl⟩ ⟨Nat.le_refl 0, Nat.le_refl 0⟩ rfl (Nat.le_of_ble_eq_true rfl) dX11_readLine_239) hW (fun zm8 H locs h hW => ?_)
        exact zretv X hr hlk hW h dX11_readLine_242
      · replace h := h.2 c
        refine lv_aload_n hx hb dX11_readLine_233 rfl (lv_at hl 0 rfl) ?_
        refine lv_iconst hx hb dX11_readLine_234 zc_i2 ?_
        refine zcallv (zrunV (As := [.int 2]) (rest := []) X hml hl hW h0.1 rfl zk_Model_103 (c_Model_fails h0 h) rfl ⟨Nat.le_of_ble_eq_true rfl, Nat.le_of_ble_eq_true rfl⟩ ⟨Nat.le_refl 0, Nat.le_refl 0⟩ rfl (Nat.le_of_ble_eq_true rfl) dX11_readLine_235) hW (fun zm10 H locs h hW => ?_)
        refine lv_aload_n hx hb dX11_readLine_238 rfl (lv_at hl 0 rfl) ?_
        refine zcallv (zrunV (As := []) (rest := []) X hml hl hW h0.1 rfl zk_Model_114 (c_Model_next h0 h) rfl ⟨Nat.le_of_ble_eq_true rfl, Nat.le_of_ble_eq_true rfl⟩ ⟨Nat.le_refl 0, Nat.le_refl 0⟩ rfl (Nat.le_of_ble_eq_true rfl) dX11_readLine_239) hW (fun zm12 H locs h hW => ?_)
        exact zretv X hr hlk hW h dX11_readLine_242
  have zJ_71 : ∀ (x_1 : Int32) (M : zMem) (H : Heap) (locs : List Loc) (ls : Array Slot), zWo w s.heap M H locs → lv_has ls 3 [(0, .ref (zad w 0)), (1, .int x_1)] → wpJ_Model_readLine_71  post x_1 M → W p l e (zRm 5 113) s m ([.ref (zad w 0)] : List Value).toArray below meth c H locs 0 0 (MQ below (va_Qv post (zB w) (zA w)) ([.ref (zad w 0)] : List Value).toArray s 0 0 (zA w)) (F0 m 71 ls []) := by
    intro x_1 M H locs ls hW hl h
    unfold wpJ_Model_readLine_71 at h
    refine lv_iload_n hx hb dX11_readLine_71 rfl (lv_at hl 1 rfl) ?_
    refine lv_topi (fun zx3 ezx3 => ?_)
    replace h := h zx3 ezx3
    by_cases c0 : zx3 = 0
    · replace h := h.1 c0
      refine lv_tableIn (off := 48) (tgt := 120) hx hb dX11_readLine_72 (by rw [c0]; decide) (by rw [c0]; decide) (by rw [c0]; rfl) rfl ?_
      refine lv_aload_n hx hb dX11_readLine_120 rfl (lv_at hl 0 rfl) ?_
      refine zcallv (zrunV (As := []) (rest := []) X hml hl hW h0.1 rfl zk_Model_131 (c_Model_readPiece h0 h) rfl ⟨Nat.le_of_ble_eq_true rfl, Nat.le_of_ble_eq_true rfl⟩ ⟨Nat.le_refl 0, Nat.le_refl 0⟩ rfl (Nat.le_of_ble_eq_true rfl) dX11_readLine_121) hW (fun zm4 H locs h hW => ?_)
      refine lv_goto (tgt := 218) hx hb dX11_readLine_124 rfl ?_
      exact zJ_218  zm4 H locs ls hW (lv_sub hl [0] rfl) h
    replace h := h.2
    by_cases c1 : zx3 = 1
    · replace h := h.1 c1
      refine lv_tableIn (off := 55) (tgt := 127) hx hb dX11_readLine_72 (by rw [c1]; decide) (by rw [c1]; decide) (by rw [c1]; rfl) rfl ?_
      refine lv_aload_n hx hb dX11_readLine_127 rfl (lv_at hl 0 rfl) ?_
      refine zcallv (zrunV (As := []) (rest := []) X hml hl hW h0.1 rfl zk_Model_134 (c_Model_readWhole h0 h) rfl ⟨Nat.le_of_ble_eq_true rfl, Nat.le_of_ble_eq_true rfl⟩ ⟨Nat.le_refl 0, Nat.le_refl 0⟩ rfl (Nat.le_of_ble_eq_true rfl) dX11_readLine_128) hW (fun zm14 H locs h hW => ?_)
      refine lv_goto (tgt := 218) hx hb dX11_readLine_131 rfl ?_
      exact zJ_218  zm14 H locs ls hW (lv_sub hl [0] rfl) h
    replace h := h.2
    by_cases c2 : zx3 = 2
    · replace h := h.1 c2
      refine lv_tableIn (off := 62) (tgt := 134) hx hb dX11_readLine_72 (by rw [c2]; decide) (by rw [c2]; decide) (by rw [c2]; rfl) rfl ?_
      refine lv_aload_n hx hb dX11_readLine_134 rfl (lv_at hl 0 rfl) ?_
      refine zcallv (zrunV (As := []) (rest := []) X hml hl hW h0.1 rfl zk_Model_137 (c_Model_readSort h0 h) rfl ⟨Nat.le_of_ble_eq_true rfl, Nat.le_of_ble_eq_true rfl⟩ ⟨Nat.le_refl 0, Nat.le_refl 0⟩ rfl (Nat.le_of_ble_eq_true rfl) dX11_readLine_135) hW (fun zm16 H locs h hW => ?_)
      refine lv_goto (tgt := 218) hx hb dX11_readLine_138 rfl ?_
      exact zJ_218  zm16 H locs ls hW (lv_sub hl [0] rfl) h
    replace h := h.2
    by_cases c3 : zx3 = 3
    · replace h := h.1 c3
      refine lv_tableIn (off := 69) (tgt := 141) hx hb dX11_readLine_72 (by rw [c3]; decide) (by rw [c3]; decide) (by rw [c3]; rfl) rfl ?_
      refine lv_aload_n hx hb dX11_readLine_141 rfl (lv_at hl 0 rfl) ?_
      refine zcallv (zrunV (As := []) (rest := []) X hml hl hW h0.1 rfl zk_Model_140 (c_Model_readRow h0 h) rfl ⟨Nat.le_of_ble_eq_true rfl, Nat.le_of_ble_eq_true rfl⟩ ⟨Nat.le_refl 0, Nat.le_refl 0⟩ rfl (Nat.le_of_ble_eq_true rfl) dX11_readLine_142) hW (fun zm18 H locs h hW => ?_)
      refine lv_goto (tgt := 218) hx hb dX11_readLine_145 rfl ?_
      exact zJ_218  zm18 H locs ls hW (lv_sub hl [0] rfl) h
    replace h := h.2
    by_cases c4 : zx3 = 4
    · replace h := h.1 c4
      refine lv_tableIn (off := 76) (tgt := 148) hx hb dX11_readLine_72 (by rw [c4]; decide) (by rw [c4]; decide) (by rw [c4]; rfl) rfl ?_
      refine lv_aload_n hx hb dX11_readLine_148 rfl (lv_at hl 0 rfl) ?_
      refine zcallv (zrunV (As := []) (rest := []) X hml hl hW h0.1 rfl zk_Model_143 (c_Model_readHand h0 h) rfl ⟨Nat.le_of_ble_eq_true rfl, Nat.le_of_ble_eq_true rfl⟩ ⟨Nat.le_refl 0, Nat.le_refl 0⟩ rfl (Nat.le_of_ble_eq_true rfl) dX11_readLine_149) hW (fun zm20 H locs h hW => ?_)
      refine lv_goto (tgt := 218) hx hb dX11_readLine_152 rfl ?_
      exact zJ_218  zm20 H locs ls hW (lv_sub hl [0] rfl) h
    replace h := h.2
    by_cases c5 : zx3 = 5
    · replace h := h.1 c5
      refine lv_tableIn (off := 83) (tgt := 155) hx hb dX11_readLine_72 (by rw [c5]; decide) (by rw [c5]; decide) (by rw [c5]; rfl) rfl ?_
      refine lv_aload_n hx hb dX11_readLine_155 rfl (lv_at hl 0 rfl) ?_
      refine zcallv (zrunV (As := []) (rest := []) X hml hl hW h0.1 rfl zk_Model_114 (c_Model_next h0 h) rfl ⟨Nat.le_of_ble_eq_true rfl, Nat.le_of_ble_eq_true rfl⟩ ⟨Nat.le_refl 0, Nat.le_refl 0⟩ rfl (Nat.le_of_ble_eq_true rfl) dX11_readLine_156) hW (fun zm22 H locs h hW => ?_)
      refine lv_aload_n hx hb dX11_readLine_159 rfl (lv_at hl 0 rfl) ?_
      refine zg_Model_reads X hW h0 zu_1032 dX11_readLine_160 ?_
      refine lv_iload_n hx hb dX11_readLine_163 rfl (lv_at hl 1 rfl) ?_
      refine lv_iconst hx hb dX11_readLine_164 zc_i5 ?_
      refine lv_icmp_ne (tgt := 172) hx hb dX11_readLine_165 rfl (fun c => ?_) (fun c => ?_)
      · replace h := h.1 c
        refine lv_iconst hx hb dX11_readLine_172 zc_i3 ?_
        refine lv_aload_n hx hb dX11_readLine_173 rfl (lv_at hl 0 rfl) ?_
        refine lv_iconst hx hb dX11_readLine_174 zc_i0 ?_
        refine lv_iload_n hx hb dX11_readLine_175 rfl (lv_at hl 1 rfl) ?_
        refine lv_iconst hx hb dX11_readLine_176 zc_i5 ?_
        refine lv_icmp_ne (tgt := 184) hx hb dX11_readLine_177 rfl (fun c => ?_) (fun c => ?_)
        · replace h := h.1 c
          refine lv_bipush hx hb dX11_readLine_184 zc_b99 ?_
          refine zcalli (zrunV (As := [.int 0, .int 99]) (rest := [.int 3, .ref (zad w 5)]) X hml hl hW h0.1 rfl zk_Model_111 (c_Model_number h0 h) rfl ⟨Nat.le_of_ble_eq_true rfl, Nat.le_of_ble_eq_true rfl⟩ ⟨Nat.le_refl 0, Nat.le_refl 0⟩ rfl (Nat.le_of_ble_eq_true rfl) dX11_readLine_186) hW (fun zr25 zm24 H locs h hW => ?_)
          obtain ⟨g, h⟩ := h
          refine ziast X hW h0.2.2.2.2.2.1 g dX11_readLine_189 (fun H locs zm26 ezm26 hW => ?_)
          replace h := h zm26 ezm26
          refine lv_aload_n hx hb dX11_readLine_190 rfl (lv_at hl 0 rfl) ?_
          refine zcallv (zrunV (As := []) (rest := []) X hml hl hW h0.1 rfl zk_Model_114 (c_Model_next h0 h) rfl ⟨Nat.le_of_ble_eq_true rfl, Nat.le_of_ble_eq_true rfl⟩ ⟨Nat.le_refl 0, Nat.le_refl 0⟩ rfl (Nat.le_of_ble_eq_true rfl) dX11_readLine_191) hW (fun zm27 H locs h hW => ?_)
          refine lv_goto (tgt := 218) hx hb dX11_readLine_194 rfl ?_
          exact zJ_218  zm27 H locs ls hW (lv_sub hl [0] rfl) h
        · replace h := h.2 c
          refine lv_iconst hx hb dX11_readLine_180 zc_i5 ?_
          refine lv_goto (tgt := 186) hx hb dX11_readLine_181 rfl ?_
          refine zcalli (zrunV (As := [.int 0, .int 5]) (rest := [.int 3, .ref (zad w 5)]) X hml hl hW h0.1 rfl zk_Model_111 (c_Model_number h0 h) rfl ⟨Nat.le_of_ble_eq_true rfl, Nat.le_of_ble_eq_true rfl⟩ ⟨Nat.le_refl 0, Nat.le_refl 0⟩ rfl (Nat.le_of_ble_eq_true rfl) dX11_readLine_186) hW (fun zr30 zm29 H locs h hW => ?_)
          obtain ⟨g, h⟩ := h
          refine ziast X hW h0.2.2.2.2.2.1 g dX11_readLine_189 (fun H locs zm31 ezm31 hW => ?_)
          replace h := h zm31 ezm31
          refine lv_aload_n hx hb dX11_readLine_190 rfl (lv_at hl 0 rfl) ?_
          refine zcallv (zrunV (As := []) (rest := []) X hml hl hW h0.1 rfl zk_Model_114 (c_Model_next h0 h) rfl ⟨Nat.le_of_ble_eq_true rfl, Nat.le_of_ble_eq_true rfl⟩ ⟨Nat.le_refl 0, Nat.le_refl 0⟩ rfl (Nat.le_of_ble_eq_true rfl) dX11_readLine_191) hW (fun zm32 H locs h hW => ?_)
          refine lv_goto (tgt := 218) hx hb dX11_readLine_194 rfl ?_
          exact zJ_218  zm32 H locs ls hW (lv_sub hl [0] rfl) h
      · replace h := h.2 c
        refine lv_iconst hx hb dX11_readLine_168 zc_i2 ?_
        refine lv_goto (tgt := 173) hx hb dX11_readLine_169 rfl ?_
        refine lv_aload_n hx hb dX11_readLine_173 rfl (lv_at hl 0 rfl) ?_
        refine lv_iconst hx hb dX11_readLine_174 zc_i0 ?_
        refine lv_iload_n hx hb dX11_readLine_175 rfl (lv_at hl 1 rfl) ?_
        refine lv_iconst hx hb dX11_readLine_176 zc_i5 ?_
        refine lv_icmp_ne (tgt := 184) hx hb dX11_readLine_177 rfl (fun c => ?_) (fun c => ?_)
        · replace h := h.1 c
          refine lv_bipush hx hb dX11_readLine_184 zc_b99 ?_
          refine zcalli (zrunV (As := [.int 0, .int 99]) (rest := [.int 2, .ref (zad w 5)]) X hml hl hW h0.1 rfl zk_Model_111 (c_Model_number h0 h) rfl ⟨Nat.le_of_ble_eq_true rfl, Nat.le_of_ble_eq_true rfl⟩ ⟨Nat.le_refl 0, Nat.le_refl 0⟩ rfl (Nat.le_of_ble_eq_true rfl) dX11_readLine_186) hW (fun zr35 zm34 H locs h hW => ?_)
          obtain ⟨g, h⟩ := h
          refine ziast X hW h0.2.2.2.2.2.1 g dX11_readLine_189 (fun H locs zm36 ezm36 hW => ?_)
          replace h := h zm36 ezm36
          refine lv_aload_n hx hb dX11_readLine_190 rfl (lv_at hl 0 rfl) ?_
          refine zcallv (zrunV (As := []) (rest := []) X hml hl hW h0.1 rfl zk_Model_114 (c_Model_next h0 h) rfl ⟨Nat.le_of_ble_eq_true rfl, Nat.le_of_ble_eq_true rfl⟩ ⟨Nat.le_refl 0, Nat.le_refl 0⟩ rfl (Nat.le_of_ble_eq_true rfl) dX11_readLine_191) hW (fun zm37 H locs h hW => ?_)
          refine lv_goto (tgt := 218) hx hb dX11_readLine_194 rfl ?_
          exact zJ_218  zm37 H locs ls hW (lv_sub hl [0] rfl) h
        · replace h := h.2 c
          refine lv_iconst hx hb dX11_readLine_180 zc_i5 ?_
          refine lv_goto (tgt := 186) hx hb dX11_readLine_181 rfl ?_
          refine zcalli (zrunV (As := [.int 0, .int 5]) (rest := [.int 2, .ref (zad w 5)]) X hml hl hW h0.1 rfl zk_Model_111 (c_Model_number h0 h) rfl ⟨Nat.le_of_ble_eq_true rfl, Nat.le_of_ble_eq_true rfl⟩ ⟨Nat.le_refl 0, Nat.le_refl 0⟩ rfl (Nat.le_of_ble_eq_true rfl) dX11_readLine_186) hW (fun zr40 zm39 H locs h hW => ?_)
          obtain ⟨g, h⟩ := h
          refine ziast X hW h0.2.2.2.2.2.1 g dX11_readLine_189 (fun H locs zm41 ezm41 hW => ?_)
          replace h := h zm41 ezm41
          refine lv_aload_n hx hb dX11_readLine_190 rfl (lv_at hl 0 rfl) ?_
          refine zcallv (zrunV (As := []) (rest := []) X hml hl hW h0.1 rfl zk_Model_114 (c_Model_next h0 h) rfl ⟨Nat.le_of_ble_eq_true rfl, Nat.le_of_ble_eq_true rfl⟩ ⟨Nat.le_refl 0, Nat.le_refl 0⟩ rfl (Nat.le_of_ble_eq_true rfl) dX11_readLine_191) hW (fun zm42 H locs h hW => ?_)
          refine lv_goto (tgt := 218) hx hb dX11_readLine_194 rfl ?_
          exact zJ_218  zm42 H locs ls hW (lv_sub hl [0] rfl) h
    replace h := h.2
    by_cases c6 : zx3 = 6
    · replace h := h.1 c6
      refine lv_tableIn (off := 83) (tgt := 155) hx hb dX11_readLine_72 (by rw [c6]; decide) (by rw [c6]; decide) (by rw [c6]; rfl) rfl ?_
      refine lv_aload_n hx hb dX11_readLine_155 rfl (lv_at hl 0 rfl) ?_
      refine zcallv (zrunV (As := []) (rest := []) X hml hl hW h0.1 rfl zk_Model_114 (c_Model_next h0 h) rfl ⟨Nat.le_of_ble_eq_true rfl, Nat.le_of_ble_eq_true rfl⟩ ⟨Nat.le_refl 0, Nat.le_refl 0⟩ rfl (Nat.le_of_ble_eq_true rfl) dX11_readLine_156) hW (fun zm44 H locs h hW => ?_)
      refine lv_aload_n hx hb dX11_readLine_159 rfl (lv_at hl 0 rfl) ?_
      refine zg_Model_reads X hW h0 zu_1032 dX11_readLine_160 ?_
      refine lv_iload_n hx hb dX11_readLine_163 rfl (lv_at hl 1 rfl) ?_
      refine lv_iconst hx hb dX11_readLine_164 zc_i5 ?_
      refine lv_icmp_ne (tgt := 172) hx hb dX11_readLine_165 rfl (fun c => ?_) (fun c => ?_)
      · replace h := h.1 c
        refine lv_iconst hx hb dX11_readLine_172 zc_i3 ?_
        refine lv_aload_n hx hb dX11_readLine_173 rfl (lv_at hl 0 rfl) ?_
        refine lv_iconst hx hb dX11_readLine_174 zc_i0 ?_
        refine lv_iload_n hx hb dX11_readLine_175 rfl (lv_at hl 1 rfl) ?_
        refine lv_iconst hx hb dX11_readLine_176 zc_i5 ?_
        refine lv_icmp_ne (tgt := 184) hx hb dX11_readLine_177 rfl (fun c => ?_) (fun c => ?_)
        · replace h := h.1 c
          refine lv_bipush hx hb dX11_readLine_184 zc_b99 ?_
          refine zcalli (zrunV (As := [.int 0, .int 99]) (rest := [.int 3, .ref (zad w 5)]) X hml hl hW h0.1 rfl zk_Model_111 (c_Model_number h0 h) rfl ⟨Nat.le_of_ble_eq_true rfl, Nat.le_of_ble_eq_true rfl⟩ ⟨Nat.le_refl 0, Nat.le_refl 0⟩ rfl (Nat.le_of_ble_eq_true rfl) dX11_readLine_186) hW (fun zr47 zm46 H locs h hW => ?_)
          obtain ⟨g, h⟩ := h
          refine ziast X hW h0.2.2.2.2.2.1 g dX11_readLine_189 (fun H locs zm48 ezm48 hW => ?_)
          replace h := h zm48 ezm48
          refine lv_aload_n hx hb dX11_readLine_190 rfl (lv_at hl 0 rfl) ?_
          refine zcallv (zrunV (As := []) (rest := []) X hml hl hW h0.1 rfl zk_Model_114 (c_Model_next h0 h) rfl ⟨Nat.le_of_ble_eq_true rfl, Nat.le_of_ble_eq_true rfl⟩ ⟨Nat.le_refl 0, Nat.le_refl 0⟩ rfl (Nat.le_of_ble_eq_true rfl) dX11_readLine_191) hW (fun zm49 H locs h hW => ?_)
          refine lv_goto (tgt := 218) hx hb dX11_readLine_194 rfl ?_
          exact zJ_218  zm49 H locs ls hW (lv_sub hl [0] rfl) h
        · replace h := h.2 c
          refine lv_iconst hx hb dX11_readLine_180 zc_i5 ?_
          refine lv_goto (tgt := 186) hx hb dX11_readLine_181 rfl ?_
          refine zcalli (zrunV (As := [.int 0, .int 5]) (rest := [.int 3, .ref (zad w 5)]) X hml hl hW h0.1 rfl zk_Model_111 (c_Model_number h0 h) rfl ⟨Nat.le_of_ble_eq_true rfl, Nat.le_of_ble_eq_true rfl⟩ ⟨Nat.le_refl 0, Nat.le_refl 0⟩ rfl (Nat.le_of_ble_eq_true rfl) dX11_readLine_186) hW (fun zr52 zm51 H locs h hW => ?_)
          obtain ⟨g, h⟩ := h
          refine ziast X hW h0.2.2.2.2.2.1 g dX11_readLine_189 (fun H locs zm53 ezm53 hW => ?_)
          replace h := h zm53 ezm53
          refine lv_aload_n hx hb dX11_readLine_190 rfl (lv_at hl 0 rfl) ?_
          refine zcallv (zrunV (As := []) (rest := []) X hml hl hW h0.1 rfl zk_Model_114 (c_Model_next h0 h) rfl ⟨Nat.le_of_ble_eq_true rfl, Nat.le_of_ble_eq_true rfl⟩ ⟨Nat.le_refl 0, Nat.le_refl 0⟩ rfl (Nat.le_of_ble_eq_true rfl) dX11_readLine_191) hW (fun zm54 H locs h hW => ?_)
          refine lv_goto (tgt := 218) hx hb dX11_readLine_194 rfl ?_
          exact zJ_218  zm54 H locs ls hW (lv_sub hl [0] rfl) h
      · replace h := h.2 c
        refine lv_iconst hx hb dX11_readLine_168 zc_i2 ?_
        refine lv_goto (tgt := 173) hx hb dX11_readLine_169 rfl ?_
        refine lv_aload_n hx hb dX11_readLine_173 rfl (lv_at hl 0 rfl) ?_
        refine lv_iconst hx hb dX11_readLine_174 zc_i0 ?_
        refine lv_iload_n hx hb dX11_readLine_175 rfl (lv_at hl 1 rfl) ?_
        refine lv_iconst hx hb dX11_readLine_176 zc_i5 ?_
        refine lv_icmp_ne (tgt := 184) hx hb dX11_readLine_177 rfl (fun c => ?_) (fun c => ?_)
        · replace h := h.1 c
          refine lv_bipush hx hb dX11_readLine_184 zc_b99 ?_
          refine zcalli (zrunV (As := [.int 0, .int 99]) (rest := [.int 2, .ref (zad w 5)]) X hml hl hW h0.1 rfl zk_Model_111 (c_Model_number h0 h) rfl ⟨Nat.le_of_ble_eq_true rfl, Nat.le_of_ble_eq_true rfl⟩ ⟨Nat.le_refl 0, Nat.le_refl 0⟩ rfl (Nat.le_of_ble_eq_true rfl) dX11_readLine_186) hW (fun zr57 zm56 H locs h hW => ?_)
          obtain ⟨g, h⟩ := h
          refine ziast X hW h0.2.2.2.2.2.1 g dX11_readLine_189 (fun H locs zm58 ezm58 hW => ?_)
          replace h := h zm58 ezm58
          refine lv_aload_n hx hb dX11_readLine_190 rfl (lv_at hl 0 rfl) ?_
          refine zcallv (zrunV (As := []) (rest := []) X hml hl hW h0.1 rfl zk_Model_114 (c_Model_next h0 h) rfl ⟨Nat.le_of_ble_eq_true rfl, Nat.le_of_ble_eq_true rfl⟩ ⟨Nat.le_refl 0, Nat.le_refl 0⟩ rfl (Nat.le_of_ble_eq_true rfl) dX11_readLine_191) hW (fun zm59 H locs h hW => ?_)
          refine lv_goto (tgt := 218) hx hb dX11_readLine_194 rfl ?_
          exact zJ_218  zm59 H locs ls hW (lv_sub hl [0] rfl) h
        · replace h := h.2 c
          refine lv_iconst hx hb dX11_readLine_180 zc_i5 ?_
          refine lv_goto (tgt := 186) hx hb dX11_readLine_181 rfl ?_
          refine zcalli (zrunV (As := [.int 0, .int 5]) (rest := [.int 2, .ref (zad w 5)]) X hml hl hW h0.1 rfl zk_Model_111 (c_Model_number h0 h) rfl ⟨Nat.le_of_ble_eq_true rfl, Nat.le_of_ble_eq_true rfl⟩ ⟨Nat.le_refl 0, Nat.le_refl 0⟩ rfl (Nat.le_of_ble_eq_true rfl) dX11_readLine_186) hW (fun zr62 zm61 H locs h hW => ?_)
          obtain ⟨g, h⟩ := h
          refine ziast X hW h0.2.2.2.2.2.1 g dX11_readLine_189 (fun H locs zm63 ezm63 hW => ?_)
          replace h := h zm63 ezm63
          refine lv_aload_n hx hb dX11_readLine_190 rfl (lv_at hl 0 rfl) ?_
          refine zcallv (zrunV (As := []) (rest := []) X hml hl hW h0.1 rfl zk_Model_114 (c_Model_next h0 h) rfl ⟨Nat.le_of_ble_eq_true rfl, Nat.le_of_ble_eq_true rfl⟩ ⟨Nat.le_refl 0, Nat.le_refl 0⟩ rfl (Nat.le_of_ble_eq_true rfl) dX11_readLine_191) hW (fun zm64 H locs h hW => ?_)
          refine lv_goto (tgt := 218) hx hb dX11_readLine_194 rfl ?_
          exact zJ_218  zm64 H locs ls hW (lv_sub hl [0] rfl) h
    replace h := h.2
    by_cases c7 : zx3 = 7
    · replace h := h.1 c7
      refine lv_tableIn (off := 125) (tgt := 197) hx hb dX11_readLine_72 (by rw [c7]; decide) (by rw [c7]; decide) (by rw [c7]; rfl) rfl ?_
      refine lv_aload_n hx hb dX11_readLine_197 rfl (lv_at hl 0 rfl) ?_
      refine zcallv (zrunV (As := []) (rest := []) X hml hl hW h0.1 rfl zk_Model_114 (c_Model_next h0 h) rfl ⟨Nat.le_of_ble_eq_true rfl, Nat.le_of_ble_eq_true rfl⟩ ⟨Nat.le_refl 0, Nat.le_refl 0⟩ rfl (Nat.le_of_ble_eq_true rfl) dX11_readLine_198) hW (fun zm66 H locs h hW => ?_)
      refine lv_goto (tgt := 218) hx hb dX11_readLine_201 rfl ?_
      exact zJ_218  zm66 H locs ls hW (lv_sub hl [0] rfl) h
    replace h := h.2
    replace h := h c0 c1 c2 c3 c4 c5 c6 c7
    refine lv_tableOut (tgt := 204) hx hb dX11_readLine_72 (zsw 7 (Nat.le_of_ble_eq_true rfl) (fun j hj => ?_)) rfl ?_
    · rcases (show j = 0 ∨ j = 1 ∨ j = 2 ∨ j = 3 ∨ j = 4 ∨ j = 5 ∨ j = 6 ∨ j = 7 by omega) with rfl | rfl | rfl | rfl | rfl | rfl | rfl | rfl
      · exact c0
      · exact c1
      · exact c2
      · exact c3
      · exact c4
      · exact c5
      · exact c6
      · exact c7
    refine lv_aload_n hx hb dX11_readLine_204 rfl (lv_at hl 0 rfl) ?_
    refine zg_Model_reads X hW h0 zu_1032 dX11_readLine_205 ?_
    refine lv_iconst hx hb dX11_readLine_208 zc_i4 ?_
    refine lv_iload_n hx hb dX11_readLine_209 rfl (lv_at hl 1 rfl) ?_
    refine lv_bipush hx hb dX11_readLine_210 zc_b7 ?_
    refine lv_isub hx hb dX11_readLine_212 ?_
    obtain ⟨g, h⟩ := h
    refine ziast X hW h0.2.2.2.2.2.1 g dX11_readLine_213 (fun H locs zm68 ezm68 hW => ?_)
    replace h := h zm68 ezm68
    refine lv_aload_n hx hb dX11_readLine_214 rfl (lv_at hl 0 rfl) ?_
    refine zcallv (zrunV (As := []) (rest := []) X hml hl hW h0.1 rfl zk_Model_146 (c_Model_readEnds h0 h) rfl ⟨Nat.le_of_ble_eq_true rfl, Nat.le_of_ble_eq_true rfl⟩ ⟨Nat.le_refl 0, Nat.le_refl 0⟩ rfl (Nat.le_of_ble_eq_true rfl) dX11_readLine_215) hW (fun zm69 H locs h hW => ?_)
    exact zJ_218  zm69 H locs ls hW (lv_sub hl [0] rfl) h
  have zJ_59 : ∀ (x_1 : Int32) (x_2 : Int32) (M : zMem) (H : Heap) (locs : List Loc) (ls : Array Slot), zWo w s.heap M H locs → lv_has ls 3 [(0, .ref (zad w 0)), (1, .int x_1), (2, .int x_2)] → wpJ_Model_readLine_59  post x_1 x_2 M → W p l e (zRm 5 113) s m ([.ref (zad w 0)] : List Value).toArray below meth c H locs 0 0 (MQ below (va_Qv post (zB w) (zA w)) ([.ref (zad w 0)] : List Value).toArray s 0 0 (zA w)) (F0 m 59 ls []) := by
    intro x_1 x_2 M H locs ls hW hl h
    unfold wpJ_Model_readLine_59 at h
    refine lv_aload_n hx hb dX11_readLine_59 rfl (lv_at hl 0 rfl) ?_
    refine lv_dup hx hb dX11_readLine_60 rfl ?_
    refine zg_Model_toldOnes X hW h0 zu_1033 dX11_readLine_61 ?_
    refine lv_iconst hx hb dX11_readLine_64 zc_i1 ?_
    refine lv_iload_n hx hb dX11_readLine_65 rfl (lv_at hl 2 rfl) ?_
    refine lv_ishl hx hb dX11_readLine_66 ?_
    refine lv_ior hx hb dX11_readLine_67 ?_
    refine zp_Model_toldOnes X hW h0 zu_1033 dX11_readLine_68 (fun H locs zm2 ezm2 hW => ?_)
    replace h := h zm2 ezm2
    exact zJ_71 x_1 zm2 H locs ls hW (lv_sub hl [0, 1] rfl) h
  have zJ_42 : ∀ (x_1 : Int32) (x_2 : Int32) (M : zMem) (H : Heap) (locs : List Loc) (ls : Array Slot), zWo w s.heap M H locs → lv_has ls 3 [(0, .ref (zad w 0)), (1, .int x_1), (2, .int x_2)] → wpJ_Model_readLine_42  post x_1 x_2 M → W p l e (zRm 5 113) s m ([.ref (zad w 0)] : List Value).toArray below meth c H locs 0 0 (MQ below (va_Qv post (zB w) (zA w)) ([.ref (zad w 0)] : List Value).toArray s 0 0 (zA w)) (F0 m 42 ls []) := by
    intro x_1 x_2 M H locs ls hW hl h
    unfold wpJ_Model_readLine_42 at h
    refine lv_aload_n hx hb dX11_readLine_42 rfl (lv_at hl 0 rfl) ?_
    refine zg_Model_toldOnes X hW h0 zu_1033 dX11_readLine_43 ?_
    refine lv_iload_n hx hb dX11_readLine_46 rfl (lv_at hl 2 rfl) ?_
    refine lv_ishr hx hb dX11_readLine_47 ?_
    refine lv_iconst hx hb dX11_readLine_48 zc_i1 ?_
    refine lv_iand hx hb dX11_readLine_49 ?_
    refine lv_iconst hx hb dX11_readLine_50 zc_i1 ?_
    refine lv_icmp_ne (tgt := 59) hx hb dX11_readLine_51 rfl (fun c => ?_) (fun c => ?_)
    · replace h := h.1 c
      exact zJ_59 x_1 x_2 M H locs ls hW (lv_sub hl [0, 1, 2] rfl) h
    · replace h := h.2 c
      refine lv_aload_n hx hb dX11_readLine_54 rfl (lv_at hl 0 rfl) ?_
      refine lv_iconst hx hb dX11_readLine_55 zc_i4 ?_
      refine zcallv (zrunV (As := [.int 4]) (rest := []) X hml hl hW h0.1 rfl zk_Model_103 (c_Model_fails h0 h) rfl ⟨Nat.le_of_ble_eq_true rfl, Nat.le_of_ble_eq_true rfl⟩ ⟨Nat.le_refl 0, Nat.le_refl 0⟩ rfl (Nat.le_of_ble_eq_true rfl) dX11_readLine_56) hW (fun zm71 H locs h hW => ?_)
      exact zJ_59 x_1 x_2 zm71 H locs ls hW (lv_sub hl [0, 1, 2] rfl) h
  have zJ_31 : ∀ (x_1 : Int32) (s_0 : Int32) (M : zMem) (H : Heap) (locs : List Loc) (ls : Array Slot), zWo w s.heap M H locs → lv_has ls 3 [(0, .ref (zad w 0)), (1, .int x_1)] → wpJ_Model_readLine_31  post x_1 s_0 M → W p l e (zRm 5 113) s m ([.ref (zad w 0)] : List Value).toArray below meth c H locs 0 0 (MQ below (va_Qv post (zB w) (zA w)) ([.ref (zad w 0)] : List Value).toArray s 0 0 (zA w)) (F0 m 31 ls [.int s_0]) := by
    intro x_1 s_0 M H locs ls hW hl h
    unfold wpJ_Model_readLine_31 at h
    refine lv_istore_n (lv' := [(2, .int s_0), (0, .ref (zad w 0)), (1, .int x_1)]) hx hb dX11_readLine_31 rfl hl (Nat.le_of_ble_eq_true rfl) rfl (fun ls hl => ?_)
    refine lv_iload_n hx hb dX11_readLine_32 rfl (lv_at hl 0 rfl) ?_
    refine lv_iconst hx hb dX11_readLine_33 zc_i3 ?_
    refine lv_icmp_eq (tgt := 42) hx hb dX11_readLine_34 rfl (fun c => ?_) (fun c => ?_)
    · replace h := h.1 c
      exact zJ_42 x_1 s_0 M H locs ls hW (lv_sub hl [1, 2, 0] rfl) h
    · replace h := h.2 c
      refine lv_iload_n hx hb dX11_readLine_37 rfl (lv_at hl 0 rfl) ?_
      refine lv_iconst hx hb dX11_readLine_38 zc_i4 ?_
      refine lv_icmp_le (tgt := 71) hx hb dX11_readLine_39 rfl (fun c => ?_) (fun c => ?_)
      · replace h := h.1 c
        exact zJ_71 x_1 M H locs ls hW (lv_sub hl [1, 2] rfl) h
      · replace h := h.2 c
        exact zJ_42 x_1 s_0 M H locs ls hW (lv_sub hl [1, 2, 0] rfl) h
  unfold wp_Model_readLine at h
  have zMain : ∀ (H : Heap) (locs : List Loc) (ls : Array Slot), zWo w s.heap M H locs → lv_has ls 3 [(0, .ref (zad w 0))] → W p l e (zRm 5 113) s m ([.ref (zad w 0)] : List Value).toArray below meth c H locs 0 0 (MQ below (va_Qv post (zB w) (zA w)) ([.ref (zad w 0)] : List Value).toArray s 0 0 (zA w)) (F0 m 0 ls []) := by
    intro H locs ls hW hl
    refine lv_aload_n hx hb dX11_readLine_0 rfl (lv_at hl 0 rfl) ?_
    refine zg_Model_value X hW h0 zu_1028 dX11_readLine_1 ?_
    refine lv_topi (fun zx1 ezx1 => ?_)
    replace h := h zx1 ezx1
    refine lv_istore_n (lv' := [(1, .int zx1), (0, .ref (zad w 0))]) hx hb dX11_readLine_4 rfl hl (Nat.le_of_ble_eq_true rfl) rfl (fun ls hl => ?_)
    refine lv_aload_n hx hb dX11_readLine_5 rfl (lv_at hl 1 rfl) ?_
    refine zg_Model_token X hW h0 zu_1027 dX11_readLine_6 ?_
    refine lv_iconst hx hb dX11_readLine_9 zc_i1 ?_
    refine lv_icmp_eq (tgt := 19) hx hb dX11_readLine_10 rfl (fun c => ?_) (fun c => ?_)
    · replace h := h.1 c
      refine lv_iload_n hx hb dX11_readLine_19 rfl (lv_at hl 0 rfl) ?_
      refine lv_bipush hx hb dX11_readLine_20 zc_b7 ?_
      refine lv_icmp_le (tgt := 30) hx hb dX11_readLine_22 rfl (fun c => ?_) (fun c => ?_)
      · replace h := h.1 c
        refine lv_iload_n hx hb dX11_readLine_30 rfl (lv_at hl 0 rfl) ?_
        exact zJ_31 zx1 zx1 M H locs ls hW (lv_sub hl [1, 0] rfl) h
      · replace h := h.2 c
        refine lv_bipush hx hb dX11_readLine_25 zc_b7 ?_
        refine lv_goto (tgt := 31) hx hb dX11_readLine_27 rfl ?_
        exact zJ_31 zx1 7 M H locs ls hW (lv_sub hl [1, 0] rfl) h
    · replace h := h.2 c
      refine lv_aload_n hx hb dX11_readLine_13 rfl (lv_at hl 1 rfl) ?_
      refine lv_iconst hx hb dX11_readLine_14 zc_i2 ?_
      refine zcallv (zrunV (As := [.int 2]) (rest := []) X hml hl hW h0.1 rfl zk_Model_103 (c_Model_fails h0 h) rfl ⟨Nat.le_of_ble_eq_true rfl, Nat.le_of_ble_eq_true rfl⟩ ⟨Nat.le_refl 0, Nat.le_refl 0⟩ rfl (Nat.le_of_ble_eq_true rfl) dX11_readLine_15) hW (fun zm73 H locs h hW => ?_)
      exact zretv X hr hlk hW h dX11_readLine_18
  exact zMain s.heap [] ls hW hl
def wpJ_Model_wholeFault_80  (K103 : Int32 → zMem → Prop) (J : Int32 → Int32 → zMem → Prop) (Q : Int32 → zMem → Prop) (x_1 : Int32) (x_2 : Int32) (x_3 : Int32)  (M : zMem) : Prop :=
  vp_in ((30 + (8 * x_1)) + x_3) 100 ∧ ∀ zx1 : Int32, zx1 = x_2 + (M 5 (ix ((30 + (8 * x_1)) + x_3))) → ∀ zx2 : Int32, zx2 = x_3 + 1 → J zx1 zx2 M
def wpB_Model_wholeFault_32  (x_1 : Int32) (K103 : Int32 → zMem → Prop) (Q : Int32 → zMem → Prop) (J : Int32 → Int32 → zMem → Prop) (x_2 : Int32) (x_3 : Int32) (M : zMem) : Prop :=
  vp_in 0 100 ∧ ((M 5 (ix 0)) ≤ x_3 → K103 x_2 M) ∧ (¬ (M 5 (ix 0)) ≤ x_3 → (x_1 ≤ 0 → wpJ_Model_wholeFault_80  K103 J Q x_1 x_2 x_3 M) ∧ (¬ x_1 ≤ 0 → (¬ (((M 0 14) >>> (x_1 &&& 31)) &&& 1) = 0 → wpJ_Model_wholeFault_80  K103 J Q x_1 x_2 x_3 M) ∧ ((((M 0 14) >>> (x_1 &&& 31)) &&& 1) = 0 → vp_in (30 + x_3) 100 ∧ vp_in ((30 + (8 * x_1)) + x_3) 100 ∧ ∀ zm3 : zMem, zm3 = zup M 5 (ix ((30 + (8 * x_1)) + x_3)) (M 5 (ix (30 + x_3))) → wpJ_Model_wholeFault_80  K103 J Q x_1 x_2 x_3 zm3)))
def wpB_Model_wholeFault_23    (Q : Int32 → zMem → Prop) (J : Int32 → zMem → Prop) (x_1 : Int32) (M : zMem) : Prop :=
  (3 ≤ x_1 → Q 0 M) ∧ (¬ 3 ≤ x_1 → ∃ n : Nat, zlp2 (wpB_Model_wholeFault_32  x_1 (fun (zx5 : Int32) (zm4 : zMem) => (¬ zx5 = 0 → ∀ zx6 : Int32, zx6 = x_1 + 1 → J zx6 zm4) ∧ (zx5 = 0 → Q 7 zm4)) Q) n 0 0 M)
def wp_Model_wholeFault  (M : zMem) (Q : Int32 → zMem → Prop) : Prop :=
  vp_in 0 100 ∧ ((M 5 (ix 0)) = 0 → Q 6 M) ∧ (¬ (M 5 (ix 0)) = 0 → vp_in 1 100 ∧ (¬ (M 5 (ix 1)) = 0 → ∃ n : Nat, zlp1 (wpB_Model_wholeFault_23    Q) n 0 M) ∧ ((M 5 (ix 1)) = 0 → Q 6 M))
set_option maxHeartbeats 4000000 in
set_option maxRecDepth 20000 in
theorem c_Model_wholeFault {l : Launch} {w : zWd} {M : zMem} {post : Int32 → zMem → Prop} (h0 : zI_Model w) (h : wp_Model_wholeFault  M post) : zMi l ⟨"HandToHandModel", "wholeFault", "()I"⟩ prog_13_method_19_code 4 (Option.some .int) 0 0 w [.ref (zad w 0)] M post := by
  refine zMet (by decide) (Nat.le_of_ble_eq_true rfl) ?_
  intro p e s m below meth c X hr hlk hml hW ls hl
  have hx := X.1
  have hb := X.2.1
  have hl : lv_has ls 4 [(0, .ref (zad w 0))] := hl
  have zJ_80 : ∀ (x_1 : Int32) (x_2 : Int32) (x_3 : Int32) (K103 : Int32 → zMem → Prop) (zK103 : ∀ (y_2 : Int32) (M : zMem) (H : Heap) (locs : List Loc) (ls : Array Slot), zWo w s.heap M H locs → lv_has ls 4 [(0, .ref (zad w 0)), (1, .int x_1), (2, .int y_2)] → K103 y_2 M → W p l e (zRm 0 0) s m ([.ref (zad w 0)] : List Value).toArray below meth c H locs 0 0 (MQ below (va_Qi post (zB w) (zA w)) ([.ref (zad w 0)] : List Value).toArray s 0 0 (zA w)) (F0 m 103 ls [])) (J : Int32 → Int32 → zMem → Prop) (zJ : ∀ (y_2 : Int32) (y_3 : Int32) (M : zMem) (H : Heap) (locs : List Loc) (ls : Array Slot), zWo w s.heap M H locs → lv_has ls 4 [(0, .ref (zad w 0)), (1, .int x_1), (2, .int y_2), (3, .int y_3)] → J y_2 y_3 M → W p l e (zRm 0 0) s m ([.ref (zad w 0)] : List Value).toArray below meth c H locs 0 0 (MQ below (va_Qi post (zB w) (zA w)) ([.ref (zad w 0)] : List Value).toArray s 0 0 (zA w)) (F0 m 32 ls [])) (M : zMem) (H : Heap) (locs : List Loc) (ls : Array Slot), zWo w s.heap M H locs → lv_has ls 4 [(0, .ref (zad w 0)), (1, .int x_1), (2, .int x_2), (3, .int x_3)] → wpJ_Model_wholeFault_80  K103 J post x_1 x_2 x_3 M → W p l e (zRm 0 0) s m ([.ref (zad w 0)] : List Value).toArray below meth c H locs 0 0 (MQ below (va_Qi post (zB w) (zA w)) ([.ref (zad w 0)] : List Value).toArray s 0 0 (zA w)) (F0 m 80 ls []) := by
    intro x_1 x_2 x_3 K103 zK103 J zJ M H locs ls hW hl h
    unfold wpJ_Model_wholeFault_80 at h
    refine lv_iload_n hx hb dX11_wholeFault_80 rfl (lv_at hl 2 rfl) ?_
    refine lv_aload_n hx hb dX11_wholeFault_81 rfl (lv_at hl 0 rfl) ?_
    refine zg_Model_reads X hW h0 zu_1032 dX11_wholeFault_82 ?_
    refine lv_bipush hx hb dX11_wholeFault_85 zc_b30 ?_
    refine lv_bipush hx hb dX11_wholeFault_87 zc_b8 ?_
    refine lv_iload_n hx hb dX11_wholeFault_89 rfl (lv_at hl 1 rfl) ?_
    refine lv_imul hx hb dX11_wholeFault_90 ?_
    refine lv_iadd hx hb dX11_wholeFault_91 ?_
    refine lv_iload_n hx hb dX11_wholeFault_92 rfl (lv_at hl 3 rfl) ?_
    refine lv_iadd hx hb dX11_wholeFault_93 ?_
    obtain ⟨g, h⟩ := h
    refine ziald X hW h0.2.2.2.2.2.1 g dX11_wholeFault_94 ?_
    refine lv_iadd hx hb dX11_wholeFault_95 ?_
    refine lv_topi (fun zx1 ezx1 => ?_)
    replace h := h zx1 ezx1
    refine lv_istore_n (lv' := [(2, .int zx1), (0, .ref (zad w 0)), (1, .int x_1), (3, .int x_3)]) hx hb dX11_wholeFault_96 rfl hl (Nat.le_of_ble_eq_true rfl) rfl (fun ls hl => ?_)
    obtain ⟨zx2, ezx2⟩ : ∃ y : Int32, y = x_3 + 1 := ⟨_, rfl⟩
    replace h := h zx2 ezx2
    refine lv_iinc (v := zx2) (lv' := [(3, .int zx2), (2, .int zx1), (0, .ref (zad w 0)), (1, .int x_1)]) hx hb dX11_wholeFault_97 hl (k := 3) rfl (by rw [ezx2, zc_i1]) (Nat.le_of_ble_eq_true rfl) rfl (fun ls hl => ?_)
    refine lv_goto (tgt := 32) hx hb dX11_wholeFault_100 rfl ?_
    exact zJ zx1 zx2 M H locs ls hW (lv_sub hl [2, 3, 1, 0] rfl) h
  have zL_32 : ∀ (x_1 : Int32) (K103 : Int32 → zMem → Prop) (zK103 : ∀ (y_2 : Int32) (M : zMem) (H : Heap) (locs : List Loc) (ls : Array Slot), zWo w s.heap M H locs → lv_has ls 4 [(0, .ref (zad w 0)), (1, .int x_1), (2, .int y_2)] → K103 y_2 M → W p l e (zRm 0 0) s m ([.ref (zad w 0)] : List Value).toArray below meth c H locs 0 0 (MQ below (va_Qi post (zB w) (zA w)) ([.ref (zad w 0)] : List Value).toArray s 0 0 (zA w)) (F0 m 103 ls [])), ∀ (n : Nat) (x_2 : Int32) (x_3 : Int32) (M : zMem) (H : Heap) (locs : List Loc) (ls : Array Slot), zWo w s.heap M H locs → lv_has ls 4 [(0, .ref (zad w 0)), (1, .int x_1), (2, .int x_2), (3, .int x_3)] → zlp2 (wpB_Model_wholeFault_32  x_1 K103 post) n x_2 x_3 M → W p l e (zRm 0 0) s m ([.ref (zad w 0)] : List Value).toArray below meth c H locs 0 0 (MQ below (va_Qi post (zB w) (zA w)) ([.ref (zad w 0)] : List Value).toArray s 0 0 (zA w)) (F0 m 32 ls []) := by
    intro x_1 K103 zK103 n
    induction n with
    | zero => intro x_2 x_3 M H locs ls hW hl h; exact h.elim
    | succ n zJ =>
      intro x_2 x_3 M H locs ls hW hl h
      have h : wpB_Model_wholeFault_32  x_1 K103 post (zlp2 (wpB_Model_wholeFault_32  x_1 K103 post) n) x_2 x_3 M := h
      unfold wpB_Model_wholeFault_32 at h
      refine lv_iload_n hx hb dX11_wholeFault_32 rfl (lv_at hl 3 rfl) ?_
      refine lv_aload_n hx hb dX11_wholeFault_33 rfl (lv_at hl 0 rfl) ?_
      refine zg_Model_reads X hW h0 zu_1032 dX11_wholeFault_34 ?_
      refine lv_iconst hx hb dX11_wholeFault_37 zc_i0 ?_
      obtain ⟨g, h⟩ := h
      refine ziald X hW h0.2.2.2.2.2.1 g dX11_wholeFault_38 ?_
      refine lv_icmp_ge (tgt := 103) hx hb dX11_wholeFault_39 rfl (fun c => ?_) (fun c => ?_)
      · replace h := h.1 c
        exact zK103 x_2 M H locs ls hW (lv_sub hl [0, 1, 2] rfl) h
      · replace h := h.2 c
        refine lv_iload_n hx hb dX11_wholeFault_42 rfl (lv_at hl 1 rfl) ?_
        refine lv_if_le (tgt := 80) hx hb dX11_wholeFault_43 rfl (fun c => ?_) (fun c => ?_)
        · replace h := h.1 c
          exact zJ_80 x_1 x_2 x_3 _ zK103 _ zJ M H locs ls hW (lv_sub hl [0, 1, 2, 3] rfl) h
        · replace h := h.2 c
          refine lv_aload_n hx hb dX11_wholeFault_46 rfl (lv_at hl 0 rfl) ?_
          refine zg_Model_toldSorts X hW h0 zu_1034 dX11_wholeFault_47 ?_
          refine lv_iload_n hx hb dX11_wholeFault_50 rfl (lv_at hl 1 rfl) ?_
          refine lv_ishr hx hb dX11_wholeFault_51 ?_
          refine lv_iconst hx hb dX11_wholeFault_52 zc_i1 ?_
          refine lv_iand hx hb dX11_wholeFault_53 ?_
          refine lv_if_ne (tgt := 80) hx hb dX11_wholeFault_54 rfl (fun c => ?_) (fun c => ?_)
          · replace h := h.1 c
            exact zJ_80 x_1 x_2 x_3 _ zK103 _ zJ M H locs ls hW (lv_sub hl [0, 1, 2, 3] rfl) h
          · replace h := h.2 c
            refine lv_aload_n hx hb dX11_wholeFault_57 rfl (lv_at hl 0 rfl) ?_
            refine zg_Model_reads X hW h0 zu_1032 dX11_wholeFault_58 ?_
            refine lv_bipush hx hb dX11_wholeFault_61 zc_b30 ?_
            refine lv_bipush hx hb dX11_wholeFault_63 zc_b8 ?_
            refine lv_iload_n hx hb dX11_wholeFault_65 rfl (lv_at hl 1 rfl) ?_
            refine lv_imul hx hb dX11_wholeFault_66 ?_
            refine lv_iadd hx hb dX11_wholeFault_67 ?_
            refine lv_iload_n hx hb dX11_wholeFault_68 rfl (lv_at hl 3 rfl) ?_
            refine lv_iadd hx hb dX11_wholeFault_69 ?_
            refine lv_aload_n hx hb dX11_wholeFault_70 rfl (lv_at hl 0 rfl) ?_
            refine zg_Model_reads X hW h0 zu_1032 dX11_wholeFault_71 ?_
            refine lv_bipush hx hb dX11_wholeFault_74 zc_b30 ?_
            refine lv_iload_n hx hb dX11_wholeFault_76 rfl (lv_at hl 3 rfl) ?_
            refine lv_iadd hx hb dX11_wholeFault_77 ?_
            obtain ⟨g, h⟩ := h
            refine ziald X hW h0.2.2.2.2.2.1 g dX11_wholeFault_78 ?_
            obtain ⟨g, h⟩ := h
            refine ziast X hW h0.2.2.2.2.2.1 g dX11_wholeFault_79 (fun H locs zm3 ezm3 hW => ?_)
            replace h := h zm3 ezm3
            exact zJ_80 x_1 x_2 x_3 _ zK103 _ zJ zm3 H locs ls hW (lv_sub hl [0, 1, 2, 3] rfl) h
  have zL_23 :  ∀ (n : Nat) (x_1 : Int32) (M : zMem) (H : Heap) (locs : List Loc) (ls : Array Slot), zWo w s.heap M H locs → lv_has ls 4 [(0, .ref (zad w 0)), (1, .int x_1)] → zlp1 (wpB_Model_wholeFault_23    post) n x_1 M → W p l e (zRm 0 0) s m ([.ref (zad w 0)] : List Value).toArray below meth c H locs 0 0 (MQ below (va_Qi post (zB w) (zA w)) ([.ref (zad w 0)] : List Value).toArray s 0 0 (zA w)) (F0 m 23 ls []) := by
    intro n
    induction n with
    | zero => intro x_1 M H locs ls hW hl h; exact h.elim
    | succ n zJ =>
      intro x_1 M H locs ls hW hl h
      have h : wpB_Model_wholeFault_23    post (zlp1 (wpB_Model_wholeFault_23    post) n) x_1 M := h
      unfold wpB_Model_wholeFault_23 at h
      refine lv_iload_n hx hb dX11_wholeFault_23 rfl (lv_at hl 1 rfl) ?_
      refine lv_iconst hx hb dX11_wholeFault_24 zc_i3 ?_
      refine lv_icmp_ge (tgt := 116) hx hb dX11_wholeFault_25 rfl (fun c => ?_) (fun c => ?_)
      · replace h := h.1 c
        refine lv_iconst hx hb dX11_wholeFault_116 zc_i0 ?_
        exact zreti X hr hlk hW h dX11_wholeFault_117
      · replace h := h.2 c
        refine lv_iconst hx hb dX11_wholeFault_28 zc_i0 ?_
        refine lv_istore_n (lv' := [(2, .int 0), (0, .ref (zad w 0)), (1, .int x_1)]) hx hb dX11_wholeFault_29 rfl hl (Nat.le_of_ble_eq_true rfl) rfl (fun ls hl => ?_)
        refine lv_iconst hx hb dX11_wholeFault_30 zc_i0 ?_
        refine lv_istore_n (lv' := [(3, .int 0), (2, .int 0), (0, .ref (zad w 0)), (1, .int x_1)]) hx hb dX11_wholeFault_31 rfl hl (Nat.le_of_ble_eq_true rfl) rfl (fun ls hl => ?_)
        obtain ⟨n, h⟩ := h
        refine zL_32 x_1 _ (fun zx5 zm4 H locs ls hW hl h => ?_) n 0 0 M H locs ls hW (lv_sub hl [2, 3, 1, 0] rfl) h
        · skip
          refine lv_iload_n hx hb dX11_wholeFault_103 rfl (lv_at hl 2 rfl) ?_
          refine lv_if_ne (tgt := 110) hx hb dX11_wholeFault_104 rfl (fun c => ?_) (fun c => ?_)
          · replace h := h.1 c
            obtain ⟨zx6, ezx6⟩ : ∃ y : Int32, y = x_1 + 1 := ⟨_, rfl⟩
            replace h := h zx6 ezx6
            refine lv_iinc (v := zx6) (lv' := [(1, .int zx6), (0, .ref (zad w 0)), (2, .int zx5)]) hx hb dX11_wholeFault_110 hl (k := 1) rfl (by rw [ezx6, zc_i1]) (Nat.le_of_ble_eq_true rfl) rfl (fun ls hl => ?_)
            refine lv_goto (tgt := 23) hx hb dX11_wholeFault_113 rfl ?_
            exact zJ zx6 zm4 H locs ls hW (lv_sub hl [1, 0] rfl) h
          · replace h := h.2 c
            refine lv_bipush hx hb dX11_wholeFault_107 zc_b7 ?_
            exact zreti X hr hlk hW h dX11_wholeFault_109
  unfold wp_Model_wholeFault at h
  have zMain : ∀ (H : Heap) (locs : List Loc) (ls : Array Slot), zWo w s.heap M H locs → lv_has ls 4 [(0, .ref (zad w 0))] → W p l e (zRm 0 0) s m ([.ref (zad w 0)] : List Value).toArray below meth c H locs 0 0 (MQ below (va_Qi post (zB w) (zA w)) ([.ref (zad w 0)] : List Value).toArray s 0 0 (zA w)) (F0 m 0 ls []) := by
    intro H locs ls hW hl
    refine lv_aload_n hx hb dX11_wholeFault_0 rfl (lv_at hl 0 rfl) ?_
    refine zg_Model_reads X hW h0 zu_1032 dX11_wholeFault_1 ?_
    refine lv_iconst hx hb dX11_wholeFault_4 zc_i0 ?_
    obtain ⟨g, h⟩ := h
    refine ziald X hW h0.2.2.2.2.2.1 g dX11_wholeFault_5 ?_
    refine lv_if_eq (tgt := 18) hx hb dX11_wholeFault_6 rfl (fun c => ?_) (fun c => ?_)
    · replace h := h.1 c
      refine lv_bipush hx hb dX11_wholeFault_18 zc_b6 ?_
      exact zreti X hr hlk hW h dX11_wholeFault_20
    · replace h := h.2 c
      refine lv_aload_n hx hb dX11_wholeFault_9 rfl (lv_at hl 0 rfl) ?_
      refine zg_Model_reads X hW h0 zu_1032 dX11_wholeFault_10 ?_
      refine lv_iconst hx hb dX11_wholeFault_13 zc_i1 ?_
      obtain ⟨g, h⟩ := h
      refine ziald X hW h0.2.2.2.2.2.1 g dX11_wholeFault_14 ?_
      refine lv_if_ne (tgt := 21) hx hb dX11_wholeFault_15 rfl (fun c => ?_) (fun c => ?_)
      · replace h := h.1 c
        refine lv_iconst hx hb dX11_wholeFault_21 zc_i0 ?_
        refine lv_istore_n (lv' := [(1, .int 0), (0, .ref (zad w 0))]) hx hb dX11_wholeFault_22 rfl hl (Nat.le_of_ble_eq_true rfl) rfl (fun ls hl => ?_)
        obtain ⟨n, h⟩ := h
        refine zL_23   n 0 M H locs ls hW (lv_sub hl [1, 0] rfl) h
      · replace h := h.2 c
        refine lv_bipush hx hb dX11_wholeFault_18 zc_b6 ?_
        exact zreti X hr hlk hW h dX11_wholeFault_20
  exact zMain s.heap [] ls hW hl
def wpB_Model_clear_2 (a1 : Int32)   (Q : zMem → Prop) (J : Int32 → zMem → Prop) (x_2 : Int32) (M : zMem) : Prop :=
  (96 ≤ x_2 → Q M) ∧ (¬ 96 ≤ x_2 → vp_in ((96 * a1) + x_2) 384 ∧ ∀ zm1 : zMem, zm1 = zup M 6 (ix ((96 * a1) + x_2)) 0 → ∀ zx2 : Int32, zx2 = x_2 + 1 → J zx2 zm1)
def wp_Model_clear (a1 : Int32) (M : zMem) (Q : zMem → Prop) : Prop :=
  ∃ n : Nat, zlp1 (wpB_Model_clear_2 a1   Q) n 0 M
set_option maxHeartbeats 4000000 in
set_option maxRecDepth 20000 in
theorem c_Model_clear {l : Launch} {w : zWd} {a1 : Int32} {M : zMem} {post : zMem → Prop} (h0 : zI_Model w) (h : wp_Model_clear a1 M post) : zMv l ⟨"HandToHandModel", "clear", "(I)V"⟩ prog_13_method_29_code 3 none 0 0 w [.ref (zad w 0), .int a1] M post := by
  refine zMet (by decide) (Nat.le_of_ble_eq_true rfl) ?_
  intro p e s m below meth c X hr hlk hml hW ls hl
  have hx := X.1
  have hb := X.2.1
  have hl : lv_has ls 3 [(0, .ref (zad w 0)), (1, .int a1)] := hl
  have zL_2 :  ∀ (n : Nat) (x_2 : Int32) (M : zMem) (H : Heap) (locs : List Loc) (ls : Array Slot), zWo w s.heap M H locs → lv_has ls 3 [(0, .ref (zad w 0)), (1, .int a1), (2, .int x_2)] → zlp1 (wpB_Model_clear_2 a1   post) n x_2 M → W p l e (zRm 0 0) s m ([.ref (zad w 0), .int a1] : List Value).toArray below meth c H locs 0 0 (MQ below (va_Qv post (zB w) (zA w)) ([.ref (zad w 0), .int a1] : List Value).toArray s 0 0 (zA w)) (F0 m 2 ls []) := by
    intro n
    induction n with
    | zero => intro x_2 M H locs ls hW hl h; exact h.elim
    | succ n zJ =>
      intro x_2 M H locs ls hW hl h
      have h : wpB_Model_clear_2 a1   post (zlp1 (wpB_Model_clear_2 a1   post) n) x_2 M := h
      unfold wpB_Model_clear_2 at h
      refine lv_iload_n hx hb dX11_clear_2 rfl (lv_at hl 2 rfl) ?_
      refine lv_bipush hx hb dX11_clear_3 zc_b96 ?_
      refine lv_icmp_ge (tgt := 26) hx hb dX11_clear_5 rfl (fun c => ?_) (fun c => ?_)
      · replace h := h.1 c
        exact zretv X hr hlk hW h dX11_clear_26
      · replace h := h.2 c
        refine lv_aload_n hx hb dX11_clear_8 rfl (lv_at hl 0 rfl) ?_
        refine zg_Model_bench X hW h0 zu_1036 dX11_clear_9 ?_
        refine lv_bipush hx hb dX11_clear_12 zc_b96 ?_
        refine lv_iload_n hx hb dX11_clear_14 rfl (lv_at hl 1 rfl) ?_
        refine lv_imul hx hb dX11_clear_15 ?_
        refine lv_iload_n hx hb dX11_clear_16 rfl (lv_at hl 2 rfl) ?_
        refine lv_iadd hx hb dX11_clear_17 ?_
        refine lv_iconst hx hb dX11_clear_18 zc_i0 ?_
        obtain ⟨g, h⟩ := h
        refine ziast X hW h0.2.2.2.2.2.2.1 g dX11_clear_19 (fun H locs zm1 ezm1 hW => ?_)
        replace h := h zm1 ezm1
        obtain ⟨zx2, ezx2⟩ : ∃ y : Int32, y = x_2 + 1 := ⟨_, rfl⟩
        replace h := h zx2 ezx2
        refine lv_iinc (v := zx2) (lv' := [(2, .int zx2), (0, .ref (zad w 0)), (1, .int a1)]) hx hb dX11_clear_20 hl (k := 2) rfl (by rw [ezx2, zc_i1]) (Nat.le_of_ble_eq_true rfl) rfl (fun ls hl => ?_)
        refine lv_goto (tgt := 2) hx hb dX11_clear_23 rfl ?_
        exact zJ zx2 zm1 H locs ls hW (lv_sub hl [1, 2, 0] rfl) h
  unfold wp_Model_clear at h
  have zMain : ∀ (H : Heap) (locs : List Loc) (ls : Array Slot), zWo w s.heap M H locs → lv_has ls 3 [(0, .ref (zad w 0)), (1, .int a1)] → W p l e (zRm 0 0) s m ([.ref (zad w 0), .int a1] : List Value).toArray below meth c H locs 0 0 (MQ below (va_Qv post (zB w) (zA w)) ([.ref (zad w 0), .int a1] : List Value).toArray s 0 0 (zA w)) (F0 m 0 ls []) := by
    intro H locs ls hW hl
    refine lv_iconst hx hb dX11_clear_0 zc_i0 ?_
    refine lv_istore_n (lv' := [(2, .int 0), (0, .ref (zad w 0)), (1, .int a1)]) hx hb dX11_clear_1 rfl hl (Nat.le_of_ble_eq_true rfl) rfl (fun ls hl => ?_)
    obtain ⟨n, h⟩ := h
    refine zL_2   n 0 M H locs ls hW (lv_sub hl [1, 2, 0] rfl) h
  exact zMain s.heap [] ls hW hl
def wp_Model_endOf (a1 : Int32) (M : zMem) (Q : Int32 → zMem → Prop) : Prop :=
  vp_in 1 100 ∧ (a1 = ((M 4 (ix 1)) - 1) → vp_in 0 100 ∧ Q (M 4 (ix 0)) M) ∧ (¬ a1 = ((M 4 (ix 1)) - 1) → vp_in 4 100 ∧ (¬ (M 4 (ix 4)) = 0 → vp_in (20 + a1) 100 ∧ Q (M 4 (ix (20 + a1))) M) ∧ ((M 4 (ix 4)) = 0 → vp_in 0 100 ∧ Q (M 4 (ix 0)) M))
set_option maxHeartbeats 4000000 in
set_option maxRecDepth 20000 in
theorem c_Model_endOf {l : Launch} {w : zWd} {a1 : Int32} {M : zMem} {post : Int32 → zMem → Prop} (h0 : zI_Model w) (h : wp_Model_endOf a1 M post) : zMi l ⟨"HandToHandModel", "endOf", "(I)I"⟩ prog_13_method_24_code 2 (Option.some .int) 0 0 w [.ref (zad w 0), .int a1] M post := by
  refine zMet (by decide) (Nat.le_of_ble_eq_true rfl) ?_
  intro p e s m below meth c X hr hlk hml hW ls hl
  have hx := X.1
  have hb := X.2.1
  have hl : lv_has ls 2 [(0, .ref (zad w 0)), (1, .int a1)] := hl
  unfold wp_Model_endOf at h
  have zMain : ∀ (H : Heap) (locs : List Loc) (ls : Array Slot), zWo w s.heap M H locs → lv_has ls 2 [(0, .ref (zad w 0)), (1, .int a1)] → W p l e (zRm 0 0) s m ([.ref (zad w 0), .int a1] : List Value).toArray below meth c H locs 0 0 (MQ below (va_Qi post (zB w) (zA w)) ([.ref (zad w 0), .int a1] : List Value).toArray s 0 0 (zA w)) (F0 m 0 ls []) := by
    intro H locs ls hW hl
    refine lv_iload_n hx hb dX11_endOf_0 rfl (lv_at hl 1 rfl) ?_
    refine lv_aload_n hx hb dX11_endOf_1 rfl (lv_at hl 0 rfl) ?_
    refine zg_Model_holds X hW h0 zu_1031 dX11_endOf_2 ?_
    refine lv_iconst hx hb dX11_endOf_5 zc_i1 ?_
    obtain ⟨g, h⟩ := h
    refine ziald X hW h0.2.2.2.2.1 g dX11_endOf_6 ?_
    refine lv_iconst hx hb dX11_endOf_7 zc_i1 ?_
    refine lv_isub hx hb dX11_endOf_8 ?_
    refine lv_icmp_eq (tgt := 21) hx hb dX11_endOf_9 rfl (fun c => ?_) (fun c => ?_)
    · replace h := h.1 c
      refine lv_aload_n hx hb dX11_endOf_21 rfl (lv_at hl 0 rfl) ?_
      refine zg_Model_holds X hW h0 zu_1031 dX11_endOf_22 ?_
      refine lv_iconst hx hb dX11_endOf_25 zc_i0 ?_
      obtain ⟨g, h⟩ := h
      refine ziald X hW h0.2.2.2.2.1 g dX11_endOf_26 ?_
      refine lv_goto (tgt := 39) hx hb dX11_endOf_27 rfl ?_
      exact zreti X hr hlk hW h dX11_endOf_39
    · replace h := h.2 c
      refine lv_aload_n hx hb dX11_endOf_12 rfl (lv_at hl 0 rfl) ?_
      refine zg_Model_holds X hW h0 zu_1031 dX11_endOf_13 ?_
      refine lv_iconst hx hb dX11_endOf_16 zc_i4 ?_
      obtain ⟨g, h⟩ := h
      refine ziald X hW h0.2.2.2.2.1 g dX11_endOf_17 ?_
      refine lv_if_ne (tgt := 30) hx hb dX11_endOf_18 rfl (fun c => ?_) (fun c => ?_)
      · replace h := h.1 c
        refine lv_aload_n hx hb dX11_endOf_30 rfl (lv_at hl 0 rfl) ?_
        refine zg_Model_holds X hW h0 zu_1031 dX11_endOf_31 ?_
        refine lv_bipush hx hb dX11_endOf_34 zc_b20 ?_
        refine lv_iload_n hx hb dX11_endOf_36 rfl (lv_at hl 1 rfl) ?_
        refine lv_iadd hx hb dX11_endOf_37 ?_
        obtain ⟨g, h⟩ := h
        refine ziald X hW h0.2.2.2.2.1 g dX11_endOf_38 ?_
        exact zreti X hr hlk hW h dX11_endOf_39
      · replace h := h.2 c
        refine lv_aload_n hx hb dX11_endOf_21 rfl (lv_at hl 0 rfl) ?_
        refine zg_Model_holds X hW h0 zu_1031 dX11_endOf_22 ?_
        refine lv_iconst hx hb dX11_endOf_25 zc_i0 ?_
        obtain ⟨g, h⟩ := h
        refine ziald X hW h0.2.2.2.2.1 g dX11_endOf_26 ?_
        refine lv_goto (tgt := 39) hx hb dX11_endOf_27 rfl ?_
        exact zreti X hr hlk hW h dX11_endOf_39
  exact zMain s.heap [] ls hW hl
def wpB_Model_asNumbered_22    (Q : zMem → Prop) (J : Int32 → zMem → Prop) (x_1 : Int32) (M : zMem) : Prop :=
  ((M 0 18) ≤ x_1 → Q M) ∧ (¬ (M 0 18) ≤ x_1 → vp_in x_1 5 ∧ ∀ zm3 : zMem, zm3 = zup M 8 (ix x_1) x_1 → wp_Model_endOf x_1 zm3 (fun zr5 zm4 => vp_in x_1 5 ∧ ∀ zm6 : zMem, zm6 = zup zm4 9 (ix x_1) zr5 → ∀ zx7 : Int32, zx7 = x_1 + 1 → J zx7 zm6))
def wp_Model_asNumbered  (M : zMem) (Q : zMem → Prop) : Prop :=
  vp_in 1 100 ∧ ∀ zm1 : zMem, zm1 = zup M 0 18 (M 4 (ix 1)) → vp_in 4 100 ∧ ∀ zm2 : zMem, zm2 = zup zm1 0 19 (zm1 4 (ix 4)) → ∃ n : Nat, zlp1 (wpB_Model_asNumbered_22    Q) n 0 zm2
set_option maxHeartbeats 4000000 in
set_option maxRecDepth 20000 in
theorem c_Model_asNumbered {l : Launch} {w : zWd} {M : zMem} {post : zMem → Prop} (h0 : zI_Model w) (h : wp_Model_asNumbered  M post) : zMv l ⟨"HandToHandModel", "asNumbered", "()V"⟩ prog_13_method_36_code 2 none 1 21 w [.ref (zad w 0)] M post := by
  refine zMet (by decide) (Nat.le_of_ble_eq_true rfl) ?_
  intro p e s m below meth c X hr hlk hml hW ls hl
  have hx := X.1
  have hb := X.2.1
  have hl : lv_has ls 2 [(0, .ref (zad w 0))] := hl
  have zL_22 :  ∀ (n : Nat) (x_1 : Int32) (M : zMem) (H : Heap) (locs : List Loc) (ls : Array Slot), zWo w s.heap M H locs → lv_has ls 2 [(0, .ref (zad w 0)), (1, .int x_1)] → zlp1 (wpB_Model_asNumbered_22    post) n x_1 M → W p l e (zRm 1 21) s m ([.ref (zad w 0)] : List Value).toArray below meth c H locs 0 0 (MQ below (va_Qv post (zB w) (zA w)) ([.ref (zad w 0)] : List Value).toArray s 0 0 (zA w)) (F0 m 22 ls []) := by
    intro n
    induction n with
    | zero => intro x_1 M H locs ls hW hl h; exact h.elim
    | succ n zJ =>
      intro x_1 M H locs ls hW hl h
      have h : wpB_Model_asNumbered_22    post (zlp1 (wpB_Model_asNumbered_22    post) n) x_1 M := h
      unfold wpB_Model_asNumbered_22 at h
      refine lv_iload_n hx hb dX11_asNumbered_22 rfl (lv_at hl 1 rfl) ?_
      refine lv_aload_n hx hb dX11_asNumbered_23 rfl (lv_at hl 0 rfl) ?_
      refine zg_Model_many X hW h0 zu_1038 dX11_asNumbered_24 ?_
      refine lv_icmp_ge (tgt := 54) hx hb dX11_asNumbered_27 rfl (fun c => ?_) (fun c => ?_)
      · replace h := h.1 c
        exact zretv X hr hlk hW h dX11_asNumbered_54
      · replace h := h.2 c
        refine lv_aload_n hx hb dX11_asNumbered_30 rfl (lv_at hl 0 rfl) ?_
        refine zg_Model_who X hW h0 zu_1040 dX11_asNumbered_31 ?_
        refine lv_iload_n hx hb dX11_asNumbered_34 rfl (lv_at hl 1 rfl) ?_
        refine lv_iload_n hx hb dX11_asNumbered_35 rfl (lv_at hl 1 rfl) ?_
        obtain ⟨g, h⟩ := h
        refine ziast X hW h0.2.2.2.2.2.2.2.1 g dX11_asNumbered_36 (fun H locs zm3 ezm3 hW => ?_)
        replace h := h zm3 ezm3
        refine lv_aload_n hx hb dX11_asNumbered_37 rfl (lv_at hl 0 rfl) ?_
        refine zg_Model_ends X hW h0 zu_1041 dX11_asNumbered_38 ?_
        refine lv_iload_n hx hb dX11_asNumbered_41 rfl (lv_at hl 1 rfl) ?_
        refine lv_aload_n hx hb dX11_asNumbered_42 rfl (lv_at hl 0 rfl) ?_
        refine lv_iload_n hx hb dX11_asNumbered_43 rfl (lv_at hl 1 rfl) ?_
        refine zcalli (zrunV (As := [.int x_1]) (rest := [.int x_1, .ref (zad w 9)]) X hml hl hW h0.1 rfl zk_Model_170 (c_Model_endOf h0 h) rfl ⟨Nat.le_of_ble_eq_true rfl, Nat.le_of_ble_eq_true rfl⟩ ⟨Nat.le_refl 0, Nat.le_refl 0⟩ rfl (Nat.le_of_ble_eq_true rfl) dX11_asNumbered_44) hW (fun zr5 zm4 H locs h hW => ?_)
        obtain ⟨g, h⟩ := h
        refine ziast X hW h0.2.2.2.2.2.2.2.2.1 g dX11_asNumbered_47 (fun H locs zm6 ezm6 hW => ?_)
        replace h := h zm6 ezm6
        obtain ⟨zx7, ezx7⟩ : ∃ y : Int32, y = x_1 + 1 := ⟨_, rfl⟩
        replace h := h zx7 ezx7
        refine lv_iinc (v := zx7) (lv' := [(1, .int zx7), (0, .ref (zad w 0))]) hx hb dX11_asNumbered_48 hl (k := 1) rfl (by rw [ezx7, zc_i1]) (Nat.le_of_ble_eq_true rfl) rfl (fun ls hl => ?_)
        refine lv_goto (tgt := 22) hx hb dX11_asNumbered_51 rfl ?_
        exact zJ zx7 zm6 H locs ls hW (lv_sub hl [1, 0] rfl) h
  unfold wp_Model_asNumbered at h
  have zMain : ∀ (H : Heap) (locs : List Loc) (ls : Array Slot), zWo w s.heap M H locs → lv_has ls 2 [(0, .ref (zad w 0))] → W p l e (zRm 1 21) s m ([.ref (zad w 0)] : List Value).toArray below meth c H locs 0 0 (MQ below (va_Qv post (zB w) (zA w)) ([.ref (zad w 0)] : List Value).toArray s 0 0 (zA w)) (F0 m 0 ls []) := by
    intro H locs ls hW hl
    refine lv_aload_n hx hb dX11_asNumbered_0 rfl (lv_at hl 0 rfl) ?_
    refine lv_aload_n hx hb dX11_asNumbered_1 rfl (lv_at hl 0 rfl) ?_
    refine zg_Model_holds X hW h0 zu_1031 dX11_asNumbered_2 ?_
    refine lv_iconst hx hb dX11_asNumbered_5 zc_i1 ?_
    obtain ⟨g, h⟩ := h
    refine ziald X hW h0.2.2.2.2.1 g dX11_asNumbered_6 ?_
    refine zp_Model_many X hW h0 zu_1038 dX11_asNumbered_7 (fun H locs zm1 ezm1 hW => ?_)
    replace h := h zm1 ezm1
    refine lv_aload_n hx hb dX11_asNumbered_10 rfl (lv_at hl 0 rfl) ?_
    refine lv_aload_n hx hb dX11_asNumbered_11 rfl (lv_at hl 0 rfl) ?_
    refine zg_Model_holds X hW h0 zu_1031 dX11_asNumbered_12 ?_
    refine lv_iconst hx hb dX11_asNumbered_15 zc_i4 ?_
    obtain ⟨g, h⟩ := h
    refine ziald X hW h0.2.2.2.2.1 g dX11_asNumbered_16 ?_
    refine zp_Model_ruleNow X hW h0 zu_1039 dX11_asNumbered_17 (fun H locs zm2 ezm2 hW => ?_)
    replace h := h zm2 ezm2
    refine lv_iconst hx hb dX11_asNumbered_20 zc_i0 ?_
    refine lv_istore_n (lv' := [(1, .int 0), (0, .ref (zad w 0))]) hx hb dX11_asNumbered_21 rfl hl (Nat.le_of_ble_eq_true rfl) rfl (fun ls hl => ?_)
    obtain ⟨n, h⟩ := h
    refine zL_22   n 0 zm2 H locs ls hW (lv_sub hl [1, 0] rfl) h
  exact zMain s.heap [] ls hW hl
