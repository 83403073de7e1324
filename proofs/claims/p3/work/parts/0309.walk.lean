def wp_Reader_readLine (k : Nat) (M : zMem) (Q : Int32 → zMem → Prop) : Prop :=
  ((M k 7) = 1 → ∀ zm1 : zMem, zm1 = zup M k 3 ((M k 3) + 1) → ∀ zx2 : Int32, zx2 = zm1 k 9 → (zx2 = 0 → wp_Reader_readPiece k zm1 (fun zr4 zm3 => zbo zr4 ∧ Q zr4 zm3)) ∧ (zx2 = 1 → wp_Reader_readWhole k zm1 (fun zr6 zm5 => zbo zr6 ∧ Q zr6 zm5)) ∧ (zx2 = 2 → wp_Reader_readSort k zm1 (fun zr8 zm7 => zbo zr8 ∧ Q zr8 zm7)) ∧ (zx2 = 3 → wp_Reader_readOnce k 3 zm1 (fun zr10 zm9 => (zr10 = 0 → Q 0 zm9) ∧ (¬ zr10 = 0 → wp_Reader_readRow k zm9 (fun zr12 zm11 => (zr12 = 0 → Q 0 zm11) ∧ (¬ zr12 = 0 → Q 1 zm11))))) ∧ (zx2 = 4 → wp_Reader_readHand k zm1 (fun zr14 zm13 => zbo zr14 ∧ Q zr14 zm13)) ∧ (zx2 = 5 → wp_Reader_readOnce k 5 zm1 (fun zr16 zm15 => (zr16 = 0 → Q 0 zm15) ∧ (¬ zr16 = 0 → wp_Reader_readWalk k zm15 (fun zr18 zm17 => (zr18 = 0 → Q 0 zm17) ∧ (¬ zr18 = 0 → Q 1 zm17))))) ∧ (zx2 = 6 → wp_Reader_readOnce k 6 zm1 (fun zr20 zm19 => (zr20 = 0 → Q 0 zm19) ∧ (¬ zr20 = 0 → wp_Reader_readLearn k zm19 (fun zr22 zm21 => (zr22 = 0 → Q 0 zm21) ∧ (¬ zr22 = 0 → Q 1 zm21))))) ∧ (zx2 = 7 → wp_Reader_readOnce k 7 zm1 (fun zr24 zm23 => (zr24 = 0 → Q 0 zm23) ∧ (¬ zr24 = 0 → wp_Reader_readSign k zm23 (fun zr26 zm25 => (zr26 = 0 → Q 0 zm25) ∧ (¬ zr26 = 0 → Q 1 zm25))))) ∧ (zx2 = 8 → wp_Reader_readOnce k 7 zm1 (fun zr28 zm27 => (zr28 = 0 → Q 0 zm27) ∧ (¬ zr28 = 0 → wp_Reader_readEnds k 1 zm27 (fun zr30 zm29 => (zr30 = 0 → Q 0 zm29) ∧ (¬ zr30 = 0 → Q 1 zm29))))) ∧ (zx2 = 9 → wp_Reader_readOnce k 7 zm1 (fun zr32 zm31 => (zr32 = 0 → Q 0 zm31) ∧ (¬ zr32 = 0 → wp_Reader_readEnds k 2 zm31 (fun zr34 zm33 => (zr34 = 0 → Q 0 zm33) ∧ (¬ zr34 = 0 → Q 1 zm33))))) ∧ (¬ zx2 = 0 → ¬ zx2 = 1 → ¬ zx2 = 2 → ¬ zx2 = 3 → ¬ zx2 = 4 → ¬ zx2 = 5 → ¬ zx2 = 6 → ¬ zx2 = 7 → ¬ zx2 = 8 → ¬ zx2 = 9 → wp_Reader_refuse k 1 (zm1 k 8) zm1 (fun zr36 zm35 => zbo zr36 ∧ Q zr36 zm35))) ∧ (¬ (M k 7) = 1 → wp_Reader_refuse k 2 (M k 8) M (fun zr38 zm37 => zbo zr38 ∧ Q zr38 zm37))
set_option maxHeartbeats 4000000 in
set_option maxRecDepth 20000 in
theorem c_Reader_readLine {l : Launch} {w : zWd} {k : Nat} {M : zMem} {post : Int32 → zMem → Prop} (h0 : zI_Reader w k) (h : wp_Reader_readLine k M post) : zMi l ⟨"HandToHand$Reader", "readLine", "()Z"⟩ prog_7_method_5_code 1 (Option.some .boolean) 8 173 w [.ref (zad w k)] M post := by
  refine zMet (by decide) (Nat.le_of_ble_eq_true rfl) ?_
  intro p e s m below meth c X hr hlk hml hW ls hl
  have hx := X.1
  have hb := X.2.1
  have hl : lv_has ls 1 [(0, .ref (zad w k))] := hl
  unfold wp_Reader_readLine at h
  have zMain : ∀ (H : Heap) (locs : List Loc) (ls : Array Slot), zWo w s.heap M H locs → lv_has ls 1 [(0, .ref (zad w k))] → W p l e (zRm 8 173) s m ([.ref (zad w k)] : List Value).toArray below meth c H locs 0 0 (MQ below (va_Qi post (zB w) (zA w)) ([.ref (zad w k)] : List Value).toArray s 0 0 (zA w)) (F0 m 0 ls []) := by
    intro H locs ls hW hl
    refine lv_aload_n hx hb dX5_readLine_0 rfl (lv_at hl 0 rfl) ?_
    refine zg_Reader_kind X hW h0 zu_117 dX5_readLine_1 ?_
    refine lv_iconst hx hb dX5_readLine_4 zc_i1 ?_
    refine lv_icmp_eq (tgt := 18) hx hb dX5_readLine_5 rfl (fun c => ?_) (fun c => ?_)
    · replace h := h.1 c
      refine lv_aload_n hx hb dX5_readLine_18 rfl (lv_at hl 0 rfl) ?_
      refine lv_dup hx hb dX5_readLine_19 rfl ?_
      refine zg_Reader_lines X hW h0 zu_110 dX5_readLine_20 ?_
      refine lv_iconst hx hb dX5_readLine_23 zc_i1 ?_
      refine lv_iadd hx hb dX5_readLine_24 ?_
      refine zp_Reader_lines X hW h0 zu_110 dX5_readLine_25 (fun H locs zm1 ezm1 hW => ?_)
      replace h := h zm1 ezm1
      refine lv_aload_n hx hb dX5_readLine_28 rfl (lv_at hl 0 rfl) ?_
      refine zg_Reader_value X hW h0 zu_119 dX5_readLine_29 ?_
      refine lv_topi (fun zx2 ezx2 => ?_)
      replace h := h zx2 ezx2
      by_cases c0 : zx2 = 0
      · replace h := h.1 c0
        refine lv_tableIn (off := 56) (tgt := 88) hx hb dX5_readLine_32 (by rw [c0]; decide) (by rw [c0]; decide) (by rw [c0]; rfl) rfl ?_
        refine lv_aload_n hx hb dX5_readLine_88 rfl (lv_at hl 0 rfl) ?_
        refine zcalli (zrunV (As := []) (rest := []) X hml hl hW h0.1 rfl zk_Reader_100 (c_Reader_readPiece h0 h) rfl ⟨Nat.le_of_ble_eq_true rfl, Nat.le_of_ble_eq_true rfl⟩ ⟨Nat.le_refl 0, Nat.le_refl 0⟩ rfl (Nat.le_of_ble_eq_true rfl) dX5_readLine_89) hW (fun zr4 zm3 H locs h hW => ?_)
        exact zretz X hr hlk hW (zbo_n h.1) h.2 dX5_readLine_92
      replace h := h.2
      by_cases c1 : zx2 = 1
      · replace h := h.1 c1
        refine lv_tableIn (off := 61) (tgt := 93) hx hb dX5_readLine_32 (by rw [c1]; decide) (by rw [c1]; decide) (by rw [c1]; rfl) rfl ?_
        refine lv_aload_n hx hb dX5_readLine_93 rfl (lv_at hl 0 rfl) ?_
        refine zcalli (zrunV (As := []) (rest := []) X hml hl hW h0.1 rfl zk_Reader_103 (c_Reader_readWhole h0 h) rfl ⟨Nat.le_of_ble_eq_true rfl, Nat.le_of_ble_eq_true rfl⟩ ⟨Nat.le_refl 0, Nat.le_refl 0⟩ rfl (Nat.le_of_ble_eq_true rfl) dX5_readLine_94) hW (fun zr6 zm5 H locs h hW => ?_)
        exact zretz X hr hlk hW (zbo_n h.1) h.2 dX5_readLine_97
      replace h := h.2
      by_cases c2 : zx2 = 2
      · replace h := h.1 c2
        refine lv_tableIn (off := 66) (tgt := 98) hx hb dX5_readLine_32 (by rw [c2]; decide) (by rw [c2]; decide) (by rw [c2]; rfl) rfl ?_
        refine lv_aload_n hx hb dX5_readLine_98 rfl (lv_at hl 0 rfl) ?_
        refine zcalli (zrunV (As := []) (rest := []) X hml hl hW h0.1 rfl zk_Reader_106 (c_Reader_readSort h0 h) rfl ⟨Nat.le_of_ble_eq_true rfl, Nat.le_of_ble_eq_true rfl⟩ ⟨Nat.le_refl 0, Nat.le_refl 0⟩ rfl (Nat.le_of_ble_eq_true rfl) dX5_readLine_99) hW (fun zr8 zm7 H locs h hW => ?_)
        exact zretz X hr hlk hW (zbo_n h.1) h.2 dX5_readLine_102
      replace h := h.2
      by_cases c3 : zx2 = 3
      · replace h := h.1 c3
        refine lv_tableIn (off := 76) (tgt := 108) hx hb dX5_readLine_32 (by rw [c3]; decide) (by rw [c3]; decide) (by rw [c3]; rfl) rfl ?_
        refine lv_aload_n hx hb dX5_readLine_108 rfl (lv_at hl 0 rfl) ?_
        refine lv_iconst hx hb dX5_readLine_109 zc_i3 ?_
        refine zcalli (zrunV (As := [.int 3]) (rest := []) X hml hl hW h0.1 rfl zk_Reader_112 (c_Reader_readOnce h0 h) rfl ⟨Nat.le_of_ble_eq_true rfl, Nat.le_of_ble_eq_true rfl⟩ ⟨Nat.le_refl 0, Nat.le_refl 0⟩ rfl (Nat.le_of_ble_eq_true rfl) dX5_readLine_110) hW (fun zr10 zm9 H locs h hW => ?_)
        refine lv_if_eq (tgt := 127) hx hb dX5_readLine_113 rfl (fun c => ?_) (fun c => ?_)
        · replace h := h.1 c
          refine lv_iconst hx hb dX5_readLine_127 zc_i0 ?_
          exact zretz X hr hlk hW rfl h dX5_readLine_128
        · replace h := h.2 c
          refine lv_aload_n hx hb dX5_readLine_116 rfl (lv_at hl 0 rfl) ?_
          refine zcalli (zrunV (As := []) (rest := []) X hml hl hW h0.1 rfl zk_Reader_116 (c_Reader_readRow h0 h) rfl ⟨Nat.le_of_ble_eq_true rfl, Nat.le_of_ble_eq_true rfl⟩ ⟨Nat.le_refl 0, Nat.le_refl 0⟩ rfl (Nat.le_of_ble_eq_true rfl) dX5_readLine_117) hW (fun zr12 zm11 H locs h hW => ?_)
          refine lv_if_eq (tgt := 127) hx hb dX5_readLine_120 rfl (fun c => ?_) (fun c => ?_)
          · replace h := h.1 c
            refine lv_iconst hx hb dX5_readLine_127 zc_i0 ?_
            exact zretz X hr hlk hW rfl h dX5_readLine_128
          · replace h := h.2 c
            refine lv_iconst hx hb dX5_readLine_123 zc_i1 ?_
            refine lv_goto (tgt := 128) hx hb dX5_readLine_124 rfl ?_
            exact zretz X hr hlk hW rfl h dX5_readLine_128
      replace h := h.2
      by_cases c4 : zx2 = 4
      · replace h := h.1 c4
        refine lv_tableIn (off := 71) (tgt := 103) hx hb dX5_readLine_32 (by rw [c4]; decide) (by rw [c4]; decide) (by rw [c4]; rfl) rfl ?_
        refine lv_aload_n hx hb dX5_readLine_103 rfl (lv_at hl 0 rfl) ?_
        refine zcalli (zrunV (As := []) (rest := []) X hml hl hW h0.1 rfl zk_Reader_109 (c_Reader_readHand h0 h) rfl ⟨Nat.le_of_ble_eq_true rfl, Nat.le_of_ble_eq_true rfl⟩ ⟨Nat.le_refl 0, Nat.le_refl 0⟩ rfl (Nat.le_of_ble_eq_true rfl) dX5_readLine_104) hW (fun zr14 zm13 H locs h hW => ?_)
        exact zretz X hr hlk hW (zbo_n h.1) h.2 dX5_readLine_107
      replace h := h.2
      by_cases c5 : zx2 = 5
      · replace h := h.1 c5
        refine lv_tableIn (off := 97) (tgt := 129) hx hb dX5_readLine_32 (by rw [c5]; decide) (by rw [c5]; decide) (by rw [c5]; rfl) rfl ?_
        refine lv_aload_n hx hb dX5_readLine_129 rfl (lv_at hl 0 rfl) ?_
        refine lv_iconst hx hb dX5_readLine_130 zc_i5 ?_
        refine zcalli (zrunV (As := [.int 5]) (rest := []) X hml hl hW h0.1 rfl zk_Reader_112 (c_Reader_readOnce h0 h) rfl ⟨Nat.le_of_ble_eq_true rfl, Nat.le_of_ble_eq_true rfl⟩ ⟨Nat.le_refl 0, Nat.le_refl 0⟩ rfl (Nat.le_of_ble_eq_true rfl) dX5_readLine_131) hW (fun zr16 zm15 H locs h hW => ?_)
        refine lv_if_eq (tgt := 148) hx hb dX5_readLine_134 rfl (fun c => ?_) (fun c => ?_)
        · replace h := h.1 c
          refine lv_iconst hx hb dX5_readLine_148 zc_i0 ?_
          exact zretz X hr hlk hW rfl h dX5_readLine_149
        · replace h := h.2 c
          refine lv_aload_n hx hb dX5_readLine_137 rfl (lv_at hl 0 rfl) ?_
          refine zcalli (zrunV (As := []) (rest := []) X hml hl hW h0.1 rfl zk_Reader_119 (c_Reader_readWalk h0 h) rfl ⟨Nat.le_of_ble_eq_true rfl, Nat.le_of_ble_eq_true rfl⟩ ⟨Nat.le_refl 0, Nat.le_refl 0⟩ rfl (Nat.le_of_ble_eq_true rfl) dX5_readLine_138) hW (fun zr18 zm17 H locs h hW => ?_)
          refine lv_if_eq (tgt := 148) hx hb dX5_readLine_141 rfl (fun c => ?_) (fun c => ?_)
          · replace h := h.1 c
            refine lv_iconst hx hb dX5_readLine_148 zc_i0 ?_
            exact zretz X hr hlk hW rfl h dX5_readLine_149
          · replace h := h.2 c
            refine lv_iconst hx hb dX5_readLine_144 zc_i1 ?_
            refine lv_goto (tgt := 149) hx hb dX5_readLine_145 rfl ?_
            exact zretz X hr hlk hW rfl h dX5_readLine_149
      replace h := h.2
      by_cases c6 : zx2 = 6
      · replace h := h.1 c6
        refine lv_tableIn (off := 118) (tgt := 150) hx hb dX5_readLine_32 (by rw [c6]; decide) (by rw [c6]; decide) (by rw [c6]; rfl) rfl ?_
        refine lv_aload_n hx hb dX5_readLine_150 rfl (lv_at hl 0 rfl) ?_
        refine lv_bipush hx hb dX5_readLine_151 zc_b6 ?_
        refine zcalli (zrunV (As := [.int 6]) (rest := []) X hml hl hW h0.1 rfl zk_Reader_112 (c_Reader_readOnce h0 h) rfl ⟨Nat.le_of_ble_eq_true rfl, Nat.le_of_ble_eq_true rfl⟩ ⟨Nat.le_refl 0, Nat.le_refl 0⟩ rfl (Nat.le_of_ble_eq_true rfl) dX5_readLine_153) hW (fun zr20 zm19 H locs h hW => ?_)
        refine lv_if_eq (tgt := 170) hx hb dX5_readLine_156 rfl (fun c => ?_) (fun c => ?_)
        · replace h := h.1 c
          refine lv_iconst hx hb dX5_readLine_170 zc_i0 ?_
          exact zretz X hr hlk hW rfl h dX5_readLine_171
        · replace h := h.2 c
          refine lv_aload_n hx hb dX5_readLine_159 rfl (lv_at hl 0 rfl) ?_
          refine zcalli (zrunV (As := []) (rest := []) X hml hl hW h0.1 rfl zk_Reader_122 (c_Reader_readLearn h0 h) rfl ⟨Nat.le_of_ble_eq_true rfl, Nat.le_of_ble_eq_true rfl⟩ ⟨Nat.le_refl 0, Nat.le_refl 0⟩ rfl (Nat.le_of_ble_eq_true rfl) dX5_readLine_160) hW (fun zr22 zm21 H locs h hW => ?_)
          refine lv_if_eq (tgt := 170) hx hb dX5_readLine_163 rfl (fun c => ?_) (fun c => ?_)
          · replace h := h.1 c
            refine lv_iconst hx hb dX5_readLine_170 zc_i0 ?_
            exact zretz X hr hlk hW rfl h dX5_readLine_171
          · replace h := h.2 c
            refine lv_iconst hx hb dX5_readLine_166 zc_i1 ?_
            refine lv_goto (tgt := 171) hx hb dX5_readLine_167 rfl ?_
            exact zretz X hr hlk hW rfl h dX5_readLine_171
      replace h := h.2
      by_cases c7 : zx2 = 7
      · replace h := h.1 c7
        refine lv_tableIn (off := 140) (tgt := 172) hx hb dX5_readLine_32 (by rw [c7]; decide) (by rw [c7]; decide) (by rw [c7]; rfl) rfl ?_
        refine lv_aload_n hx hb dX5_readLine_172 rfl (lv_at hl 0 rfl) ?_
        refine lv_bipush hx hb dX5_readLine_173 zc_b7 ?_
        refine zcalli (zrunV (As := [.int 7]) (rest := []) X hml hl hW h0.1 rfl zk_Reader_112 (c_Reader_readOnce h0 h) rfl ⟨Nat.le_of_ble_eq_true rfl, Nat.le_of_ble_eq_true rfl⟩ ⟨Nat.le_refl 0, Nat.le_refl 0⟩ rfl (Nat.le_of_ble_eq_true rfl) dX5_readLine_175) hW (fun zr24 zm23 H locs h hW => ?_)
        refine lv_if_eq (tgt := 192) hx hb dX5_readLine_178 rfl (fun c => ?_) (fun c => ?_)
        · replace h := h.1 c
          refine lv_iconst hx hb dX5_readLine_192 zc_i0 ?_
          exact zretz X hr hlk hW rfl h dX5_readLine_193
        · replace h := h.2 c
          refine lv_aload_n hx hb dX5_readLine_181 rfl (lv_at hl 0 rfl) ?_
          refine zcalli (zrunV (As := []) (rest := []) X hml hl hW h0.1 rfl zk_Reader_125 (c_Reader_readSign h0 h) rfl ⟨Nat.le_of_ble_eq_true rfl, Nat.le_of_ble_eq_true rfl⟩ ⟨Nat.le_refl 0, Nat.le_refl 0⟩ rfl (Nat.le_of_ble_eq_true rfl) dX5_readLine_182) hW (fun zr26 zm25 H locs h hW => ?_)
          refine lv_if_eq (tgt := 192) hx hb dX5_readLine_185 rfl (fun c => ?_) (fun c => ?_)
          · replace h := h.1 c
            refine lv_iconst hx hb dX5_readLine_192 zc_i0 ?_
            exact zretz X hr hlk hW rfl h dX5_readLine_193
          · replace h := h.2 c
            refine lv_iconst hx hb dX5_readLine_188 zc_i1 ?_
            refine lv_goto (tgt := 193) hx hb dX5_readLine_189 rfl ?_
            exact zretz X hr hlk hW rfl h dX5_readLine_193
      replace h := h.2
      by_cases c8 : zx2 = 8
      · replace h := h.1 c8
        refine lv_tableIn (off := 162) (tgt := 194) hx hb dX5_readLine_32 (by rw [c8]; decide) (by rw [c8]; decide) (by rw [c8]; rfl) rfl ?_
        refine lv_aload_n hx hb dX5_readLine_194 rfl (lv_at hl 0 rfl) ?_
        refine lv_bipush hx hb dX5_readLine_195 zc_b7 ?_
        refine zcalli (zrunV (As := [.int 7]) (rest := []) X hml hl hW h0.1 rfl zk_Reader_112 (c_Reader_readOnce h0 h) rfl ⟨Nat.le_of_ble_eq_true rfl, Nat.le_of_ble_eq_true rfl⟩ ⟨Nat.le_refl 0, Nat.le_refl 0⟩ rfl (Nat.le_of_ble_eq_true rfl) dX5_readLine_197) hW (fun zr28 zm27 H locs h hW => ?_)
        refine lv_if_eq (tgt := 215) hx hb dX5_readLine_200 rfl (fun c => ?_) (fun c => ?_)
        · replace h := h.1 c
          refine lv_iconst hx hb dX5_readLine_215 zc_i0 ?_
          exact zretz X hr hlk hW rfl h dX5_readLine_216
        · replace h := h.2 c
          refine lv_aload_n hx hb dX5_readLine_203 rfl (lv_at hl 0 rfl) ?_
          refine lv_iconst hx hb dX5_readLine_204 zc_i1 ?_
          refine zcalli (zrunV (As := [.int 1]) (rest := []) X hml hl hW h0.1 rfl zk_Reader_128 (c_Reader_readEnds h0 h) rfl ⟨Nat.le_of_ble_eq_true rfl, Nat.le_of_ble_eq_true rfl⟩ ⟨Nat.le_refl 0, Nat.le_refl 0⟩ rfl (Nat.le_of_ble_eq_true rfl) dX5_readLine_205) hW (fun zr30 zm29 H locs h hW => ?_)
          refine lv_if_eq (tgt := 215) hx hb dX5_readLine_208 rfl (fun c => ?_) (fun c => ?_)
          · replace h := h.1 c
            refine lv_iconst hx hb dX5_readLine_215 zc_i0 ?_
            exact zretz X hr hlk hW rfl h dX5_readLine_216
          · replace h := h.2 c
            refine lv_iconst hx hb dX5_readLine_211 zc_i1 ?_
            refine lv_goto (tgt := 216) hx hb dX5_readLine_212 rfl ?_
            exact zretz X hr hlk hW rfl h dX5_readLine_216
      replace h := h.2
      by_cases c9 : zx2 = 9
      · replace h := h.1 c9
        refine lv_tableIn (off := 185) (tgt := 217) hx hb dX5_readLine_32 (by rw [c9]; decide) (by rw [c9]; decide) (by rw [c9]; rfl) rfl ?_
        refine lv_aload_n hx hb dX5_readLine_217 rfl (lv_at hl 0 rfl) ?_
        refine lv_bipush hx hb dX5_readLine_218 zc_b7 ?_
        refine zcalli (zrunV (As := [.int 7]) (rest := []) X hml hl hW h0.1 rfl zk_Reader_112 (c_Reader_readOnce h0 h) rfl ⟨Nat.le_of_ble_eq_true rfl, Nat.le_of_ble_eq_true rfl⟩ ⟨Nat.le_refl 0, Nat.le_refl 0⟩ rfl (Nat.le_of_ble_eq_true rfl) dX5_readLine_220) hW (fun zr32 zm31 H locs h hW => ?_)
        refine lv_if_eq (tgt := 238) hx hb dX5_readLine_223 rfl (fun c => ?_) (fun c => ?_)
        · replace h := h.1 c
          refine lv_iconst hx hb dX5_readLine_238 zc_i0 ?_
          exact zretz X hr hlk hW rfl h dX5_readLine_239
        · replace h := h.2 c
          refine lv_aload_n hx hb dX5_readLine_226 rfl (lv_at hl 0 rfl) ?_
          refine lv_iconst hx hb dX5_readLine_227 zc_i2 ?_
          refine zcalli (zrunV (As := [.int 2]) (rest := []) X hml hl hW h0.1 rfl zk_Reader_128 (c_Reader_readEnds h0 h) rfl ⟨Nat.le_of_ble_eq_true rfl, Nat.le_of_ble_eq_true rfl⟩ ⟨Nat.le_refl 0, Nat.le_refl 0⟩ rfl (Nat.le_of_ble_eq_true rfl) dX5_readLine_228) hW (fun zr34 zm33 H locs h hW => ?_)
          refine lv_if_eq (tgt := 238) hx hb dX5_readLine_231 rfl (fun c => ?_) (fun c => ?_)
          · replace h := h.1 c
            refine lv_iconst hx hb dX5_readLine_238 zc_i0 ?_
            exact zretz X hr hlk hW rfl h dX5_readLine_239
          · replace h := h.2 c
            refine lv_iconst hx hb dX5_readLine_234 zc_i1 ?_
            refine lv_goto (tgt := 239) hx hb dX5_readLine_235 rfl ?_
            exact zretz X hr hlk hW rfl h dX5_readLine_239
      replace h := h.2
      replace h := h c0 c1 c2 c3 c4 c5 c6 c7 c8 c9
      refine lv_tableOut (tgt := 240) hx hb dX5_readLine_32 (zsw 9 (Nat.le_of_ble_eq_true rfl) (fun j hj => ?_)) rfl ?_
      · rcases (show j = 0 ∨ j = 1 ∨ j = 2 ∨ j = 3 ∨ j = 4 ∨ j = 5 ∨ j = 6 ∨ j = 7 ∨ j = 8 ∨ j = 9 by omega) with rfl | rfl | rfl | rfl | rfl | rfl | rfl | rfl | rfl | rfl
        · exact c0
        · exact c1
        · exact c2
        · exact c3
        · exact c4
        · exact c5
        · exact c6
        · exact c7
        · exact c8
        · exact c9
      refine lv_aload_n hx hb dX5_readLine_240 rfl (lv_at hl 0 rfl) ?_
      refine lv_iconst hx hb dX5_readLine_241 zc_i1 ?_
      refine lv_aload_n hx hb dX5_readLine_242 rfl (lv_at hl 0 rfl) ?_
      refine zg_Reader_start X hW h0 zu_118 dX5_readLine_243 ?_
      refine zcalli (zrunV (As := [.int 1, .int (zm1 k 8)]) (rest := []) X hml hl hW h0.1 rfl zk_Reader_73 (c_Reader_refuse h0 h) rfl ⟨Nat.le_of_ble_eq_true rfl, Nat.le_of_ble_eq_true rfl⟩ ⟨Nat.le_refl 0, Nat.le_refl 0⟩ rfl (Nat.le_of_ble_eq_true rfl) dX5_readLine_246) hW (fun zr36 zm35 H locs h hW => ?_)
      exact zretz X hr hlk hW (zbo_n h.1) h.2 dX5_readLine_249
    · replace h := h.2 c
      refine lv_aload_n hx hb dX5_readLine_8 rfl (lv_at hl 0 rfl) ?_
      refine lv_iconst hx hb dX5_readLine_9 zc_i2 ?_
      refine lv_aload_n hx hb dX5_readLine_10 rfl (lv_at hl 0 rfl) ?_
      refine zg_Reader_start X hW h0 zu_118 dX5_readLine_11 ?_
      refine zcalli (zrunV (As := [.int 2, .int (M k 8)]) (rest := []) X hml hl hW h0.1 rfl zk_Reader_73 (c_Reader_refuse h0 h) rfl ⟨Nat.le_of_ble_eq_true rfl, Nat.le_of_ble_eq_true rfl⟩ ⟨Nat.le_refl 0, Nat.le_refl 0⟩ rfl (Nat.le_of_ble_eq_true rfl) dX5_readLine_14) hW (fun zr38 zm37 H locs h hW => ?_)
      exact zretz X hr hlk hW (zbo_n h.1) h.2 dX5_readLine_17
  exact zMain s.heap [] ls hW hl
def wpB_Reader_readAll_51 (k : Nat)   (Q : Int32 → zMem → Prop) (J : Int32 → Int32 → zMem → Prop) (x_1 : Int32) (x_2 : Int32) (M : zMem) : Prop :=
  (400 < x_2 → (¬ (M k 1) = 0 → Q 0 M) ∧ ((M k 1) = 0 → wp_Reader_isComplete k M (fun zr12 zm11 => (zr12 = 0 → Q 0 zm11) ∧ (¬ zr12 = 0 → Q 1 zm11)))) ∧ (¬ 400 < x_2 → (x_1 = 0 → (¬ (M k 1) = 0 → Q 0 M) ∧ ((M k 1) = 0 → wp_Reader_isComplete k M (fun zr14 zm13 => (zr14 = 0 → Q 0 zm13) ∧ (¬ zr14 = 0 → Q 1 zm13)))) ∧ (¬ x_1 = 0 → wp_Reader_readToken k M (fun zr16 zm15 => (zr16 = 0 → ∀ zx17 : Int32, zx17 = x_2 + 1 → J 0 zx17 zm15) ∧ (¬ zr16 = 0 → ((zm15 k 7) = 0 → ∀ zx18 : Int32, zx18 = x_2 + 1 → J 0 zx18 zm15) ∧ (¬ (zm15 k 7) = 0 → wp_Reader_readLine k zm15 (fun zr20 zm19 => (zr20 = 0 → ∀ zx21 : Int32, zx21 = x_2 + 1 → J 0 zx21 zm19) ∧ (¬ zr20 = 0 → ∀ zx22 : Int32, zx22 = x_2 + 1 → J 1 zx22 zm19)))))))
def wp_Reader_readAll (k : Nat) (M : zMem) (Q : Int32 → zMem → Prop) : Prop :=
  ∀ zm1 : zMem, zm1 = zup M k 6 0 → ∀ zm2 : zMem, zm2 = zup zm1 k 3 0 → ∀ zm3 : zMem, zm3 = zup zm2 k 1 0 → ∀ zm4 : zMem, zm4 = zup zm3 k 2 0 → ∀ zm5 : zMem, zm5 = zup zm4 k 10 0 → ∀ zm6 : zMem, zm6 = zup zm5 k 11 0 → ∀ zm7 : zMem, zm7 = zup zm6 k 12 0 → ∀ zm8 : zMem, zm8 = zup zm7 k 13 0 → wp_Told_clear (k + 1) zm8 (fun zm9 => ∃ n : Nat, zlp2 (wpB_Reader_readAll_51 k   Q) n 1 0 zm9)
set_option maxHeartbeats 4000000 in
set_option maxRecDepth 20000 in
theorem c_Reader_readAll {l : Launch} {w : zWd} {k : Nat} {M : zMem} {post : Int32 → zMem → Prop} (h0 : zI_Reader w k) (h : wp_Reader_readAll k M post) : zMi l ⟨"HandToHand$Reader", "readAll", "()Z"⟩ prog_7_method_2_code 3 (Option.some .boolean) 9 193 w [.ref (zad w k)] M post := by
  refine zMet (by decide) (Nat.le_of_ble_eq_true rfl) ?_
  intro p e s m below meth c X hr hlk hml hW ls hl
  have hx := X.1
  have hb := X.2.1
  have hl : lv_has ls 3 [(0, .ref (zad w k))] := hl
  have zL_51 :  ∀ (n : Nat) (x_1 : Int32) (x_2 : Int32) (M : zMem) (H : Heap) (locs : List Loc) (ls : Array Slot), zWo w s.heap M H locs → lv_has ls 3 [(0, .ref (zad w k)), (1, .int x_1), (2, .int x_2)] → zlp2 (wpB_Reader_readAll_51 k   post) n x_1 x_2 M → W p l e (zRm 9 193) s m ([.ref (zad w k)] : List Value).toArray below meth c H locs 0 0 (MQ below (va_Qi post (zB w) (zA w)) ([.ref (zad w k)] : List Value).toArray s 0 0 (zA w)) (F0 m 51 ls []) := by
    intro n
    induction n with
    | zero => intro x_1 x_2 M H locs ls hW hl h; exact h.elim
    | succ n zJ =>
      intro x_1 x_2 M H locs ls hW hl h
      have h : wpB_Reader_readAll_51 k   post (zlp2 (wpB_Reader_readAll_51 k   post) n) x_1 x_2 M := h
      unfold wpB_Reader_readAll_51 at h
      refine lv_iload_n hx hb dX5_readAll_51 rfl (lv_at hl 2 rfl) ?_
      refine lv_sipush hx hb dX5_readAll_52 zc_s400 ?_
      refine lv_icmp_gt (tgt := 95) hx hb dX5_readAll_55 rfl (fun c => ?_) (fun c => ?_)
      · replace h := h.1 c
        refine lv_aload_n hx hb dX5_readAll_95 rfl (lv_at hl 0 rfl) ?_
        refine zg_Reader_fault X hW h0 zu_106 dX5_readAll_96 ?_
        refine lv_if_ne (tgt := 113) hx hb dX5_readAll_99 rfl (fun c => ?_) (fun c => ?_)
        · replace h := h.1 c
          refine lv_iconst hx hb dX5_readAll_113 zc_i0 ?_
          exact zretz X hr hlk hW rfl h dX5_readAll_114
        · replace h := h.2 c
          refine lv_aload_n hx hb dX5_readAll_102 rfl (lv_at hl 0 rfl) ?_
          refine zcalli (zrunV (As := []) (rest := []) X hml hl hW h0.1 rfl zk_Reader_61 (c_Reader_isComplete h0 h) rfl ⟨Nat.le_of_ble_eq_true rfl, Nat.le_of_ble_eq_true rfl⟩ ⟨Nat.le_refl 0, Nat.le_refl 0⟩ rfl (Nat.le_of_ble_eq_true rfl) dX5_readAll_103) hW (fun zr12 zm11 H locs h hW => ?_)
          refine lv_if_eq (tgt := 113) hx hb dX5_readAll_106 rfl (fun c => ?_) (fun c => ?_)
          · replace h := h.1 c
            refine lv_iconst hx hb dX5_readAll_113 zc_i0 ?_
            exact zretz X hr hlk hW rfl h dX5_readAll_114
          · replace h := h.2 c
            refine lv_iconst hx hb dX5_readAll_109 zc_i1 ?_
            refine lv_goto (tgt := 114) hx hb dX5_readAll_110 rfl ?_
            exact zretz X hr hlk hW rfl h dX5_readAll_114
      · replace h := h.2 c
        refine lv_iload_n hx hb dX5_readAll_58 rfl (lv_at hl 1 rfl) ?_
        refine lv_if_eq (tgt := 95) hx hb dX5_readAll_59 rfl (fun c => ?_) (fun c => ?_)
        · replace h := h.1 c
          refine lv_aload_n hx hb dX5_readAll_95 rfl (lv_at hl 0 rfl) ?_
          refine zg_Reader_fault X hW h0 zu_106 dX5_readAll_96 ?_
          refine lv_if_ne (tgt := 113) hx hb dX5_readAll_99 rfl (fun c => ?_) (fun c => ?_)
          · replace h := h.1 c
            refine lv_iconst hx hb dX5_readAll_113 zc_i0 ?_
            exact zretz X hr hlk hW rfl h dX5_readAll_114
          · replace h := h.2 c
            refine lv_aload_n hx hb dX5_readAll_102 rfl (lv_at hl 0 rfl) ?_
            refine zcalli (zrunV (As := []) (rest := []) X hml hl hW h0.1 rfl zk_Reader_61 (c_Reader_isComplete h0 h) rfl ⟨Nat.le_of_ble_eq_true rfl, Nat.le_of_ble_eq_true rfl⟩ ⟨Nat.le_refl 0, Nat.le_refl 0⟩ rfl (Nat.le_of_ble_eq_true rfl) dX5_readAll_103) hW (fun zr14 zm13 H locs h hW => ?_)
            refine lv_if_eq (tgt := 113) hx hb dX5_readAll_106 rfl (fun c => ?_) (fun c => ?_)
            · replace h := h.1 c
              refine lv_iconst hx hb dX5_readAll_113 zc_i0 ?_
              exact zretz X hr hlk hW rfl h dX5_readAll_114
            · replace h := h.2 c
              refine lv_iconst hx hb dX5_readAll_109 zc_i1 ?_
              refine lv_goto (tgt := 114) hx hb dX5_readAll_110 rfl ?_
              exact zretz X hr hlk hW rfl h dX5_readAll_114
        · replace h := h.2 c
          refine lv_aload_n hx hb dX5_readAll_62 rfl (lv_at hl 0 rfl) ?_
          refine zcalli (zrunV (As := []) (rest := []) X hml hl hW h0.1 rfl zk_Reader_51 (c_Reader_readToken h0 h) rfl ⟨Nat.le_of_ble_eq_true rfl, Nat.le_of_ble_eq_true rfl⟩ ⟨Nat.le_refl 0, Nat.le_refl 0⟩ rfl (Nat.le_of_ble_eq_true rfl) dX5_readAll_63) hW (fun zr16 zm15 H locs h hW => ?_)
          refine lv_if_eq (tgt := 87) hx hb dX5_readAll_66 rfl (fun c => ?_) (fun c => ?_)
          · replace h := h.1 c
            refine lv_iconst hx hb dX5_readAll_87 zc_i0 ?_
            refine lv_istore_n (lv' := [(1, .int 0), (0, .ref (zad w k)), (2, .int x_2)]) hx hb dX5_readAll_88 rfl hl (Nat.le_of_ble_eq_true rfl) rfl (fun ls hl => ?_)
            obtain ⟨zx17, ezx17⟩ : ∃ y : Int32, y = x_2 + 1 := ⟨_, rfl⟩
            replace h := h zx17 ezx17
            refine lv_iinc (v := zx17) (lv' := [(2, .int zx17), (1, .int 0), (0, .ref (zad w k))]) hx hb dX5_readAll_89 hl (k := 2) rfl (by rw [ezx17, zc_i1]) (Nat.le_of_ble_eq_true rfl) rfl (fun ls hl => ?_)
            refine lv_goto (tgt := 51) hx hb dX5_readAll_92 rfl ?_
            exact zJ 0 zx17 zm15 H locs ls hW (lv_sub hl [2, 1, 0] rfl) h
          · replace h := h.2 c
            refine lv_aload_n hx hb dX5_readAll_69 rfl (lv_at hl 0 rfl) ?_
            refine zg_Reader_kind X hW h0 zu_117 dX5_readAll_70 ?_
            refine lv_if_eq (tgt := 87) hx hb dX5_readAll_73 rfl (fun c => ?_) (fun c => ?_)
            · replace h := h.1 c
              refine lv_iconst hx hb dX5_readAll_87 zc_i0 ?_
              refine lv_istore_n (lv' := [(1, .int 0), (0, .ref (zad w k)), (2, .int x_2)]) hx hb dX5_readAll_88 rfl hl (Nat.le_of_ble_eq_true rfl) rfl (fun ls hl => ?_)
              obtain ⟨zx18, ezx18⟩ : ∃ y : Int32, y = x_2 + 1 := ⟨_, rfl⟩
              replace h := h zx18 ezx18
              refine lv_iinc (v := zx18) (lv' := [(2, .int zx18), (1, .int 0), (0, .ref (zad w k))]) hx hb dX5_readAll_89 hl (k := 2) rfl (by rw [ezx18, zc_i1]) (Nat.le_of_ble_eq_true rfl) rfl (fun ls hl => ?_)
              refine lv_goto (tgt := 51) hx hb dX5_readAll_92 rfl ?_
              exact zJ 0 zx18 zm15 H locs ls hW (lv_sub hl [2, 1, 0] rfl) h
            · replace h := h.2 c
              refine lv_aload_n hx hb dX5_readAll_76 rfl (lv_at hl 0 rfl) ?_
              refine zcalli (zrunV (As := []) (rest := []) X hml hl hW h0.1 rfl zk_Reader_58 (c_Reader_readLine h0 h) rfl ⟨Nat.le_of_ble_eq_true rfl, Nat.le_of_ble_eq_true rfl⟩ ⟨Nat.le_refl 0, Nat.le_refl 0⟩ rfl (Nat.le_of_ble_eq_true rfl) dX5_readAll_77) hW (fun zr20 zm19 H locs h hW => ?_)
              refine lv_if_eq (tgt := 87) hx hb dX5_readAll_80 rfl (fun c => ?_) (fun c => ?_)
              · replace h := h.1 c
                refine lv_iconst hx hb dX5_readAll_87 zc_i0 ?_
                refine lv_istore_n (lv' := [(1, .int 0), (0, .ref (zad w k)), (2, .int x_2)]) hx hb dX5_readAll_88 rfl hl (Nat.le_of_ble_eq_true rfl) rfl (fun ls hl => ?_)
                obtain ⟨zx21, ezx21⟩ : ∃ y : Int32, y = x_2 + 1 := ⟨_, rfl⟩
                replace h := h zx21 ezx21
                refine lv_iinc (v := zx21) (lv' := [(2, .int zx21), (1, .int 0), (0, .ref (zad w k))]) hx hb dX5_readAll_89 hl (k := 2) rfl (by rw [ezx21, zc_i1]) (Nat.le_of_ble_eq_true rfl) rfl (fun ls hl => ?_)
                refine lv_goto (tgt := 51) hx hb dX5_readAll_92 rfl ?_
                exact zJ 0 zx21 zm19 H locs ls hW (lv_sub hl [2, 1, 0] rfl) h
              · replace h := h.2 c
                refine lv_iconst hx hb dX5_readAll_83 zc_i1 ?_
                refine lv_goto (tgt := 88) hx hb dX5_readAll_84 rfl ?_
                refine lv_istore_n (lv' := [(1, .int 1), (0, .ref (zad w k)), (2, .int x_2)]) hx hb dX5_readAll_88 rfl hl (Nat.le_of_ble_eq_true rfl) rfl (fun ls hl => ?_)
                obtain ⟨zx22, ezx22⟩ : ∃ y : Int32, y = x_2 + 1 := ⟨_, rfl⟩
                replace h := h zx22 ezx22
                refine lv_iinc (v := zx22) (lv' := [(2, .int zx22), (1, .int 1), (0, .ref (zad w k))]) hx hb dX5_readAll_89 hl (k := 2) rfl (by rw [ezx22, zc_i1]) (Nat.le_of_ble_eq_true rfl) rfl (fun ls hl => ?_)
                refine lv_goto (tgt := 51) hx hb dX5_readAll_92 rfl ?_
                exact zJ 1 zx22 zm19 H locs ls hW (lv_sub hl [2, 1, 0] rfl) h
  unfold wp_Reader_readAll at h
  have zMain : ∀ (H : Heap) (locs : List Loc) (ls : Array Slot), zWo w s.heap M H locs → lv_has ls 3 [(0, .ref (zad w k))] → W p l e (zRm 9 193) s m ([.ref (zad w k)] : List Value).toArray below meth c H locs 0 0 (MQ below (va_Qi post (zB w) (zA w)) ([.ref (zad w k)] : List Value).toArray s 0 0 (zA w)) (F0 m 0 ls []) := by
    intro H locs ls hW hl
    refine lv_aload_n hx hb dX5_readAll_0 rfl (lv_at hl 0 rfl) ?_
    refine lv_iconst hx hb dX5_readAll_1 zc_i0 ?_
    refine zp_Reader_next X hW h0 zu_116 dX5_readAll_2 (fun H locs zm1 ezm1 hW => ?_)
    replace h := h zm1 ezm1
    refine lv_aload_n hx hb dX5_readAll_5 rfl (lv_at hl 0 rfl) ?_
    refine lv_iconst hx hb dX5_readAll_6 zc_i0 ?_
    refine zp_Reader_lines X hW h0 zu_110 dX5_readAll_7 (fun H locs zm2 ezm2 hW => ?_)
    replace h := h zm2 ezm2
    refine lv_aload_n hx hb dX5_readAll_10 rfl (lv_at hl 0 rfl) ?_
    refine lv_iconst hx hb dX5_readAll_11 zc_i0 ?_
    refine zp_Reader_fault X hW h0 zu_106 dX5_readAll_12 (fun H locs zm3 ezm3 hW => ?_)
    replace h := h zm3 ezm3
    refine lv_aload_n hx hb dX5_readAll_15 rfl (lv_at hl 0 rfl) ?_
    refine lv_iconst hx hb dX5_readAll_16 zc_i0 ?_
    refine zp_Reader_faultPlace X hW h0 zu_108 dX5_readAll_17 (fun H locs zm4 ezm4 hW => ?_)
    replace h := h zm4 ezm4
    refine lv_aload_n hx hb dX5_readAll_20 rfl (lv_at hl 0 rfl) ?_
    refine lv_iconst hx hb dX5_readAll_21 zc_i0 ?_
    refine zp_Reader_names X hW h0 zu_120 dX5_readAll_22 (fun H locs zm5 ezm5 hW => ?_)
    replace h := h zm5 ezm5
    refine lv_aload_n hx hb dX5_readAll_25 rfl (lv_at hl 0 rfl) ?_
    refine lv_iconst hx hb dX5_readAll_26 zc_i0 ?_
    refine zp_Reader_sorts X hW h0 zu_121 dX5_readAll_27 (fun H locs zm6 ezm6 hW => ?_)
    replace h := h zm6 ezm6
    refine lv_aload_n hx hb dX5_readAll_30 rfl (lv_at hl 0 rfl) ?_
    refine lv_iconst hx hb dX5_readAll_31 zc_i0 ?_
    refine zp_Reader_piecesClosed X hW h0 zbo_0 zu_122 dX5_readAll_32 (fun H locs zm7 ezm7 hW => ?_)
    replace h := h zm7 ezm7
    refine lv_aload_n hx hb dX5_readAll_35 rfl (lv_at hl 0 rfl) ?_
    refine lv_iconst hx hb dX5_readAll_36 zc_i0 ?_
    refine zp_Reader_handsClosed X hW h0 zbo_0 zu_123 dX5_readAll_37 (fun H locs zm8 ezm8 hW => ?_)
    replace h := h zm8 ezm8
    refine lv_aload_n hx hb dX5_readAll_40 rfl (lv_at hl 0 rfl) ?_
    refine zg_Reader_draft X hW h0 zu_104 dX5_readAll_41 ?_
    refine zcallv (zrunV (As := []) (rest := []) X hml hl hW h0.2.2.1 rfl zk_Reader_48 (c_Told_clear h0.2.2 h) rfl ⟨Nat.le_of_ble_eq_true rfl, Nat.le_of_ble_eq_true rfl⟩ ⟨Nat.le_refl 0, Nat.le_refl 0⟩ rfl (Nat.le_of_ble_eq_true rfl) dX5_readAll_44) hW (fun zm9 H locs h hW => ?_)
    refine lv_iconst hx hb dX5_readAll_47 zc_i1 ?_
    refine lv_istore_n (lv' := [(1, .int 1), (0, .ref (zad w k))]) hx hb dX5_readAll_48 rfl hl (Nat.le_of_ble_eq_true rfl) rfl (fun ls hl => ?_)
    refine lv_iconst hx hb dX5_readAll_49 zc_i0 ?_
    refine lv_istore_n (lv' := [(2, .int 0), (1, .int 1), (0, .ref (zad w k))]) hx hb dX5_readAll_50 rfl hl (Nat.le_of_ble_eq_true rfl) rfl (fun ls hl => ?_)
    obtain ⟨n, h⟩ := h
    refine zL_51   n 1 0 zm9 H locs ls hW (lv_sub hl [2, 1, 0] rfl) h
  exact zMain s.heap [] ls hW hl
def wpB_Main_feed_18 (a1 : Int64)   (Q : Int32 → zMem → Prop) (J : Int32 → zMem → Prop) (x_3 : Int32) (M : zMem) : Prop :=
  (8 ≤ x_3 → Q (M 11 5) M) ∧ (¬ 8 ≤ x_3 → vp_in (M 11 5) 400 ∧ ∀ zm1 : zMem, zm1 = zup M 17 (ix (M 11 5)) (vp_nar .byte (((a1 >>> ((8 * (7 - x_3)).toInt64 &&& 63)).toInt32).toInt8.toInt32)) → ∀ zm2 : zMem, zm2 = zup zm1 11 5 ((zm1 11 5) + 1) → ∀ zx3 : Int32, zx3 = x_3 + 1 → J zx3 zm2)
def wp_Main_feed (a1 : Int64) (M : zMem) (Q : Int32 → zMem → Prop) : Prop :=
  ((M 11 5) ≤ 392 → ∃ n : Nat, zlp1 (wpB_Main_feed_18 a1   Q) n 0 M) ∧ (¬ (M 11 5) ≤ 392 → Q ((-3)) M)
set_option maxHeartbeats 4000000 in
set_option maxRecDepth 20000 in
theorem c_Main_feed {l : Launch} {w : zWd} {a1 : Int64} {M : zMem} {post : Int32 → zMem → Prop} (h0 : zI_Main w) (h : wp_Main_feed a1 M post) : zMi l ⟨"HandToHand", "feed", "(J)I"⟩ prog_1_method_2_code 4 (Option.some .int) 0 0 w [.ref (zad w 0), .long a1] M post := by
  refine zMet (by decide) (Nat.le_of_ble_eq_true rfl) ?_
  intro p e s m below meth c X hr hlk hml hW ls hl
  have hx := X.1
  have hb := X.2.1
  have hl : lv_has ls 4 [(0, .ref (zad w 0)), (1, .long a1)] := hl
  have zL_18 :  ∀ (n : Nat) (x_3 : Int32) (M : zMem) (H : Heap) (locs : List Loc) (ls : Array Slot), zWo w s.heap M H locs → lv_has ls 4 [(0, .ref (zad w 0)), (1, .long a1), (3, .int x_3)] → zlp1 (wpB_Main_feed_18 a1   post) n x_3 M → W p l e (zRm 0 0) s m ([.ref (zad w 0), .long a1] : List Value).toArray below meth c H locs 0 0 (MQ below (va_Qi post (zB w) (zA w)) ([.ref (zad w 0), .long a1] : List Value).toArray s 0 0 (zA w)) (F0 m 18 ls []) := by
    intro n
    induction n with
    | zero => intro x_3 M H locs ls hW hl h; exact h.elim
    | succ n zJ =>
      intro x_3 M H locs ls hW hl h
      have h : wpB_Main_feed_18 a1   post (zlp1 (wpB_Main_feed_18 a1   post) n) x_3 M := h
      unfold wpB_Main_feed_18 at h
      refine lv_iload_n hx hb dX10_feed_18 rfl (lv_at hl 2 rfl) ?_
      refine lv_bipush hx hb dX10_feed_19 zc_b8 ?_
      refine lv_icmp_ge (tgt := 69) hx hb dX10_feed_21 rfl (fun c => ?_) (fun c => ?_)
      · replace h := h.1 c
        refine lv_aload_n hx hb dX10_feed_69 rfl (lv_at hl 0 rfl) ?_
        refine zg_Main_reader X hW h0 zu_469 dX10_feed_70 ?_
        refine zg_Reader_length X hW h0.2.2.2.2.2.2.1 zu_114 dX10_feed_73 ?_
        exact zreti X hr hlk hW h dX10_feed_76
      · replace h := h.2 c
        refine lv_aload_n hx hb dX10_feed_24 rfl (lv_at hl 0 rfl) ?_
        refine zg_Main_reader X hW h0 zu_469 dX10_feed_25 ?_
        refine zg_Reader_tape X hW h0.2.2.2.2.2.2.1 zu_113 dX10_feed_28 ?_
        refine lv_aload_n hx hb dX10_feed_31 rfl (lv_at hl 0 rfl) ?_
        refine zg_Main_reader X hW h0 zu_469 dX10_feed_32 ?_
        refine zg_Reader_length X hW h0.2.2.2.2.2.2.1 zu_114 dX10_feed_35 ?_
        refine lv_lload_n hx hb dX10_feed_38 rfl (lv_at hl 1 rfl) ?_
        refine lv_bipush hx hb dX10_feed_39 zc_b8 ?_
        refine lv_bipush hx hb dX10_feed_41 zc_b7 ?_
        refine lv_iload_n hx hb dX10_feed_43 rfl (lv_at hl 2 rfl) ?_
        refine lv_isub hx hb dX10_feed_44 ?_
        refine lv_imul hx hb dX10_feed_45 ?_
        refine lv_lshr hx hb dX10_feed_46 rfl ?_
        refine lv_l2i hx hb dX10_feed_47 rfl ?_
        refine lv_i2b hx hb dX10_feed_48 rfl ?_
        obtain ⟨g, h⟩ := h
        refine zbast X hW h0.2.2.2.2.2.2.1.2.1 g dX10_feed_49 (fun H locs zm1 ezm1 hW => ?_)
        replace h := h zm1 ezm1
        refine lv_aload_n hx hb dX10_feed_50 rfl (lv_at hl 0 rfl) ?_
        refine zg_Main_reader X hW h0 zu_469 dX10_feed_51 ?_
        refine lv_dup hx hb dX10_feed_54 rfl ?_
        refine zg_Reader_length X hW h0.2.2.2.2.2.2.1 zu_114 dX10_feed_55 ?_
        refine lv_iconst hx hb dX10_feed_58 zc_i1 ?_
        refine lv_iadd hx hb dX10_feed_59 ?_
        refine zp_Reader_length X hW h0.2.2.2.2.2.2.1 zu_114 dX10_feed_60 (fun H locs zm2 ezm2 hW => ?_)
        replace h := h zm2 ezm2
        obtain ⟨zx3, ezx3⟩ : ∃ y : Int32, y = x_3 + 1 := ⟨_, rfl⟩
        replace h := h zx3 ezx3
        refine lv_iinc (v := zx3) (lv' := [(3, .int zx3), (0, .ref (zad w 0)), (1, .long a1)]) hx hb dX10_feed_63 hl (k := 2) rfl (by rw [ezx3, zc_i1]) (Nat.le_of_ble_eq_true rfl) rfl (fun ls hl => ?_)
        refine lv_goto (tgt := 18) hx hb dX10_feed_66 rfl ?_
        exact zJ zx3 zm2 H locs ls hW (lv_sub hl [1, 2, 0] rfl) h
  unfold wp_Main_feed at h
  have zMain : ∀ (H : Heap) (locs : List Loc) (ls : Array Slot), zWo w s.heap M H locs → lv_has ls 4 [(0, .ref (zad w 0)), (1, .long a1)] → W p l e (zRm 0 0) s m ([.ref (zad w 0), .long a1] : List Value).toArray below meth c H locs 0 0 (MQ below (va_Qi post (zB w) (zA w)) ([.ref (zad w 0), .long a1] : List Value).toArray s 0 0 (zA w)) (F0 m 0 ls []) := by
    intro H locs ls hW hl
    refine lv_aload_n hx hb dX10_feed_0 rfl (lv_at hl 0 rfl) ?_
    refine zg_Main_reader X hW h0 zu_469 dX10_feed_1 ?_
    refine zg_Reader_length X hW h0.2.2.2.2.2.2.1 zu_114 dX10_feed_4 ?_
    refine lv_sipush hx hb dX10_feed_7 zc_s392 ?_
    refine lv_icmp_le (tgt := 16) hx hb dX10_feed_10 rfl (fun c => ?_) (fun c => ?_)
    · replace h := h.1 c
      refine lv_iconst hx hb dX10_feed_16 zc_i0 ?_
      refine lv_istore_n (lv' := [(3, .int 0), (0, .ref (zad w 0)), (1, .long a1)]) hx hb dX10_feed_17 rfl hl (Nat.le_of_ble_eq_true rfl) rfl (fun ls hl => ?_)
      obtain ⟨n, h⟩ := h
      refine zL_18   n 0 M H locs ls hW (lv_sub hl [1, 2, 0] rfl) h
    · replace h := h.2 c
      refine lv_bipush hx hb dX10_feed_13 zc_bm3 ?_
      exact zreti X hr hlk hW h dX10_feed_15
  exact zMain s.heap [] ls hW hl
def wp_Main_end (a1 : Int32) (M : zMem) (Q : Int32 → zMem → Prop) : Prop :=
  (a1 < 0 → Q ((-1)) M) ∧ (¬ a1 < 0 → (a1 ≤ (M 11 5) → ∀ zx1 : Int32, zx1 = M 11 5 → ∀ zm2 : zMem, zm2 = zup M 11 5 a1 → Q zx1 zm2) ∧ (¬ a1 ≤ (M 11 5) → Q ((-1)) M))
set_option maxHeartbeats 4000000 in
set_option maxRecDepth 20000 in
theorem c_Main_end {l : Launch} {w : zWd} {a1 : Int32} {M : zMem} {post : Int32 → zMem → Prop} (h0 : zI_Main w) (h : wp_Main_end a1 M post) : zMi l ⟨"HandToHand", "end", "(I)I"⟩ prog_1_method_3_code 3 (Option.some .int) 0 0 w [.ref (zad w 0), .int a1] M post := by
  refine zMet (by decide) (Nat.le_of_ble_eq_true rfl) ?_
  intro p e s m below meth c X hr hlk hml hW ls hl
  have hx := X.1
  have hb := X.2.1
  have hl : lv_has ls 3 [(0, .ref (zad w 0)), (1, .int a1)] := hl
  unfold wp_Main_end at h
  have zMain : ∀ (H : Heap) (locs : List Loc) (ls : Array Slot), zWo w s.heap M H locs → lv_has ls 3 [(0, .ref (zad w 0)), (1, .int a1)] → W p l e (zRm 0 0) s m ([.ref (zad w 0), .int a1] : List Value).toArray below meth c H locs 0 0 (MQ below (va_Qi post (zB w) (zA w)) ([.ref (zad w 0), .int a1] : List Value).toArray s 0 0 (zA w)) (F0 m 0 ls []) := by
    intro H locs ls hW hl
    refine lv_iload_n hx hb dX10_end_0 rfl (lv_at hl 1 rfl) ?_
    refine lv_if_lt (tgt := 15) hx hb dX10_end_1 rfl (fun c => ?_) (fun c => ?_)
    · replace h := h.1 c
      refine lv_iconst hx hb dX10_end_15 zc_im1 ?_
      exact zreti X hr hlk hW h dX10_end_16
    · replace h := h.2 c
      refine lv_iload_n hx hb dX10_end_4 rfl (lv_at hl 1 rfl) ?_
      refine lv_aload_n hx hb dX10_end_5 rfl (lv_at hl 0 rfl) ?_
      refine zg_Main_reader X hW h0 zu_469 dX10_end_6 ?_
      refine zg_Reader_length X hW h0.2.2.2.2.2.2.1 zu_114 dX10_end_9 ?_
      refine lv_icmp_le (tgt := 17) hx hb dX10_end_12 rfl (fun c => ?_) (fun c => ?_)
      · replace h := h.1 c
        refine lv_aload_n hx hb dX10_end_17 rfl (lv_at hl 0 rfl) ?_
        refine zg_Main_reader X hW h0 zu_469 dX10_end_18 ?_
        refine zg_Reader_length X hW h0.2.2.2.2.2.2.1 zu_114 dX10_end_21 ?_
        refine lv_topi (fun zx1 ezx1 => ?_)
        replace h := h zx1 ezx1
        refine lv_istore_n (lv' := [(2, .int zx1), (0, .ref (zad w 0)), (1, .int a1)]) hx hb dX10_end_24 rfl hl (Nat.le_of_ble_eq_true rfl) rfl (fun ls hl => ?_)
        refine lv_aload_n hx hb dX10_end_25 rfl (lv_at hl 1 rfl) ?_
        refine zg_Main_reader X hW h0 zu_469 dX10_end_26 ?_
        refine lv_iload_n hx hb dX10_end_29 rfl (lv_at hl 2 rfl) ?_
        refine zp_Reader_length X hW h0.2.2.2.2.2.2.1 zu_114 dX10_end_30 (fun H locs zm2 ezm2 hW => ?_)
        replace h := h zm2 ezm2
        refine lv_iload_n hx hb dX10_end_33 rfl (lv_at hl 0 rfl) ?_
        exact zreti X hr hlk hW h dX10_end_34
      · replace h := h.2 c
        refine lv_iconst hx hb dX10_end_15 zc_im1 ?_
        exact zreti X hr hlk hW h dX10_end_16
  exact zMain s.heap [] ls hW hl
def wp_Main_forgetAnswers  (M : zMem) (Q : zMem → Prop) : Prop :=
  ∀ zm1 : zMem, zm1 = zup M 29 2 0 → ∀ zm2 : zMem, zm2 = zup zm1 54 0 0 → ∀ zm3 : zMem, zm3 = zup zm2 60 0 0 → wp_Orders_forget 56 zm3 (fun zm4 => Q zm4)
set_option maxHeartbeats 4000000 in
set_option maxRecDepth 20000 in
theorem c_Main_forgetAnswers {l : Launch} {w : zWd} {M : zMem} {post : zMem → Prop} (h0 : zI_Main w) (h : wp_Main_forgetAnswers  M post) : zMv l ⟨"HandToHand", "forgetAnswers", "()V"⟩ prog_1_method_48_code 1 none 1 21 w [.ref (zad w 0)] M post := by
  refine zMet (by decide) (Nat.le_of_ble_eq_true rfl) ?_
  intro p e s m below meth c X hr hlk hml hW ls hl
  have hx := X.1
  have hb := X.2.1
  have hl : lv_has ls 1 [(0, .ref (zad w 0))] := hl
  unfold wp_Main_forgetAnswers at h
  have zMain : ∀ (H : Heap) (locs : List Loc) (ls : Array Slot), zWo w s.heap M H locs → lv_has ls 1 [(0, .ref (zad w 0))] → W p l e (zRm 1 21) s m ([.ref (zad w 0)] : List Value).toArray below meth c H locs 0 0 (MQ below (va_Qv post (zB w) (zA w)) ([.ref (zad w 0)] : List Value).toArray s 0 0 (zA w)) (F0 m 0 ls []) := by
    intro H locs ls hW hl
    refine lv_aload_n hx hb dX10_forgetAnswers_0 rfl (lv_at hl 0 rfl) ?_
    refine zg_Main_course X hW h0 zu_473 dX10_forgetAnswers_1 ?_
    refine lv_iconst hx hb dX10_forgetAnswers_4 zc_i0 ?_
    refine zp_Course_coats X hW h0.2.2.2.2.2.2.2.2.1 zu_250 dX10_forgetAnswers_5 (fun H locs zm1 ezm1 hW => ?_)
    replace h := h zm1 ezm1
    refine lv_aload_n hx hb dX10_forgetAnswers_8 rfl (lv_at hl 0 rfl) ?_
    refine zg_Main_ring X hW h0 zu_475 dX10_forgetAnswers_9 ?_
    refine lv_iconst hx hb dX10_forgetAnswers_12 zc_i0 ?_
    refine zp_Ring_known X hW h0.2.2.2.2.2.2.2.2.2.2.1 zbo_0 zu_293 dX10_forgetAnswers_13 (fun H locs zm2 ezm2 hW => ?_)
    replace h := h zm2 ezm2
    refine lv_aload_n hx hb dX10_forgetAnswers_16 rfl (lv_at hl 0 rfl) ?_
    refine zg_Main_bestParts X hW h0 zu_478 dX10_forgetAnswers_17 ?_
    refine lv_iconst hx hb dX10_forgetAnswers_20 zc_i0 ?_
    refine zp_Parts_known X hW h0.2.2.2.2.2.2.2.2.2.2.2.2.2 zbo_0 zu_354 dX10_forgetAnswers_21 (fun H locs zm3 ezm3 hW => ?_)
    replace h := h zm3 ezm3
    refine lv_aload_n hx hb dX10_forgetAnswers_24 rfl (lv_at hl 0 rfl) ?_
    refine zg_Main_orders X hW h0 zu_477 dX10_forgetAnswers_25 ?_
    refine zcallv (zrunV (As := []) (rest := []) X hml hl hW h0.2.2.2.2.2.2.2.2.2.2.2.2.1.1 rfl zk_Main_376 (c_Orders_forget h0.2.2.2.2.2.2.2.2.2.2.2.2.1 h) rfl ⟨Nat.le_of_ble_eq_true rfl, Nat.le_of_ble_eq_true rfl⟩ ⟨Nat.le_refl 0, Nat.le_refl 0⟩ rfl (Nat.le_of_ble_eq_true rfl) dX10_forgetAnswers_28) hW (fun zm4 H locs h hW => ?_)
    exact zretv X hr hlk hW h dX10_forgetAnswers_31
  exact zMain s.heap [] ls hW hl
def wpB_Main_text_61    (Q : Int32 → zMem → Prop) (J : Int32 → zMem → Prop) (x_2 : Int32) (M : zMem) : Prop :=
  (2 ≤ x_2 → wp_Main_forgetAnswers M (fun zm10 => Q (zm10 11 3) zm10)) ∧ (¬ 2 ≤ x_2 → vp_in x_2 2 ∧ ∀ zm12 : zMem, zm12 = zup M 28 (ix x_2) (vp_nar .boolean 0) → ∀ zx13 : Int32, zx13 = x_2 + 1 → J zx13 zm12)
def wp_Main_text  (M : zMem) (Q : Int32 → zMem → Prop) : Prop :=
  wp_Reader_readAll 11 M (fun zr2 zm1 => ∀ zm3 : zMem, zm3 = zup zm1 11 5 0 → (¬ zr2 = 0 → wp_Told_copyFrom 1 12 zm3 (fun zm4 => wp_Bench_clear 18 zm4 (fun zm6 => wp_Bench_doAll 18 zm6 (fun zm8 => ∃ n : Nat, zlp1 (wpB_Main_text_61    Q) n 0 zm8)))) ∧ (zr2 = 0 → Q (((-10)) - (zm3 11 2)) zm3))
set_option maxHeartbeats 4000000 in
set_option maxRecDepth 20000 in
theorem c_Main_text {l : Launch} {w : zWd} {M : zMem} {post : Int32 → zMem → Prop} (h0 : zI_Main w) (h : wp_Main_text  M post) : zMi l ⟨"HandToHand", "text", "()I"⟩ prog_1_method_4_code 3 (Option.some .int) 10 215 w [.ref (zad w 0)] M post := by
  refine zMet (by decide) (Nat.le_of_ble_eq_true rfl) ?_
  intro p e s m below meth c X hr hlk hml hW ls hl
  have hx := X.1
  have hb := X.2.1
  have hl : lv_has ls 3 [(0, .ref (zad w 0))] := hl
  have zL_61 :  ∀ (n : Nat) (x_2 : Int32) (M : zMem) (H : Heap) (locs : List Loc) (ls : Array Slot), zWo w s.heap M H locs → lv_has ls 3 [(0, .ref (zad w 0)), (2, .int x_2)] → zlp1 (wpB_Main_text_61    post) n x_2 M → W p l e (zRm 10 215) s m ([.ref (zad w 0)] : List Value).toArray below meth c H locs 0 0 (MQ below (va_Qi post (zB w) (zA w)) ([.ref (zad w 0)] : List Value).toArray s 0 0 (zA w)) (F0 m 61 ls []) := by
    intro n
    induction n with
    | zero => intro x_2 M H locs ls hW hl h; exact h.elim
    | succ n zJ =>
      intro x_2 M H locs ls hW hl h
      have h : wpB_Main_text_61    post (zlp1 (wpB_Main_text_61    post) n) x_2 M := h
      unfold wpB_Main_text_61 at h
      refine lv_iload_n hx hb dX10_text_61 rfl (lv_at hl 1 rfl) ?_
      refine lv_iconst hx hb dX10_text_62 zc_i2 ?_
      refine lv_icmp_ge (tgt := 79) hx hb dX10_text_63 rfl (fun c => ?_) (fun c => ?_)
      · replace h := h.1 c
        refine lv_aload_n hx hb dX10_text_79 rfl (lv_at hl 0 rfl) ?_
        refine zcallv (zrunV (As := []) (rest := []) X hml hl hW h0.1 rfl zk_Main_120 (c_Main_forgetAnswers h0 h) rfl ⟨Nat.le_of_ble_eq_true rfl, Nat.le_of_ble_eq_true rfl⟩ ⟨Nat.le_refl 0, Nat.le_refl 0⟩ rfl (Nat.le_of_ble_eq_true rfl) dX10_text_80) hW (fun zm10 H locs h hW => ?_)
        refine lv_aload_n hx hb dX10_text_83 rfl (lv_at hl 0 rfl) ?_
        refine zg_Main_reader X hW h0 zu_469 dX10_text_84 ?_
        refine zg_Reader_lines X hW h0.2.2.2.2.2.2.1 zu_111 dX10_text_87 ?_
        exact zreti X hr hlk hW h dX10_text_90
      · replace h := h.2 c
        refine lv_aload_n hx hb dX10_text_66 rfl (lv_at hl 0 rfl) ?_
        refine zg_Main_kept X hW h0 zu_472 dX10_text_67 ?_
        refine lv_iload_n hx hb dX10_text_70 rfl (lv_at hl 1 rfl) ?_
        refine lv_iconst hx hb dX10_text_71 zc_i0 ?_
        obtain ⟨g, h⟩ := h
        refine zzast X hW h0.2.1 g dX10_text_72 (fun H locs zm12 ezm12 hW => ?_)
        replace h := h zm12 ezm12
        obtain ⟨zx13, ezx13⟩ : ∃ y : Int32, y = x_2 + 1 := ⟨_, rfl⟩
        replace h := h zx13 ezx13
        refine lv_iinc (v := zx13) (lv' := [(2, .int zx13), (0, .ref (zad w 0))]) hx hb dX10_text_73 hl (k := 1) rfl (by rw [ezx13, zc_i1]) (Nat.le_of_ble_eq_true rfl) rfl (fun ls hl => ?_)
        refine lv_goto (tgt := 61) hx hb dX10_text_76 rfl ?_
        exact zJ zx13 zm12 H locs ls hW (lv_sub hl [1, 0] rfl) h
  unfold wp_Main_text at h
  have zMain : ∀ (H : Heap) (locs : List Loc) (ls : Array Slot), zWo w s.heap M H locs → lv_has ls 3 [(0, .ref (zad w 0))] → W p l e (zRm 10 215) s m ([.ref (zad w 0)] : List Value).toArray below meth c H locs 0 0 (MQ below (va_Qi post (zB w) (zA w)) ([.ref (zad w 0)] : List Value).toArray s 0 0 (zA w)) (F0 m 0 ls []) := by
    intro H locs ls hW hl
    refine lv_aload_n hx hb dX10_text_0 rfl (lv_at hl 0 rfl) ?_
    refine zg_Main_reader X hW h0 zu_469 dX10_text_1 ?_
    refine zcalli (zrunV (As := []) (rest := []) X hml hl hW h0.2.2.2.2.2.2.1.1 rfl zk_Main_107 (c_Reader_readAll h0.2.2.2.2.2.2.1 h) rfl ⟨Nat.le_of_ble_eq_true rfl, Nat.le_of_ble_eq_true rfl⟩ ⟨Nat.le_refl 0, Nat.le_refl 0⟩ rfl (Nat.le_of_ble_eq_true rfl) dX10_text_4) hW (fun zr2 zm1 H locs h hW => ?_)
    refine lv_istore_n (lv' := [(1, .int zr2), (0, .ref (zad w 0))]) hx hb dX10_text_7 rfl hl (Nat.le_of_ble_eq_true rfl) rfl (fun ls hl => ?_)
    refine lv_aload_n hx hb dX10_text_8 rfl (lv_at hl 1 rfl) ?_
    refine zg_Main_reader X hW h0 zu_469 dX10_text_9 ?_
    refine lv_iconst hx hb dX10_text_12 zc_i0 ?_
    refine zp_Reader_length X hW h0.2.2.2.2.2.2.1 zu_114 dX10_text_13 (fun H locs zm3 ezm3 hW => ?_)
    replace h := h zm3 ezm3
    refine lv_iload_n hx hb dX10_text_16 rfl (lv_at hl 0 rfl) ?_
    refine lv_if_ne (tgt := 31) hx hb dX10_text_17 rfl (fun c => ?_) (fun c => ?_)
    · replace h := h.1 c
      refine lv_aload_n hx hb dX10_text_31 rfl (lv_at hl 1 rfl) ?_
      refine zg_Main_told X hW h0 zu_467 dX10_text_32 ?_
      refine lv_aload_n hx hb dX10_text_35 rfl (lv_at hl 1 rfl) ?_
      refine zg_Main_reader X hW h0 zu_469 dX10_text_36 ?_
      refine zg_Reader_draft X hW h0.2.2.2.2.2.2.1 zu_105 dX10_text_39 ?_
      refine zcallv (zrunV (As := [.ref (zad w 12)]) (rest := []) X hml hl hW h0.2.2.2.2.1.1 rfl zk_Main_117 (c_Told_copyFrom h0.2.2.2.2.1 h0.2.2.2.2.2.2.1.2.2 h) rfl ⟨Nat.le_of_ble_eq_true rfl, Nat.le_of_ble_eq_true rfl⟩ ⟨Nat.le_refl 0, Nat.le_refl 0⟩ rfl (Nat.le_of_ble_eq_true rfl) dX10_text_42) hW (fun zm4 H locs h hW => ?_)
      refine lv_aload_n hx hb dX10_text_45 rfl (lv_at hl 1 rfl) ?_
      refine zg_Main_bench X hW h0 zu_470 dX10_text_46 ?_
      refine zcallv (zrunV (As := []) (rest := []) X hml hl hW h0.2.2.2.2.2.2.2.1.1 rfl zk_Main_93 (c_Bench_clear h0.2.2.2.2.2.2.2.1 h) rfl ⟨Nat.le_of_ble_eq_true rfl, Nat.le_of_ble_eq_true rfl⟩ ⟨Nat.le_refl 0, Nat.le_refl 0⟩ rfl (Nat.le_of_ble_eq_true rfl) dX10_text_49) hW (fun zm6 H locs h hW => ?_)
      refine lv_aload_n hx hb dX10_text_52 rfl (lv_at hl 1 rfl) ?_
      refine zg_Main_bench X hW h0 zu_470 dX10_text_53 ?_
      refine zcallv (zrunV (As := []) (rest := []) X hml hl hW h0.2.2.2.2.2.2.2.1.1 rfl zk_Main_96 (c_Bench_doAll h0.2.2.2.2.2.2.2.1 h) rfl ⟨Nat.le_of_ble_eq_true rfl, Nat.le_of_ble_eq_true rfl⟩ ⟨Nat.le_refl 0, Nat.le_refl 0⟩ rfl (Nat.le_of_ble_eq_true rfl) dX10_text_56) hW (fun zm8 H locs h hW => ?_)
      refine lv_iconst hx hb dX10_text_59 zc_i0 ?_
      refine lv_istore_n (lv' := [(2, .int 0), (1, .int zr2), (0, .ref (zad w 0))]) hx hb dX10_text_60 rfl hl (Nat.le_of_ble_eq_true rfl) rfl (fun ls hl => ?_)
      obtain ⟨n, h⟩ := h
      refine zL_61   n 0 zm8 H locs ls hW (lv_sub hl [2, 0] rfl) h
    · replace h := h.2 c
      refine lv_bipush hx hb dX10_text_20 zc_bm10 ?_
      refine lv_aload_n hx hb dX10_text_22 rfl (lv_at hl 1 rfl) ?_
      refine zg_Main_reader X hW h0 zu_469 dX10_text_23 ?_
      refine zg_Reader_faultPlace X hW h0.2.2.2.2.2.2.1 zu_109 dX10_text_26 ?_
      refine lv_isub hx hb dX10_text_29 ?_
      exact zreti X hr hlk hW h dX10_text_30
  exact zMain s.heap [] ls hW hl
def wp_Main_fault  (M : zMem) (Q : Int32 → zMem → Prop) : Prop :=
  Q (M 11 1) M
set_option maxHeartbeats 4000000 in
set_option maxRecDepth 20000 in
theorem c_Main_fault {l : Launch} {w : zWd} {M : zMem} {post : Int32 → zMem → Prop} (h0 : zI_Main w) (h : wp_Main_fault  M post) : zMi l ⟨"HandToHand", "fault", "()I"⟩ prog_1_method_5_code 1 (Option.some .int) 0 0 w [.ref (zad w 0)] M post := by
  refine zMet (by decide) (Nat.le_of_ble_eq_true rfl) ?_
  intro p e s m below meth c X hr hlk hml hW ls hl
  have hx := X.1
  have hb := X.2.1
  have hl : lv_has ls 1 [(0, .ref (zad w 0))] := hl
  unfold wp_Main_fault at h
  have zMain : ∀ (H : Heap) (locs : List Loc) (ls : Array Slot), zWo w s.heap M H locs → lv_has ls 1 [(0, .ref (zad w 0))] → W p l e (zRm 0 0) s m ([.ref (zad w 0)] : List Value).toArray below meth c H locs 0 0 (MQ below (va_Qi post (zB w) (zA w)) ([.ref (zad w 0)] : List Value).toArray s 0 0 (zA w)) (F0 m 0 ls []) := by
    intro H locs ls hW hl
    refine lv_aload_n hx hb dX10_fault_0 rfl (lv_at hl 0 rfl) ?_
    refine zg_Main_reader X hW h0 zu_469 dX10_fault_1 ?_
    refine zg_Reader_fault X hW h0.2.2.2.2.2.2.1 zu_107 dX10_fault_4 ?_
    exact zreti X hr hlk hW h dX10_fault_7
  exact zMain s.heap [] ls hW hl
