def wpB_Reader_readName_5 (k : Nat)  (K40 : zMem → Prop) (Q : Int32 → zMem → Prop) (J : zMem → Prop)  (M : zMem) : Prop :=
  ((M k 5) ≤ (M k 6) → K40 M) ∧ (¬ (M k 5) ≤ (M k 6) → wp_Reader_isLetter k (M k 6) M (fun zr3 zm2 => (zr3 = 0 → K40 zm2) ∧ (¬ zr3 = 0 → ∀ zm4 : zMem, zm4 = zup zm2 k 6 ((zm2 k 6) + 1) → J zm4)))
def wpB_Reader_readName_68 (k : Nat) (x_1 : Int32) (x_2 : Nat) (K114 : Int32 → zMem → Prop) (Q : Int32 → zMem → Prop) (J : Int32 → zMem → Prop) (x_3 : Int32) (M : zMem) : Prop :=
  wp_Str_length x_2 M (fun zr10 zm9 => (zr10 ≤ x_3 → K114 x_3 zm9) ∧ (¬ zr10 ≤ x_3 → ((zm9 k 6) ≤ ((zm9 k 8) + x_3) → K114 x_3 zm9) ∧ (¬ (zm9 k 6) ≤ ((zm9 k 8) + x_3) → vp_in ((zm9 k 8) + x_3) 400 ∧ wp_Str_charAt x_2 x_3 zm9 (fun zr12 zm11 => (¬ (zm9 (k + 6) (ix ((zm9 k 8) + x_3))) = zr12 → K114 x_3 zm11) ∧ ((zm9 (k + 6) (ix ((zm9 k 8) + x_3))) = zr12 → ∀ zx13 : Int32, zx13 = x_3 + 1 → J zx13 zm11)))))
def wpJ_Reader_readName_114 (k : Nat) (K146 : zMem → Prop) (J : Int32 → zMem → Prop) (Q : Int32 → zMem → Prop) (x_1 : Int32) (x_2 : Nat) (x_3 : Int32)  (M : zMem) : Prop :=
  wp_Str_length x_2 M (fun zr17 zm16 => (¬ x_3 = zr17 → ∀ zx18 : Int32, zx18 = x_1 + 1 → J zx18 zm16) ∧ (x_3 = zr17 → (¬ ((zm16 k 8) + x_3) = (zm16 k 6) → ∀ zx19 : Int32, zx19 = x_1 + 1 → J zx19 zm16) ∧ (((zm16 k 8) + x_3) = (zm16 k 6) → ∀ zm20 : zMem, zm20 = zup zm16 k 9 x_1 → ∀ zx21 : Int32, zx21 = x_1 + 1 → J zx21 zm20)))
def wpB_Reader_readName_47 (k : Nat)  (K146 : zMem → Prop) (Q : Int32 → zMem → Prop) (J : Int32 → zMem → Prop) (x_1 : Int32) (M : zMem) : Prop :=
  (10 ≤ x_1 → K146 M) ∧ (¬ 10 ≤ x_1 → (¬ (M k 9) = (-1) → K146 M) ∧ ((M k 9) = (-1) → wp_Reader_wordOf x_1 M (fun zr8 zm7 => ∃ n : Nat, zlp1 (wpB_Reader_readName_68 k x_1 zr8 (fun (zx15 : Int32) (zm14 : zMem) => wpJ_Reader_readName_114 k K146 J Q x_1 zr8 zx15 zm14) Q) n 0 zm7)))
def wpJ_Reader_readName_146 (k : Nat)  (Q : Int32 → zMem → Prop)   (M : zMem) : Prop :=
  (¬ (M k 9) = (-1) → Q 1 M) ∧ ((M k 9) = (-1) → wp_Reader_refuse k 1 (M k 8) M (fun zr24 zm23 => (zr24 = 0 → Q 0 zm23) ∧ (¬ zr24 = 0 → Q 1 zm23)))
def wp_Reader_readName (k : Nat) (M : zMem) (Q : Int32 → zMem → Prop) : Prop :=
  ∀ zm1 : zMem, zm1 = zup M k 7 1 → ∃ n : Nat, zlp0 (wpB_Reader_readName_5 k  (fun (zm5 : zMem) => ∀ zm6 : zMem, zm6 = zup zm5 k 9 ((-1)) → ∃ n : Nat, zlp1 (wpB_Reader_readName_47 k  (fun (zm22 : zMem) => wpJ_Reader_readName_146 k Q zm22) Q) n 0 zm6) Q) n  zm1
set_option maxHeartbeats 4000000 in
set_option maxRecDepth 20000 in
theorem c_Reader_readName {l : Launch} {w : zWd} {k : Nat} {M : zMem} {post : Int32 → zMem → Prop} (h0 : zI_Reader w k) (h : wp_Reader_readName k M post) : zMi l ⟨"HandToHand$Reader", "readName", "()Z"⟩ prog_7_method_20_code 4 (Option.some .boolean) 4 85 w [.ref (zad w k)] M post := by
  refine zMet (by decide) (Nat.le_of_ble_eq_true rfl) ?_
  intro p e s m below meth c X hr hlk hml hW ls hl
  have hx := X.1
  have hb := X.2.1
  have hl : lv_has ls 4 [(0, .ref (zad w k))] := hl
  have zL_5 : ∀ (K40 : zMem → Prop) (zK40 : ∀ (M : zMem) (H : Heap) (locs : List Loc) (ls : Array Slot), zWo w s.heap M H locs → lv_has ls 4 [(0, .ref (zad w k))] → K40 M → W p l e (zRm 4 85) s m ([.ref (zad w k)] : List Value).toArray below meth c H locs 0 0 (MQ below (va_Qi post (zB w) (zA w)) ([.ref (zad w k)] : List Value).toArray s 0 0 (zA w)) (F0 m 40 ls [])), ∀ (n : Nat) (M : zMem) (H : Heap) (locs : List Loc) (ls : Array Slot), zWo w s.heap M H locs → lv_has ls 4 [(0, .ref (zad w k))] → zlp0 (wpB_Reader_readName_5 k  K40 post) n M → W p l e (zRm 4 85) s m ([.ref (zad w k)] : List Value).toArray below meth c H locs 0 0 (MQ below (va_Qi post (zB w) (zA w)) ([.ref (zad w k)] : List Value).toArray s 0 0 (zA w)) (F0 m 5 ls []) := by
    intro K40 zK40 n
    induction n with
    | zero => intro M H locs ls hW hl h; exact h.elim
    | succ n zJ =>
      intro M H locs ls hW hl h
      have h : wpB_Reader_readName_5 k  K40 post (zlp0 (wpB_Reader_readName_5 k  K40 post) n) M := h
      unfold wpB_Reader_readName_5 at h
      refine lv_aload_n hx hb dX5_readName_5 rfl (lv_at hl 0 rfl) ?_
      refine zg_Reader_next X hW h0 zu_116 dX5_readName_6 ?_
      refine lv_aload_n hx hb dX5_readName_9 rfl (lv_at hl 0 rfl) ?_
      refine zg_Reader_length X hW h0 zu_115 dX5_readName_10 ?_
      refine lv_icmp_ge (tgt := 40) hx hb dX5_readName_13 rfl (fun c => ?_) (fun c => ?_)
      · replace h := h.1 c
        exact zK40 M H locs ls hW (lv_sub hl [0] rfl) h
      · replace h := h.2 c
        refine lv_aload_n hx hb dX5_readName_16 rfl (lv_at hl 0 rfl) ?_
        refine lv_aload_n hx hb dX5_readName_17 rfl (lv_at hl 0 rfl) ?_
        refine zg_Reader_next X hW h0 zu_116 dX5_readName_18 ?_
        refine zcalli (zrunV (As := [.int (M k 6)]) (rest := []) X hml hl hW h0.1 rfl zk_Reader_162 (c_Reader_isLetter h0 h) rfl ⟨Nat.le_of_ble_eq_true rfl, Nat.le_of_ble_eq_true rfl⟩ ⟨Nat.le_refl 0, Nat.le_refl 0⟩ rfl (Nat.le_of_ble_eq_true rfl) dX5_readName_21) hW (fun zr3 zm2 H locs h hW => ?_)
        refine lv_if_eq (tgt := 40) hx hb dX5_readName_24 rfl (fun c => ?_) (fun c => ?_)
        · replace h := h.1 c
          exact zK40 zm2 H locs ls hW (lv_sub hl [0] rfl) h
        · replace h := h.2 c
          refine lv_aload_n hx hb dX5_readName_27 rfl (lv_at hl 0 rfl) ?_
          refine lv_dup hx hb dX5_readName_28 rfl ?_
          refine zg_Reader_next X hW h0 zu_116 dX5_readName_29 ?_
          refine lv_iconst hx hb dX5_readName_32 zc_i1 ?_
          refine lv_iadd hx hb dX5_readName_33 ?_
          refine zp_Reader_next X hW h0 zu_116 dX5_readName_34 (fun H locs zm4 ezm4 hW => ?_)
          replace h := h zm4 ezm4
          refine lv_goto (tgt := 5) hx hb dX5_readName_37 rfl ?_
          exact zJ zm4 H locs ls hW (lv_sub hl [0] rfl) h
  have zL_68 : ∀ (x_1 : Int32) (x_2 : Nat) (K114 : Int32 → zMem → Prop) (zK114 : ∀ (y_3 : Int32) (M : zMem) (H : Heap) (locs : List Loc) (ls : Array Slot), zWo w s.heap M H locs → lv_has ls 4 [(0, .ref (zad w k)), (1, .int x_1), (2, .ref (zsa w x_2)), (3, .int y_3)] → K114 y_3 M → W p l e (zRm 4 85) s m ([.ref (zad w k)] : List Value).toArray below meth c H locs 0 0 (MQ below (va_Qi post (zB w) (zA w)) ([.ref (zad w k)] : List Value).toArray s 0 0 (zA w)) (F0 m 114 ls [])), ∀ (n : Nat) (x_3 : Int32) (M : zMem) (H : Heap) (locs : List Loc) (ls : Array Slot), zWo w s.heap M H locs → lv_has ls 4 [(0, .ref (zad w k)), (1, .int x_1), (2, .ref (zsa w x_2)), (3, .int x_3)] → zlp1 (wpB_Reader_readName_68 k x_1 x_2 K114 post) n x_3 M → W p l e (zRm 4 85) s m ([.ref (zad w k)] : List Value).toArray below meth c H locs 0 0 (MQ below (va_Qi post (zB w) (zA w)) ([.ref (zad w k)] : List Value).toArray s 0 0 (zA w)) (F0 m 68 ls []) := by
    intro x_1 x_2 K114 zK114 n
    induction n with
    | zero => intro x_3 M H locs ls hW hl h; exact h.elim
    | succ n zJ =>
      intro x_3 M H locs ls hW hl h
      have h : wpB_Reader_readName_68 k x_1 x_2 K114 post (zlp1 (wpB_Reader_readName_68 k x_1 x_2 K114 post) n) x_3 M := h
      unfold wpB_Reader_readName_68 at h
      refine lv_iload_n hx hb dX5_readName_68 rfl (lv_at hl 3 rfl) ?_
      refine lv_aload_n hx hb dX5_readName_69 rfl (lv_at hl 2 rfl) ?_
      refine zcalli (zrunVs (As := []) (rest := [.int x_3]) X hml hl hW h.1 zkS_length (c_Str_length h) rfl ⟨Nat.le_of_ble_eq_true rfl, Nat.le_of_ble_eq_true rfl⟩ ⟨Nat.le_refl 0, Nat.le_refl 0⟩ rfl (Nat.le_of_ble_eq_true rfl) dX5_readName_70) hW (fun zr10 zm9 H locs h hW => ?_)
      refine lv_icmp_ge (tgt := 114) hx hb dX5_readName_73 rfl (fun c => ?_) (fun c => ?_)
      · replace h := h.1 c
        exact zK114 x_3 zm9 H locs ls hW (lv_sub hl [0, 1, 2, 3] rfl) h
      · replace h := h.2 c
        refine lv_aload_n hx hb dX5_readName_76 rfl (lv_at hl 0 rfl) ?_
        refine zg_Reader_start X hW h0 zu_118 dX5_readName_77 ?_
        refine lv_iload_n hx hb dX5_readName_80 rfl (lv_at hl 3 rfl) ?_
        refine lv_iadd hx hb dX5_readName_81 ?_
        refine lv_aload_n hx hb dX5_readName_82 rfl (lv_at hl 0 rfl) ?_
        refine zg_Reader_next X hW h0 zu_116 dX5_readName_83 ?_
        refine lv_icmp_ge (tgt := 114) hx hb dX5_readName_86 rfl (fun c => ?_) (fun c => ?_)
        · replace h := h.1 c
          exact zK114 x_3 zm9 H locs ls hW (lv_sub hl [0, 1, 2, 3] rfl) h
        · replace h := h.2 c
          refine lv_aload_n hx hb dX5_readName_89 rfl (lv_at hl 0 rfl) ?_
          refine zg_Reader_tape X hW h0 zu_112 dX5_readName_90 ?_
          refine lv_aload_n hx hb dX5_readName_93 rfl (lv_at hl 0 rfl) ?_
          refine zg_Reader_start X hW h0 zu_118 dX5_readName_94 ?_
          refine lv_iload_n hx hb dX5_readName_97 rfl (lv_at hl 3 rfl) ?_
          refine lv_iadd hx hb dX5_readName_98 ?_
          obtain ⟨g, h⟩ := h
          refine zbald X hW h0.2.1 g dX5_readName_99 ?_
          refine lv_aload_n hx hb dX5_readName_100 rfl (lv_at hl 2 rfl) ?_
          refine lv_iload_n hx hb dX5_readName_101 rfl (lv_at hl 3 rfl) ?_
          refine zcalli (zrunVs (As := [.int x_3]) (rest := [.int (zm9 (k + 6) (ix ((zm9 k 8) + x_3)))]) X hml hl hW h.1 zkS_charAt (c_Str_charAt h) rfl ⟨Nat.le_of_ble_eq_true rfl, Nat.le_of_ble_eq_true rfl⟩ ⟨Nat.le_refl 0, Nat.le_refl 0⟩ rfl (Nat.le_of_ble_eq_true rfl) dX5_readName_102) hW (fun zr12 zm11 H locs h hW => ?_)
          refine lv_icmp_ne (tgt := 114) hx hb dX5_readName_105 rfl (fun c => ?_) (fun c => ?_)
          · replace h := h.1 c
            exact zK114 x_3 zm11 H locs ls hW (lv_sub hl [0, 1, 2, 3] rfl) h
          · replace h := h.2 c
            obtain ⟨zx13, ezx13⟩ : ∃ y : Int32, y = x_3 + 1 := ⟨_, rfl⟩
            replace h := h zx13 ezx13
            refine lv_iinc (v := zx13) (lv' := [(3, .int zx13), (0, .ref (zad w k)), (1, .int x_1), (2, .ref (zsa w x_2))]) hx hb dX5_readName_108 hl (k := 3) rfl (by rw [ezx13, zc_i1]) (Nat.le_of_ble_eq_true rfl) rfl (fun ls hl => ?_)
            refine lv_goto (tgt := 68) hx hb dX5_readName_111 rfl ?_
            exact zJ zx13 zm11 H locs ls hW (lv_sub hl [1, 2, 3, 0] rfl) h
  have zJ_114 : ∀ (x_1 : Int32) (x_2 : Nat) (x_3 : Int32) (K146 : zMem → Prop) (zK146 : ∀ (M : zMem) (H : Heap) (locs : List Loc) (ls : Array Slot), zWo w s.heap M H locs → lv_has ls 4 [(0, .ref (zad w k))] → K146 M → W p l e (zRm 4 85) s m ([.ref (zad w k)] : List Value).toArray below meth c H locs 0 0 (MQ below (va_Qi post (zB w) (zA w)) ([.ref (zad w k)] : List Value).toArray s 0 0 (zA w)) (F0 m 146 ls [])) (J : Int32 → zMem → Prop) (zJ : ∀ (y_1 : Int32) (M : zMem) (H : Heap) (locs : List Loc) (ls : Array Slot), zWo w s.heap M H locs → lv_has ls 4 [(0, .ref (zad w k)), (1, .int y_1)] → J y_1 M → W p l e (zRm 4 85) s m ([.ref (zad w k)] : List Value).toArray below meth c H locs 0 0 (MQ below (va_Qi post (zB w) (zA w)) ([.ref (zad w k)] : List Value).toArray s 0 0 (zA w)) (F0 m 47 ls [])) (M : zMem) (H : Heap) (locs : List Loc) (ls : Array Slot), zWo w s.heap M H locs → lv_has ls 4 [(0, .ref (zad w k)), (1, .int x_1), (2, .ref (zsa w x_2)), (3, .int x_3)] → wpJ_Reader_readName_114 k K146 J post x_1 x_2 x_3 M → W p l e (zRm 4 85) s m ([.ref (zad w k)] : List Value).toArray below meth c H locs 0 0 (MQ below (va_Qi post (zB w) (zA w)) ([.ref (zad w k)] : List Value).toArray s 0 0 (zA w)) (F0 m 114 ls []) := by
    intro x_1 x_2 x_3 K146 zK146 J zJ M H locs ls hW hl h
    unfold wpJ_Reader_readName_114 at h
    refine lv_iload_n hx hb dX5_readName_114 rfl (lv_at hl 3 rfl) ?_
    refine lv_aload_n hx hb dX5_readName_115 rfl (lv_at hl 2 rfl) ?_
    refine zcalli (zrunVs (As := []) (rest := [.int x_3]) X hml hl hW h.1 zkS_length (c_Str_length h) rfl ⟨Nat.le_of_ble_eq_true rfl, Nat.le_of_ble_eq_true rfl⟩ ⟨Nat.le_refl 0, Nat.le_refl 0⟩ rfl (Nat.le_of_ble_eq_true rfl) dX5_readName_116) hW (fun zr17 zm16 H locs h hW => ?_)
    refine lv_icmp_ne (tgt := 140) hx hb dX5_readName_119 rfl (fun c => ?_) (fun c => ?_)
    · replace h := h.1 c
      obtain ⟨zx18, ezx18⟩ : ∃ y : Int32, y = x_1 + 1 := ⟨_, rfl⟩
      replace h := h zx18 ezx18
      refine lv_iinc (v := zx18) (lv' := [(1, .int zx18), (0, .ref (zad w k)), (2, .ref (zsa w x_2)), (3, .int x_3)]) hx hb dX5_readName_140 hl (k := 1) rfl (by rw [ezx18, zc_i1]) (Nat.le_of_ble_eq_true rfl) rfl (fun ls hl => ?_)
      refine lv_goto (tgt := 47) hx hb dX5_readName_143 rfl ?_
      exact zJ zx18 zm16 H locs ls hW (lv_sub hl [1, 0] rfl) h
    · replace h := h.2 c
      refine lv_aload_n hx hb dX5_readName_122 rfl (lv_at hl 0 rfl) ?_
      refine zg_Reader_start X hW h0 zu_118 dX5_readName_123 ?_
      refine lv_iload_n hx hb dX5_readName_126 rfl (lv_at hl 3 rfl) ?_
      refine lv_iadd hx hb dX5_readName_127 ?_
      refine lv_aload_n hx hb dX5_readName_128 rfl (lv_at hl 0 rfl) ?_
      refine zg_Reader_next X hW h0 zu_116 dX5_readName_129 ?_
      refine lv_icmp_ne (tgt := 140) hx hb dX5_readName_132 rfl (fun c => ?_) (fun c => ?_)
      · replace h := h.1 c
        obtain ⟨zx19, ezx19⟩ : ∃ y : Int32, y = x_1 + 1 := ⟨_, rfl⟩
        replace h := h zx19 ezx19
        refine lv_iinc (v := zx19) (lv' := [(1, .int zx19), (0, .ref (zad w k)), (2, .ref (zsa w x_2)), (3, .int x_3)]) hx hb dX5_readName_140 hl (k := 1) rfl (by rw [ezx19, zc_i1]) (Nat.le_of_ble_eq_true rfl) rfl (fun ls hl => ?_)
        refine lv_goto (tgt := 47) hx hb dX5_readName_143 rfl ?_
        exact zJ zx19 zm16 H locs ls hW (lv_sub hl [1, 0] rfl) h
      · replace h := h.2 c
        refine lv_aload_n hx hb dX5_readName_135 rfl (lv_at hl 0 rfl) ?_
        refine lv_iload_n hx hb dX5_readName_136 rfl (lv_at hl 1 rfl) ?_
        refine zp_Reader_value X hW h0 zu_119 dX5_readName_137 (fun H locs zm20 ezm20 hW => ?_)
        replace h := h zm20 ezm20
        obtain ⟨zx21, ezx21⟩ : ∃ y : Int32, y = x_1 + 1 := ⟨_, rfl⟩
        replace h := h zx21 ezx21
        refine lv_iinc (v := zx21) (lv' := [(1, .int zx21), (0, .ref (zad w k)), (2, .ref (zsa w x_2)), (3, .int x_3)]) hx hb dX5_readName_140 hl (k := 1) rfl (by rw [ezx21, zc_i1]) (Nat.le_of_ble_eq_true rfl) rfl (fun ls hl => ?_)
        refine lv_goto (tgt := 47) hx hb dX5_readName_143 rfl ?_
        exact zJ zx21 zm20 H locs ls hW (lv_sub hl [1, 0] rfl) h
  have zL_47 : ∀ (K146 : zMem → Prop) (zK146 : ∀ (M : zMem) (H : Heap) (locs : List Loc) (ls : Array Slot), zWo w s.heap M H locs → lv_has ls 4 [(0, .ref (zad w k))] → K146 M → W p l e (zRm 4 85) s m ([.ref (zad w k)] : List Value).toArray below meth c H locs 0 0 (MQ below (va_Qi post (zB w) (zA w)) ([.ref (zad w k)] : List Value).toArray s 0 0 (zA w)) (F0 m 146 ls [])), ∀ (n : Nat) (x_1 : Int32) (M : zMem) (H : Heap) (locs : List Loc) (ls : Array Slot), zWo w s.heap M H locs → lv_has ls 4 [(0, .ref (zad w k)), (1, .int x_1)] → zlp1 (wpB_Reader_readName_47 k  K146 post) n x_1 M → W p l e (zRm 4 85) s m ([.ref (zad w k)] : List Value).toArray below meth c H locs 0 0 (MQ below (va_Qi post (zB w) (zA w)) ([.ref (zad w k)] : List Value).toArray s 0 0 (zA w)) (F0 m 47 ls []) := by
    intro K146 zK146 n
    induction n with
    | zero => intro x_1 M H locs ls hW hl h; exact h.elim
    | succ n zJ =>
      intro x_1 M H locs ls hW hl h
      have h : wpB_Reader_readName_47 k  K146 post (zlp1 (wpB_Reader_readName_47 k  K146 post) n) x_1 M := h
      unfold wpB_Reader_readName_47 at h
      refine lv_iload_n hx hb dX5_readName_47 rfl (lv_at hl 1 rfl) ?_
      refine lv_bipush hx hb dX5_readName_48 zc_b10 ?_
      refine lv_icmp_ge (tgt := 146) hx hb dX5_readName_50 rfl (fun c => ?_) (fun c => ?_)
      · replace h := h.1 c
        exact zK146 M H locs ls hW (lv_sub hl [0] rfl) h
      · replace h := h.2 c
        refine lv_aload_n hx hb dX5_readName_53 rfl (lv_at hl 0 rfl) ?_
        refine zg_Reader_value X hW h0 zu_119 dX5_readName_54 ?_
        refine lv_iconst hx hb dX5_readName_57 zc_im1 ?_
        refine lv_icmp_ne (tgt := 146) hx hb dX5_readName_58 rfl (fun c => ?_) (fun c => ?_)
        · replace h := h.1 c
          exact zK146 M H locs ls hW (lv_sub hl [0] rfl) h
        · replace h := h.2 c
          refine lv_iload_n hx hb dX5_readName_61 rfl (lv_at hl 1 rfl) ?_
          refine zcallr (zrunS (As := [.int x_1]) (rest := []) X hml hl hW zkS_wordOf (c_Reader_wordOf h) rfl ⟨Nat.le_of_ble_eq_true rfl, Nat.le_of_ble_eq_true rfl⟩ ⟨Nat.le_refl 0, Nat.le_refl 0⟩ rfl (Nat.le_of_ble_eq_true rfl) dX5_readName_62) hW (fun zr8 zm7 H locs h hW => ?_)
          refine lv_astore_n (lv' := [(2, .ref (zsa w zr8)), (0, .ref (zad w k)), (1, .int x_1)]) hx hb dX5_readName_65 rfl hl (Nat.le_of_ble_eq_true rfl) rfl (fun ls hl => ?_)
          refine lv_iconst hx hb dX5_readName_66 zc_i0 ?_
          refine lv_istore_n (lv' := [(3, .int 0), (2, .ref (zsa w zr8)), (0, .ref (zad w k)), (1, .int x_1)]) hx hb dX5_readName_67 rfl hl (Nat.le_of_ble_eq_true rfl) rfl (fun ls hl => ?_)
          obtain ⟨n, h⟩ := h
          refine zL_68 x_1 zr8 _ (fun zx15 zm14 H locs ls hW hl h => ?_) n 0 zm7 H locs ls hW (lv_sub hl [2, 3, 1, 0] rfl) h
          · skip
            exact zJ_114 x_1 zr8 zx15 _ zK146 _ zJ zm14 H locs ls hW (lv_sub hl [0, 1, 2, 3] rfl) h
  have zJ_146 : ∀ (M : zMem) (H : Heap) (locs : List Loc) (ls : Array Slot), zWo w s.heap M H locs → lv_has ls 4 [(0, .ref (zad w k))] → wpJ_Reader_readName_146 k post M → W p l e (zRm 4 85) s m ([.ref (zad w k)] : List Value).toArray below meth c H locs 0 0 (MQ below (va_Qi post (zB w) (zA w)) ([.ref (zad w k)] : List Value).toArray s 0 0 (zA w)) (F0 m 146 ls []) := by
    intro  M H locs ls hW hl h
    unfold wpJ_Reader_readName_146 at h
    refine lv_aload_n hx hb dX5_readName_146 rfl (lv_at hl 0 rfl) ?_
    refine zg_Reader_value X hW h0 zu_119 dX5_readName_147 ?_
    refine lv_iconst hx hb dX5_readName_150 zc_im1 ?_
    refine lv_icmp_ne (tgt := 166) hx hb dX5_readName_151 rfl (fun c => ?_) (fun c => ?_)
    · replace h := h.1 c
      refine lv_iconst hx hb dX5_readName_166 zc_i1 ?_
      refine lv_goto (tgt := 171) hx hb dX5_readName_167 rfl ?_
      exact zretz X hr hlk hW rfl h dX5_readName_171
    · replace h := h.2 c
      refine lv_aload_n hx hb dX5_readName_154 rfl (lv_at hl 0 rfl) ?_
      refine lv_iconst hx hb dX5_readName_155 zc_i1 ?_
      refine lv_aload_n hx hb dX5_readName_156 rfl (lv_at hl 0 rfl) ?_
      refine zg_Reader_start X hW h0 zu_118 dX5_readName_157 ?_
      refine zcalli (zrunV (As := [.int 1, .int (M k 8)]) (rest := []) X hml hl hW h0.1 rfl zk_Reader_73 (c_Reader_refuse h0 h) rfl ⟨Nat.le_of_ble_eq_true rfl, Nat.le_of_ble_eq_true rfl⟩ ⟨Nat.le_refl 0, Nat.le_refl 0⟩ rfl (Nat.le_of_ble_eq_true rfl) dX5_readName_160) hW (fun zr24 zm23 H locs h hW => ?_)
      refine lv_if_eq (tgt := 170) hx hb dX5_readName_163 rfl (fun c => ?_) (fun c => ?_)
      · replace h := h.1 c
        refine lv_iconst hx hb dX5_readName_170 zc_i0 ?_
        exact zretz X hr hlk hW rfl h dX5_readName_171
      · replace h := h.2 c
        refine lv_iconst hx hb dX5_readName_166 zc_i1 ?_
        refine lv_goto (tgt := 171) hx hb dX5_readName_167 rfl ?_
        exact zretz X hr hlk hW rfl h dX5_readName_171
  unfold wp_Reader_readName at h
  have zMain : ∀ (H : Heap) (locs : List Loc) (ls : Array Slot), zWo w s.heap M H locs → lv_has ls 4 [(0, .ref (zad w k))] → W p l e (zRm 4 85) s m ([.ref (zad w k)] : List Value).toArray below meth c H locs 0 0 (MQ below (va_Qi post (zB w) (zA w)) ([.ref (zad w k)] : List Value).toArray s 0 0 (zA w)) (F0 m 0 ls []) := by
    intro H locs ls hW hl
    refine lv_aload_n hx hb dX5_readName_0 rfl (lv_at hl 0 rfl) ?_
    refine lv_iconst hx hb dX5_readName_1 zc_i1 ?_
    refine zp_Reader_kind X hW h0 zu_117 dX5_readName_2 (fun H locs zm1 ezm1 hW => ?_)
    replace h := h zm1 ezm1
    obtain ⟨n, h⟩ := h
    refine zL_5  _ (fun  zm5 H locs ls hW hl h => ?_) n  zm1 H locs ls hW (lv_sub hl [0] rfl) h
    · skip
      refine lv_aload_n hx hb dX5_readName_40 rfl (lv_at hl 0 rfl) ?_
      refine lv_iconst hx hb dX5_readName_41 zc_im1 ?_
      refine zp_Reader_value X hW h0 zu_119 dX5_readName_42 (fun H locs zm6 ezm6 hW => ?_)
      replace h := h zm6 ezm6
      refine lv_iconst hx hb dX5_readName_45 zc_i0 ?_
      refine lv_istore_n (lv' := [(1, .int 0), (0, .ref (zad w k))]) hx hb dX5_readName_46 rfl hl (Nat.le_of_ble_eq_true rfl) rfl (fun ls hl => ?_)
      obtain ⟨n, h⟩ := h
      refine zL_47  _ (fun  zm22 H locs ls hW hl h => ?_) n 0 zm6 H locs ls hW (lv_sub hl [1, 0] rfl) h
      · skip
        exact zJ_146  zm22 H locs ls hW (lv_sub hl [0] rfl) h
  exact zMain s.heap [] ls hW hl
def wpB_Reader_readToken_0 (k : Nat)  (K38 : zMem → Prop) (Q : Int32 → zMem → Prop) (J : zMem → Prop)  (M : zMem) : Prop :=
  ((M k 5) ≤ (M k 6) → K38 M) ∧ (¬ (M k 5) ≤ (M k 6) → vp_in (M k 6) 400 ∧ (¬ (M (k + 6) (ix (M k 6))) = 32 → K38 M) ∧ ((M (k + 6) (ix (M k 6))) = 32 → ∀ zm1 : zMem, zm1 = zup M k 6 ((M k 6) + 1) → J zm1))
def wpJ_Reader_readToken_38 (k : Nat)  (Q : Int32 → zMem → Prop)   (M : zMem) : Prop :=
  ∀ zm3 : zMem, zm3 = zup M k 8 (M k 6) → ((zm3 k 6) < (zm3 k 5) → vp_in (zm3 k 6) 400 ∧ (¬ (zm3 (k + 6) (ix (zm3 k 6))) = 59 → wp_Reader_isLetter k (zm3 k 6) zm3 (fun zr5 zm4 => (zr5 = 0 → wp_Reader_isFigure k (zm4 k 6) zm4 (fun zr7 zm6 => (zr7 = 0 → wp_Reader_refuse k 1 (zm6 k 8) zm6 (fun zr9 zm8 => zbo zr9 ∧ Q zr9 zm8)) ∧ (¬ zr7 = 0 → wp_Reader_readFigures k zm6 (fun zr11 zm10 => zbo zr11 ∧ Q zr11 zm10)))) ∧ (¬ zr5 = 0 → wp_Reader_readName k zm4 (fun zr13 zm12 => zbo zr13 ∧ Q zr13 zm12)))) ∧ ((zm3 (k + 6) (ix (zm3 k 6))) = 59 → ∀ zm14 : zMem, zm14 = zup zm3 k 7 3 → ∀ zm15 : zMem, zm15 = zup zm14 k 6 ((zm14 k 6) + 1) → Q 1 zm15)) ∧ (¬ (zm3 k 6) < (zm3 k 5) → ∀ zm16 : zMem, zm16 = zup zm3 k 7 0 → Q 1 zm16)
def wp_Reader_readToken (k : Nat) (M : zMem) (Q : Int32 → zMem → Prop) : Prop :=
  ∃ n : Nat, zlp0 (wpB_Reader_readToken_0 k  (fun (zm2 : zMem) => wpJ_Reader_readToken_38 k Q zm2) Q) n  M
set_option maxHeartbeats 4000000 in
set_option maxRecDepth 20000 in
theorem c_Reader_readToken {l : Launch} {w : zWd} {k : Nat} {M : zMem} {post : Int32 → zMem → Prop} (h0 : zI_Reader w k) (h : wp_Reader_readToken k M post) : zMi l ⟨"HandToHand$Reader", "readToken", "()Z"⟩ prog_7_method_19_code 1 (Option.some .boolean) 5 108 w [.ref (zad w k)] M post := by
  refine zMet (by decide) (Nat.le_of_ble_eq_true rfl) ?_
  intro p e s m below meth c X hr hlk hml hW ls hl
  have hx := X.1
  have hb := X.2.1
  have hl : lv_has ls 1 [(0, .ref (zad w k))] := hl
  have zL_0 : ∀ (K38 : zMem → Prop) (zK38 : ∀ (M : zMem) (H : Heap) (locs : List Loc) (ls : Array Slot), zWo w s.heap M H locs → lv_has ls 1 [(0, .ref (zad w k))] → K38 M → W p l e (zRm 5 108) s m ([.ref (zad w k)] : List Value).toArray below meth c H locs 0 0 (MQ below (va_Qi post (zB w) (zA w)) ([.ref (zad w k)] : List Value).toArray s 0 0 (zA w)) (F0 m 38 ls [])), ∀ (n : Nat) (M : zMem) (H : Heap) (locs : List Loc) (ls : Array Slot), zWo w s.heap M H locs → lv_has ls 1 [(0, .ref (zad w k))] → zlp0 (wpB_Reader_readToken_0 k  K38 post) n M → W p l e (zRm 5 108) s m ([.ref (zad w k)] : List Value).toArray below meth c H locs 0 0 (MQ below (va_Qi post (zB w) (zA w)) ([.ref (zad w k)] : List Value).toArray s 0 0 (zA w)) (F0 m 0 ls []) := by
    intro K38 zK38 n
    induction n with
    | zero => intro M H locs ls hW hl h; exact h.elim
    | succ n zJ =>
      intro M H locs ls hW hl h
      have h : wpB_Reader_readToken_0 k  K38 post (zlp0 (wpB_Reader_readToken_0 k  K38 post) n) M := h
      unfold wpB_Reader_readToken_0 at h
      refine lv_aload_n hx hb dX5_readToken_0 rfl (lv_at hl 0 rfl) ?_
      refine zg_Reader_next X hW h0 zu_116 dX5_readToken_1 ?_
      refine lv_aload_n hx hb dX5_readToken_4 rfl (lv_at hl 0 rfl) ?_
      refine zg_Reader_length X hW h0 zu_115 dX5_readToken_5 ?_
      refine lv_icmp_ge (tgt := 38) hx hb dX5_readToken_8 rfl (fun c => ?_) (fun c => ?_)
      · replace h := h.1 c
        exact zK38 M H locs ls hW (lv_sub hl [0] rfl) h
      · replace h := h.2 c
        refine lv_aload_n hx hb dX5_readToken_11 rfl (lv_at hl 0 rfl) ?_
        refine zg_Reader_tape X hW h0 zu_112 dX5_readToken_12 ?_
        refine lv_aload_n hx hb dX5_readToken_15 rfl (lv_at hl 0 rfl) ?_
        refine zg_Reader_next X hW h0 zu_116 dX5_readToken_16 ?_
        obtain ⟨g, h⟩ := h
        refine zbald X hW h0.2.1 g dX5_readToken_19 ?_
        refine lv_bipush hx hb dX5_readToken_20 zc_b32 ?_
        refine lv_icmp_ne (tgt := 38) hx hb dX5_readToken_22 rfl (fun c => ?_) (fun c => ?_)
        · replace h := h.1 c
          exact zK38 M H locs ls hW (lv_sub hl [0] rfl) h
        · replace h := h.2 c
          refine lv_aload_n hx hb dX5_readToken_25 rfl (lv_at hl 0 rfl) ?_
          refine lv_dup hx hb dX5_readToken_26 rfl ?_
          refine zg_Reader_next X hW h0 zu_116 dX5_readToken_27 ?_
          refine lv_iconst hx hb dX5_readToken_30 zc_i1 ?_
          refine lv_iadd hx hb dX5_readToken_31 ?_
          refine zp_Reader_next X hW h0 zu_116 dX5_readToken_32 (fun H locs zm1 ezm1 hW => ?_)
          replace h := h zm1 ezm1
          refine lv_goto (tgt := 0) hx hb dX5_readToken_35 rfl ?_
          exact zJ zm1 H locs ls hW (lv_sub hl [0] rfl) h
  have zJ_38 : ∀ (M : zMem) (H : Heap) (locs : List Loc) (ls : Array Slot), zWo w s.heap M H locs → lv_has ls 1 [(0, .ref (zad w k))] → wpJ_Reader_readToken_38 k post M → W p l e (zRm 5 108) s m ([.ref (zad w k)] : List Value).toArray below meth c H locs 0 0 (MQ below (va_Qi post (zB w) (zA w)) ([.ref (zad w k)] : List Value).toArray s 0 0 (zA w)) (F0 m 38 ls []) := by
    intro  M H locs ls hW hl h
    unfold wpJ_Reader_readToken_38 at h
    refine lv_aload_n hx hb dX5_readToken_38 rfl (lv_at hl 0 rfl) ?_
    refine lv_aload_n hx hb dX5_readToken_39 rfl (lv_at hl 0 rfl) ?_
    refine zg_Reader_next X hW h0 zu_116 dX5_readToken_40 ?_
    refine zp_Reader_start X hW h0 zu_118 dX5_readToken_43 (fun H locs zm3 ezm3 hW => ?_)
    replace h := h zm3 ezm3
    refine lv_aload_n hx hb dX5_readToken_46 rfl (lv_at hl 0 rfl) ?_
    refine zg_Reader_next X hW h0 zu_116 dX5_readToken_47 ?_
    refine lv_aload_n hx hb dX5_readToken_50 rfl (lv_at hl 0 rfl) ?_
    refine zg_Reader_length X hW h0 zu_115 dX5_readToken_51 ?_
    refine lv_icmp_lt (tgt := 64) hx hb dX5_readToken_54 rfl (fun c => ?_) (fun c => ?_)
    · replace h := h.1 c
      refine lv_aload_n hx hb dX5_readToken_64 rfl (lv_at hl 0 rfl) ?_
      refine zg_Reader_tape X hW h0 zu_112 dX5_readToken_65 ?_
      refine lv_aload_n hx hb dX5_readToken_68 rfl (lv_at hl 0 rfl) ?_
      refine zg_Reader_next X hW h0 zu_116 dX5_readToken_69 ?_
      obtain ⟨g, h⟩ := h
      refine zbald X hW h0.2.1 g dX5_readToken_72 ?_
      refine lv_bipush hx hb dX5_readToken_73 zc_b59 ?_
      refine lv_icmp_ne (tgt := 95) hx hb dX5_readToken_75 rfl (fun c => ?_) (fun c => ?_)
      · replace h := h.1 c
        refine lv_aload_n hx hb dX5_readToken_95 rfl (lv_at hl 0 rfl) ?_
        refine lv_aload_n hx hb dX5_readToken_96 rfl (lv_at hl 0 rfl) ?_
        refine zg_Reader_next X hW h0 zu_116 dX5_readToken_97 ?_
        refine zcalli (zrunV (As := [.int (zm3 k 6)]) (rest := []) X hml hl hW h0.1 rfl zk_Reader_162 (c_Reader_isLetter h0 h) rfl ⟨Nat.le_of_ble_eq_true rfl, Nat.le_of_ble_eq_true rfl⟩ ⟨Nat.le_refl 0, Nat.le_refl 0⟩ rfl (Nat.le_of_ble_eq_true rfl) dX5_readToken_100) hW (fun zr5 zm4 H locs h hW => ?_)
        refine lv_if_eq (tgt := 111) hx hb dX5_readToken_103 rfl (fun c => ?_) (fun c => ?_)
        · replace h := h.1 c
          refine lv_aload_n hx hb dX5_readToken_111 rfl (lv_at hl 0 rfl) ?_
          refine lv_aload_n hx hb dX5_readToken_112 rfl (lv_at hl 0 rfl) ?_
          refine zg_Reader_next X hW h0 zu_116 dX5_readToken_113 ?_
          refine zcalli (zrunV (As := [.int (zm4 k 6)]) (rest := []) X hml hl hW h0.1 rfl zk_Reader_168 (c_Reader_isFigure h0 h) rfl ⟨Nat.le_of_ble_eq_true rfl, Nat.le_of_ble_eq_true rfl⟩ ⟨Nat.le_refl 0, Nat.le_refl 0⟩ rfl (Nat.le_of_ble_eq_true rfl) dX5_readToken_116) hW (fun zr7 zm6 H locs h hW => ?_)
          refine lv_if_eq (tgt := 127) hx hb dX5_readToken_119 rfl (fun c => ?_) (fun c => ?_)
          · replace h := h.1 c
            refine lv_aload_n hx hb dX5_readToken_127 rfl (lv_at hl 0 rfl) ?_
            refine lv_iconst hx hb dX5_readToken_128 zc_i1 ?_
            refine lv_aload_n hx hb dX5_readToken_129 rfl (lv_at hl 0 rfl) ?_
            refine zg_Reader_start X hW h0 zu_118 dX5_readToken_130 ?_
            refine zcalli (zrunV (As := [.int 1, .int (zm6 k 8)]) (rest := []) X hml hl hW h0.1 rfl zk_Reader_73 (c_Reader_refuse h0 h) rfl ⟨Nat.le_of_ble_eq_true rfl, Nat.le_of_ble_eq_true rfl⟩ ⟨Nat.le_refl 0, Nat.le_refl 0⟩ rfl (Nat.le_of_ble_eq_true rfl) dX5_readToken_133) hW (fun zr9 zm8 H locs h hW => ?_)
            exact zretz X hr hlk hW (zbo_n h.1) h.2 dX5_readToken_136
          · replace h := h.2 c
            refine lv_aload_n hx hb dX5_readToken_122 rfl (lv_at hl 0 rfl) ?_
            refine zcalli (zrunV (As := []) (rest := []) X hml hl hW h0.1 rfl zk_Reader_171 (c_Reader_readFigures h0 h) rfl ⟨Nat.le_of_ble_eq_true rfl, Nat.le_of_ble_eq_true rfl⟩ ⟨Nat.le_refl 0, Nat.le_refl 0⟩ rfl (Nat.le_of_ble_eq_true rfl) dX5_readToken_123) hW (fun zr11 zm10 H locs h hW => ?_)
            exact zretz X hr hlk hW (zbo_n h.1) h.2 dX5_readToken_126
        · replace h := h.2 c
          refine lv_aload_n hx hb dX5_readToken_106 rfl (lv_at hl 0 rfl) ?_
          refine zcalli (zrunV (As := []) (rest := []) X hml hl hW h0.1 rfl zk_Reader_165 (c_Reader_readName h0 h) rfl ⟨Nat.le_of_ble_eq_true rfl, Nat.le_of_ble_eq_true rfl⟩ ⟨Nat.le_refl 0, Nat.le_refl 0⟩ rfl (Nat.le_of_ble_eq_true rfl) dX5_readToken_107) hW (fun zr13 zm12 H locs h hW => ?_)
          exact zretz X hr hlk hW (zbo_n h.1) h.2 dX5_readToken_110
      · replace h := h.2 c
        refine lv_aload_n hx hb dX5_readToken_78 rfl (lv_at hl 0 rfl) ?_
        refine lv_iconst hx hb dX5_readToken_79 zc_i3 ?_
        refine zp_Reader_kind X hW h0 zu_117 dX5_readToken_80 (fun H locs zm14 ezm14 hW => ?_)
        replace h := h zm14 ezm14
        refine lv_aload_n hx hb dX5_readToken_83 rfl (lv_at hl 0 rfl) ?_
        refine lv_dup hx hb dX5_readToken_84 rfl ?_
        refine zg_Reader_next X hW h0 zu_116 dX5_readToken_85 ?_
        refine lv_iconst hx hb dX5_readToken_88 zc_i1 ?_
        refine lv_iadd hx hb dX5_readToken_89 ?_
        refine zp_Reader_next X hW h0 zu_116 dX5_readToken_90 (fun H locs zm15 ezm15 hW => ?_)
        replace h := h zm15 ezm15
        refine lv_iconst hx hb dX5_readToken_93 zc_i1 ?_
        exact zretz X hr hlk hW rfl h dX5_readToken_94
    · replace h := h.2 c
      refine lv_aload_n hx hb dX5_readToken_57 rfl (lv_at hl 0 rfl) ?_
      refine lv_iconst hx hb dX5_readToken_58 zc_i0 ?_
      refine zp_Reader_kind X hW h0 zu_117 dX5_readToken_59 (fun H locs zm16 ezm16 hW => ?_)
      replace h := h zm16 ezm16
      refine lv_iconst hx hb dX5_readToken_62 zc_i1 ?_
      exact zretz X hr hlk hW rfl h dX5_readToken_63
  unfold wp_Reader_readToken at h
  have zMain : ∀ (H : Heap) (locs : List Loc) (ls : Array Slot), zWo w s.heap M H locs → lv_has ls 1 [(0, .ref (zad w k))] → W p l e (zRm 5 108) s m ([.ref (zad w k)] : List Value).toArray below meth c H locs 0 0 (MQ below (va_Qi post (zB w) (zA w)) ([.ref (zad w k)] : List Value).toArray s 0 0 (zA w)) (F0 m 0 ls []) := by
    intro H locs ls hW hl
    obtain ⟨n, h⟩ := h
    refine zL_0  _ (fun  zm2 H locs ls hW hl h => ?_) n  M H locs ls hW (lv_sub hl [0] rfl) h
    · skip
      exact zJ_38  zm2 H locs ls hW (lv_sub hl [0] rfl) h
  exact zMain s.heap [] ls hW hl
def wp_Reader_isWithin (k : Nat) (a1 : Int32) (a2 : Int32) (M : zMem) (Q : Int32 → zMem → Prop) : Prop :=
  ((M k 9) < a1 → wp_Reader_refuse k 3 (M k 8) M (fun zr2 zm1 => zbo zr2 ∧ Q zr2 zm1)) ∧ (¬ (M k 9) < a1 → ((M k 9) ≤ a2 → Q 1 M) ∧ (¬ (M k 9) ≤ a2 → wp_Reader_refuse k 3 (M k 8) M (fun zr4 zm3 => zbo zr4 ∧ Q zr4 zm3)))
set_option maxHeartbeats 4000000 in
set_option maxRecDepth 20000 in
theorem c_Reader_isWithin {l : Launch} {w : zWd} {k : Nat} {a1 : Int32} {a2 : Int32} {M : zMem} {post : Int32 → zMem → Prop} (h0 : zI_Reader w k) (h : wp_Reader_isWithin k a1 a2 M post) : zMi l ⟨"HandToHand$Reader", "isWithin", "(II)Z"⟩ prog_7_method_16_code 3 (Option.some .boolean) 1 22 w [.ref (zad w k), .int a1, .int a2] M post := by
  refine zMet (by decide) (Nat.le_of_ble_eq_true rfl) ?_
  intro p e s m below meth c X hr hlk hml hW ls hl
  have hx := X.1
  have hb := X.2.1
  have hl : lv_has ls 3 [(0, .ref (zad w k)), (1, .int a1), (2, .int a2)] := hl
  unfold wp_Reader_isWithin at h
  have zMain : ∀ (H : Heap) (locs : List Loc) (ls : Array Slot), zWo w s.heap M H locs → lv_has ls 3 [(0, .ref (zad w k)), (1, .int a1), (2, .int a2)] → W p l e (zRm 1 22) s m ([.ref (zad w k), .int a1, .int a2] : List Value).toArray below meth c H locs 0 0 (MQ below (va_Qi post (zB w) (zA w)) ([.ref (zad w k), .int a1, .int a2] : List Value).toArray s 0 0 (zA w)) (F0 m 0 ls []) := by
    intro H locs ls hW hl
    refine lv_aload_n hx hb dX5_isWithin_0 rfl (lv_at hl 0 rfl) ?_
    refine zg_Reader_value X hW h0 zu_119 dX5_isWithin_1 ?_
    refine lv_iload_n hx hb dX5_isWithin_4 rfl (lv_at hl 1 rfl) ?_
    refine lv_icmp_lt (tgt := 16) hx hb dX5_isWithin_5 rfl (fun c => ?_) (fun c => ?_)
    · replace h := h.1 c
      refine lv_aload_n hx hb dX5_isWithin_16 rfl (lv_at hl 0 rfl) ?_
      refine lv_iconst hx hb dX5_isWithin_17 zc_i3 ?_
      refine lv_aload_n hx hb dX5_isWithin_18 rfl (lv_at hl 0 rfl) ?_
      refine zg_Reader_start X hW h0 zu_118 dX5_isWithin_19 ?_
      refine zcalli (zrunV (As := [.int 3, .int (M k 8)]) (rest := []) X hml hl hW h0.1 rfl zk_Reader_73 (c_Reader_refuse h0 h) rfl ⟨Nat.le_of_ble_eq_true rfl, Nat.le_of_ble_eq_true rfl⟩ ⟨Nat.le_refl 0, Nat.le_refl 0⟩ rfl (Nat.le_of_ble_eq_true rfl) dX5_isWithin_22) hW (fun zr2 zm1 H locs h hW => ?_)
      exact zretz X hr hlk hW (zbo_n h.1) h.2 dX5_isWithin_25
    · replace h := h.2 c
      refine lv_aload_n hx hb dX5_isWithin_8 rfl (lv_at hl 0 rfl) ?_
      refine zg_Reader_value X hW h0 zu_119 dX5_isWithin_9 ?_
      refine lv_iload_n hx hb dX5_isWithin_12 rfl (lv_at hl 2 rfl) ?_
      refine lv_icmp_le (tgt := 26) hx hb dX5_isWithin_13 rfl (fun c => ?_) (fun c => ?_)
      · replace h := h.1 c
        refine lv_iconst hx hb dX5_isWithin_26 zc_i1 ?_
        exact zretz X hr hlk hW rfl h dX5_isWithin_27
      · replace h := h.2 c
        refine lv_aload_n hx hb dX5_isWithin_16 rfl (lv_at hl 0 rfl) ?_
        refine lv_iconst hx hb dX5_isWithin_17 zc_i3 ?_
        refine lv_aload_n hx hb dX5_isWithin_18 rfl (lv_at hl 0 rfl) ?_
        refine zg_Reader_start X hW h0 zu_118 dX5_isWithin_19 ?_
        refine zcalli (zrunV (As := [.int 3, .int (M k 8)]) (rest := []) X hml hl hW h0.1 rfl zk_Reader_73 (c_Reader_refuse h0 h) rfl ⟨Nat.le_of_ble_eq_true rfl, Nat.le_of_ble_eq_true rfl⟩ ⟨Nat.le_refl 0, Nat.le_refl 0⟩ rfl (Nat.le_of_ble_eq_true rfl) dX5_isWithin_22) hW (fun zr4 zm3 H locs h hW => ?_)
        exact zretz X hr hlk hW (zbo_n h.1) h.2 dX5_isWithin_25
  exact zMain s.heap [] ls hW hl
def wp_Reader_readNumber (k : Nat) (a1 : Int32) (a2 : Int32) (M : zMem) (Q : Int32 → zMem → Prop) : Prop :=
  wp_Reader_readToken k M (fun zr2 zm1 => (¬ zr2 = 0 → ((zm1 k 7) = 2 → wp_Reader_isWithin k a1 a2 zm1 (fun zr4 zm3 => zbo zr4 ∧ Q zr4 zm3)) ∧ (¬ (zm1 k 7) = 2 → wp_Reader_refuse k 2 (zm1 k 8) zm1 (fun zr6 zm5 => zbo zr6 ∧ Q zr6 zm5))) ∧ (zr2 = 0 → Q 0 zm1))
set_option maxHeartbeats 4000000 in
set_option maxRecDepth 20000 in
theorem c_Reader_readNumber {l : Launch} {w : zWd} {k : Nat} {a1 : Int32} {a2 : Int32} {M : zMem} {post : Int32 → zMem → Prop} (h0 : zI_Reader w k) (h : wp_Reader_readNumber k a1 a2 M post) : zMi l ⟨"HandToHand$Reader", "readNumber", "(II)Z"⟩ prog_7_method_15_code 3 (Option.some .boolean) 6 128 w [.ref (zad w k), .int a1, .int a2] M post := by
  refine zMet (by decide) (Nat.le_of_ble_eq_true rfl) ?_
  intro p e s m below meth c X hr hlk hml hW ls hl
  have hx := X.1
  have hb := X.2.1
  have hl : lv_has ls 3 [(0, .ref (zad w k)), (1, .int a1), (2, .int a2)] := hl
  unfold wp_Reader_readNumber at h
  have zMain : ∀ (H : Heap) (locs : List Loc) (ls : Array Slot), zWo w s.heap M H locs → lv_has ls 3 [(0, .ref (zad w k)), (1, .int a1), (2, .int a2)] → W p l e (zRm 6 128) s m ([.ref (zad w k), .int a1, .int a2] : List Value).toArray below meth c H locs 0 0 (MQ below (va_Qi post (zB w) (zA w)) ([.ref (zad w k), .int a1, .int a2] : List Value).toArray s 0 0 (zA w)) (F0 m 0 ls []) := by
    intro H locs ls hW hl
    refine lv_aload_n hx hb dX5_readNumber_0 rfl (lv_at hl 0 rfl) ?_
    refine zcalli (zrunV (As := []) (rest := []) X hml hl hW h0.1 rfl zk_Reader_51 (c_Reader_readToken h0 h) rfl ⟨Nat.le_of_ble_eq_true rfl, Nat.le_of_ble_eq_true rfl⟩ ⟨Nat.le_refl 0, Nat.le_refl 0⟩ rfl (Nat.le_of_ble_eq_true rfl) dX5_readNumber_1) hW (fun zr2 zm1 H locs h hW => ?_)
    refine lv_if_ne (tgt := 9) hx hb dX5_readNumber_4 rfl (fun c => ?_) (fun c => ?_)
    · replace h := h.1 c
      refine lv_aload_n hx hb dX5_readNumber_9 rfl (lv_at hl 0 rfl) ?_
      refine zg_Reader_kind X hW h0 zu_117 dX5_readNumber_10 ?_
      refine lv_iconst hx hb dX5_readNumber_13 zc_i2 ?_
      refine lv_icmp_eq (tgt := 27) hx hb dX5_readNumber_14 rfl (fun c => ?_) (fun c => ?_)
      · replace h := h.1 c
        refine lv_aload_n hx hb dX5_readNumber_27 rfl (lv_at hl 0 rfl) ?_
        refine lv_iload_n hx hb dX5_readNumber_28 rfl (lv_at hl 1 rfl) ?_
        refine lv_iload_n hx hb dX5_readNumber_29 rfl (lv_at hl 2 rfl) ?_
        refine zcalli (zrunV (As := [.int a1, .int a2]) (rest := []) X hml hl hW h0.1 rfl zk_Reader_140 (c_Reader_isWithin h0 h) rfl ⟨Nat.le_of_ble_eq_true rfl, Nat.le_of_ble_eq_true rfl⟩ ⟨Nat.le_refl 0, Nat.le_refl 0⟩ rfl (Nat.le_of_ble_eq_true rfl) dX5_readNumber_30) hW (fun zr4 zm3 H locs h hW => ?_)
        exact zretz X hr hlk hW (zbo_n h.1) h.2 dX5_readNumber_33
      · replace h := h.2 c
        refine lv_aload_n hx hb dX5_readNumber_17 rfl (lv_at hl 0 rfl) ?_
        refine lv_iconst hx hb dX5_readNumber_18 zc_i2 ?_
        refine lv_aload_n hx hb dX5_readNumber_19 rfl (lv_at hl 0 rfl) ?_
        refine zg_Reader_start X hW h0 zu_118 dX5_readNumber_20 ?_
        refine zcalli (zrunV (As := [.int 2, .int (zm1 k 8)]) (rest := []) X hml hl hW h0.1 rfl zk_Reader_73 (c_Reader_refuse h0 h) rfl ⟨Nat.le_of_ble_eq_true rfl, Nat.le_of_ble_eq_true rfl⟩ ⟨Nat.le_refl 0, Nat.le_refl 0⟩ rfl (Nat.le_of_ble_eq_true rfl) dX5_readNumber_23) hW (fun zr6 zm5 H locs h hW => ?_)
        exact zretz X hr hlk hW (zbo_n h.1) h.2 dX5_readNumber_26
    · replace h := h.2 c
      refine lv_iconst hx hb dX5_readNumber_7 zc_i0 ?_
      exact zretz X hr hlk hW rfl h dX5_readNumber_8
  exact zMain s.heap [] ls hW hl
def wp_Reader_isSign (k : Nat) (M : zMem) (Q : Int32 → zMem → Prop) : Prop :=
  ((M k 7) = 3 → Q 1 M) ∧ (¬ (M k 7) = 3 → wp_Reader_refuse k 2 (M k 8) M (fun zr2 zm1 => (zr2 = 0 → Q 0 zm1) ∧ (¬ zr2 = 0 → Q 1 zm1)))
set_option maxHeartbeats 4000000 in
set_option maxRecDepth 20000 in
theorem c_Reader_isSign {l : Launch} {w : zWd} {k : Nat} {M : zMem} {post : Int32 → zMem → Prop} (h0 : zI_Reader w k) (h : wp_Reader_isSign k M post) : zMi l ⟨"HandToHand$Reader", "isSign", "()Z"⟩ prog_7_method_18_code 1 (Option.some .boolean) 1 22 w [.ref (zad w k)] M post := by
  refine zMet (by decide) (Nat.le_of_ble_eq_true rfl) ?_
  intro p e s m below meth c X hr hlk hml hW ls hl
  have hx := X.1
  have hb := X.2.1
  have hl : lv_has ls 1 [(0, .ref (zad w k))] := hl
  unfold wp_Reader_isSign at h
  have zMain : ∀ (H : Heap) (locs : List Loc) (ls : Array Slot), zWo w s.heap M H locs → lv_has ls 1 [(0, .ref (zad w k))] → W p l e (zRm 1 22) s m ([.ref (zad w k)] : List Value).toArray below meth c H locs 0 0 (MQ below (va_Qi post (zB w) (zA w)) ([.ref (zad w k)] : List Value).toArray s 0 0 (zA w)) (F0 m 0 ls []) := by
    intro H locs ls hW hl
    refine lv_aload_n hx hb dX5_isSign_0 rfl (lv_at hl 0 rfl) ?_
    refine zg_Reader_kind X hW h0 zu_117 dX5_isSign_1 ?_
    refine lv_iconst hx hb dX5_isSign_4 zc_i3 ?_
    refine lv_icmp_eq (tgt := 20) hx hb dX5_isSign_5 rfl (fun c => ?_) (fun c => ?_)
    · replace h := h.1 c
      refine lv_iconst hx hb dX5_isSign_20 zc_i1 ?_
      refine lv_goto (tgt := 25) hx hb dX5_isSign_21 rfl ?_
      exact zretz X hr hlk hW rfl h dX5_isSign_25
    · replace h := h.2 c
      refine lv_aload_n hx hb dX5_isSign_8 rfl (lv_at hl 0 rfl) ?_
      refine lv_iconst hx hb dX5_isSign_9 zc_i2 ?_
      refine lv_aload_n hx hb dX5_isSign_10 rfl (lv_at hl 0 rfl) ?_
      refine zg_Reader_start X hW h0 zu_118 dX5_isSign_11 ?_
      refine zcalli (zrunV (As := [.int 2, .int (M k 8)]) (rest := []) X hml hl hW h0.1 rfl zk_Reader_73 (c_Reader_refuse h0 h) rfl ⟨Nat.le_of_ble_eq_true rfl, Nat.le_of_ble_eq_true rfl⟩ ⟨Nat.le_refl 0, Nat.le_refl 0⟩ rfl (Nat.le_of_ble_eq_true rfl) dX5_isSign_14) hW (fun zr2 zm1 H locs h hW => ?_)
      refine lv_if_eq (tgt := 24) hx hb dX5_isSign_17 rfl (fun c => ?_) (fun c => ?_)
      · replace h := h.1 c
        refine lv_iconst hx hb dX5_isSign_24 zc_i0 ?_
        exact zretz X hr hlk hW rfl h dX5_isSign_25
      · replace h := h.2 c
        refine lv_iconst hx hb dX5_isSign_20 zc_i1 ?_
        refine lv_goto (tgt := 25) hx hb dX5_isSign_21 rfl ?_
        exact zretz X hr hlk hW rfl h dX5_isSign_25
  exact zMain s.heap [] ls hW hl
def wp_Reader_readSign (k : Nat) (M : zMem) (Q : Int32 → zMem → Prop) : Prop :=
  wp_Reader_readToken k M (fun zr2 zm1 => (zr2 = 0 → Q 0 zm1) ∧ (¬ zr2 = 0 → wp_Reader_isSign k zm1 (fun zr4 zm3 => (zr4 = 0 → Q 0 zm3) ∧ (¬ zr4 = 0 → Q 1 zm3))))
set_option maxHeartbeats 4000000 in
set_option maxRecDepth 20000 in
theorem c_Reader_readSign {l : Launch} {w : zWd} {k : Nat} {M : zMem} {post : Int32 → zMem → Prop} (h0 : zI_Reader w k) (h : wp_Reader_readSign k M post) : zMi l ⟨"HandToHand$Reader", "readSign", "()Z"⟩ prog_7_method_17_code 1 (Option.some .boolean) 6 128 w [.ref (zad w k)] M post := by
  refine zMet (by decide) (Nat.le_of_ble_eq_true rfl) ?_
  intro p e s m below meth c X hr hlk hml hW ls hl
  have hx := X.1
  have hb := X.2.1
  have hl : lv_has ls 1 [(0, .ref (zad w k))] := hl
  unfold wp_Reader_readSign at h
  have zMain : ∀ (H : Heap) (locs : List Loc) (ls : Array Slot), zWo w s.heap M H locs → lv_has ls 1 [(0, .ref (zad w k))] → W p l e (zRm 6 128) s m ([.ref (zad w k)] : List Value).toArray below meth c H locs 0 0 (MQ below (va_Qi post (zB w) (zA w)) ([.ref (zad w k)] : List Value).toArray s 0 0 (zA w)) (F0 m 0 ls []) := by
    intro H locs ls hW hl
    refine lv_aload_n hx hb dX5_readSign_0 rfl (lv_at hl 0 rfl) ?_
    refine zcalli (zrunV (As := []) (rest := []) X hml hl hW h0.1 rfl zk_Reader_51 (c_Reader_readToken h0 h) rfl ⟨Nat.le_of_ble_eq_true rfl, Nat.le_of_ble_eq_true rfl⟩ ⟨Nat.le_refl 0, Nat.le_refl 0⟩ rfl (Nat.le_of_ble_eq_true rfl) dX5_readSign_1) hW (fun zr2 zm1 H locs h hW => ?_)
    refine lv_if_eq (tgt := 18) hx hb dX5_readSign_4 rfl (fun c => ?_) (fun c => ?_)
    · replace h := h.1 c
      refine lv_iconst hx hb dX5_readSign_18 zc_i0 ?_
      exact zretz X hr hlk hW rfl h dX5_readSign_19
    · replace h := h.2 c
      refine lv_aload_n hx hb dX5_readSign_7 rfl (lv_at hl 0 rfl) ?_
      refine zcalli (zrunV (As := []) (rest := []) X hml hl hW h0.1 rfl zk_Reader_146 (c_Reader_isSign h0 h) rfl ⟨Nat.le_of_ble_eq_true rfl, Nat.le_of_ble_eq_true rfl⟩ ⟨Nat.le_refl 0, Nat.le_refl 0⟩ rfl (Nat.le_of_ble_eq_true rfl) dX5_readSign_8) hW (fun zr4 zm3 H locs h hW => ?_)
      refine lv_if_eq (tgt := 18) hx hb dX5_readSign_11 rfl (fun c => ?_) (fun c => ?_)
      · replace h := h.1 c
        refine lv_iconst hx hb dX5_readSign_18 zc_i0 ?_
        exact zretz X hr hlk hW rfl h dX5_readSign_19
      · replace h := h.2 c
        refine lv_iconst hx hb dX5_readSign_14 zc_i1 ?_
        refine lv_goto (tgt := 19) hx hb dX5_readSign_15 rfl ?_
        exact zretz X hr hlk hW rfl h dX5_readSign_19
  exact zMain s.heap [] ls hW hl
def wp_Reader_readPiece (k : Nat) (M : zMem) (Q : Int32 → zMem → Prop) : Prop :=
  (¬ (M k 12) = 0 → wp_Reader_refuse k 5 (M k 8) M (fun zr2 zm1 => zbo zr2 ∧ Q zr2 zm1)) ∧ ((M k 12) = 0 → ((M (k + 1) 0) < 8 → wp_Reader_readNumber k 0 6 M (fun zr4 zm3 => (¬ zr4 = 0 → vp_in (zm3 (k + 1) 0) 24 ∧ ∀ zm5 : zMem, zm5 = zup zm3 (k + 3) (ix (zm3 (k + 1) 0)) (zm3 k 9) → ∀ zm6 : zMem, zm6 = zup zm5 (k + 1) 0 ((zm5 (k + 1) 0) + 1) → wp_Reader_readSign k zm6 (fun zr8 zm7 => zbo zr8 ∧ Q zr8 zm7)) ∧ (zr4 = 0 → Q 0 zm3))) ∧ (¬ (M (k + 1) 0) < 8 → wp_Reader_refuse k 5 (M k 8) M (fun zr10 zm9 => zbo zr10 ∧ Q zr10 zm9)))
set_option maxHeartbeats 4000000 in
set_option maxRecDepth 20000 in
theorem c_Reader_readPiece {l : Launch} {w : zWd} {k : Nat} {M : zMem} {post : Int32 → zMem → Prop} (h0 : zI_Reader w k) (h : wp_Reader_readPiece k M post) : zMi l ⟨"HandToHand$Reader", "readPiece", "()Z"⟩ prog_7_method_7_code 1 (Option.some .boolean) 7 150 w [.ref (zad w k)] M post := by
  refine zMet (by decide) (Nat.le_of_ble_eq_true rfl) ?_
  intro p e s m below meth c X hr hlk hml hW ls hl
  have hx := X.1
  have hb := X.2.1
  have hl : lv_has ls 1 [(0, .ref (zad w k))] := hl
  unfold wp_Reader_readPiece at h
  have zMain : ∀ (H : Heap) (locs : List Loc) (ls : Array Slot), zWo w s.heap M H locs → lv_has ls 1 [(0, .ref (zad w k))] → W p l e (zRm 7 150) s m ([.ref (zad w k)] : List Value).toArray below meth c H locs 0 0 (MQ below (va_Qi post (zB w) (zA w)) ([.ref (zad w k)] : List Value).toArray s 0 0 (zA w)) (F0 m 0 ls []) := by
    intro H locs ls hW hl
    refine lv_aload_n hx hb dX5_readPiece_0 rfl (lv_at hl 0 rfl) ?_
    refine zg_Reader_piecesClosed X hW h0 zu_122 dX5_readPiece_1 ?_
    refine lv_if_ne (tgt := 19) hx hb dX5_readPiece_4 rfl (fun c => ?_) (fun c => ?_)
    · replace h := h.1 c
      refine lv_aload_n hx hb dX5_readPiece_19 rfl (lv_at hl 0 rfl) ?_
      refine lv_iconst hx hb dX5_readPiece_20 zc_i5 ?_
      refine lv_aload_n hx hb dX5_readPiece_21 rfl (lv_at hl 0 rfl) ?_
      refine zg_Reader_start X hW h0 zu_118 dX5_readPiece_22 ?_
      refine zcalli (zrunV (As := [.int 5, .int (M k 8)]) (rest := []) X hml hl hW h0.1 rfl zk_Reader_73 (c_Reader_refuse h0 h) rfl ⟨Nat.le_of_ble_eq_true rfl, Nat.le_of_ble_eq_true rfl⟩ ⟨Nat.le_refl 0, Nat.le_refl 0⟩ rfl (Nat.le_of_ble_eq_true rfl) dX5_readPiece_25) hW (fun zr2 zm1 H locs h hW => ?_)
      exact zretz X hr hlk hW (zbo_n h.1) h.2 dX5_readPiece_28
    · replace h := h.2 c
      refine lv_aload_n hx hb dX5_readPiece_7 rfl (lv_at hl 0 rfl) ?_
      refine zg_Reader_draft X hW h0 zu_104 dX5_readPiece_8 ?_
      refine zg_Told_pieces X hW h0.2.2 zu_34 dX5_readPiece_11 ?_
      refine lv_bipush hx hb dX5_readPiece_14 zc_b8 ?_
      refine lv_icmp_lt (tgt := 29) hx hb dX5_readPiece_16 rfl (fun c => ?_) (fun c => ?_)
      · replace h := h.1 c
        refine lv_aload_n hx hb dX5_readPiece_29 rfl (lv_at hl 0 rfl) ?_
        refine lv_iconst hx hb dX5_readPiece_30 zc_i0 ?_
        refine lv_bipush hx hb dX5_readPiece_31 zc_b6 ?_
        refine zcalli (zrunV (As := [.int 0, .int 6]) (rest := []) X hml hl hW h0.1 rfl zk_Reader_131 (c_Reader_readNumber h0 h) rfl ⟨Nat.le_of_ble_eq_true rfl, Nat.le_of_ble_eq_true rfl⟩ ⟨Nat.le_refl 0, Nat.le_refl 0⟩ rfl (Nat.le_of_ble_eq_true rfl) dX5_readPiece_33) hW (fun zr4 zm3 H locs h hW => ?_)
        refine lv_if_ne (tgt := 41) hx hb dX5_readPiece_36 rfl (fun c => ?_) (fun c => ?_)
        · replace h := h.1 c
          refine lv_aload_n hx hb dX5_readPiece_41 rfl (lv_at hl 0 rfl) ?_
          refine zg_Reader_draft X hW h0 zu_104 dX5_readPiece_42 ?_
          refine zg_Told_units X hW h0.2.2 zu_64 dX5_readPiece_45 ?_
          refine lv_aload_n hx hb dX5_readPiece_48 rfl (lv_at hl 0 rfl) ?_
          refine zg_Reader_draft X hW h0 zu_104 dX5_readPiece_49 ?_
          refine zg_Told_pieces X hW h0.2.2 zu_34 dX5_readPiece_52 ?_
          refine lv_aload_n hx hb dX5_readPiece_55 rfl (lv_at hl 0 rfl) ?_
          refine zg_Reader_value X hW h0 zu_119 dX5_readPiece_56 ?_
          obtain ⟨g, h⟩ := h
          refine ziast X hW h0.2.2.2.2.1 g dX5_readPiece_59 (fun H locs zm5 ezm5 hW => ?_)
          replace h := h zm5 ezm5
          refine lv_aload_n hx hb dX5_readPiece_60 rfl (lv_at hl 0 rfl) ?_
          refine zg_Reader_draft X hW h0 zu_104 dX5_readPiece_61 ?_
          refine lv_dup hx hb dX5_readPiece_64 rfl ?_
          refine zg_Told_pieces X hW h0.2.2 zu_34 dX5_readPiece_65 ?_
          refine lv_iconst hx hb dX5_readPiece_68 zc_i1 ?_
          refine lv_iadd hx hb dX5_readPiece_69 ?_
          refine zp_Told_pieces X hW h0.2.2 zu_34 dX5_readPiece_70 (fun H locs zm6 ezm6 hW => ?_)
          replace h := h zm6 ezm6
          refine lv_aload_n hx hb dX5_readPiece_73 rfl (lv_at hl 0 rfl) ?_
          refine zcalli (zrunV (As := []) (rest := []) X hml hl hW h0.1 rfl zk_Reader_125 (c_Reader_readSign h0 h) rfl ⟨Nat.le_of_ble_eq_true rfl, Nat.le_of_ble_eq_true rfl⟩ ⟨Nat.le_refl 0, Nat.le_refl 0⟩ rfl (Nat.le_of_ble_eq_true rfl) dX5_readPiece_74) hW (fun zr8 zm7 H locs h hW => ?_)
          exact zretz X hr hlk hW (zbo_n h.1) h.2 dX5_readPiece_77
        · replace h := h.2 c
          refine lv_iconst hx hb dX5_readPiece_39 zc_i0 ?_
          exact zretz X hr hlk hW rfl h dX5_readPiece_40
      · replace h := h.2 c
        refine lv_aload_n hx hb dX5_readPiece_19 rfl (lv_at hl 0 rfl) ?_
        refine lv_iconst hx hb dX5_readPiece_20 zc_i5 ?_
        refine lv_aload_n hx hb dX5_readPiece_21 rfl (lv_at hl 0 rfl) ?_
        refine zg_Reader_start X hW h0 zu_118 dX5_readPiece_22 ?_
        refine zcalli (zrunV (As := [.int 5, .int (M k 8)]) (rest := []) X hml hl hW h0.1 rfl zk_Reader_73 (c_Reader_refuse h0 h) rfl ⟨Nat.le_of_ble_eq_true rfl, Nat.le_of_ble_eq_true rfl⟩ ⟨Nat.le_refl 0, Nat.le_refl 0⟩ rfl (Nat.le_of_ble_eq_true rfl) dX5_readPiece_25) hW (fun zr10 zm9 H locs h hW => ?_)
        exact zretz X hr hlk hW (zbo_n h.1) h.2 dX5_readPiece_28
  exact zMain s.heap [] ls hW hl
def wp_Reader_readWhole (k : Nat) (M : zMem) (Q : Int32 → zMem → Prop) : Prop :=
  wp_Reader_readNumber k 0 ((M (k + 1) 0) - 1) M (fun zr2 zm1 => (¬ zr2 = 0 → (¬ (((zm1 (k + 1) 5) >>> ((zm1 k 9) &&& 31)) &&& 1) = 1 → ∀ zm3 : zMem, zm3 = zup zm1 (k + 1) 5 ((zm1 (k + 1) 5) ||| (1 <<< ((zm1 k 9) &&& 31))) → wp_Reader_readSign k zm3 (fun zr5 zm4 => zbo zr5 ∧ Q zr5 zm4)) ∧ ((((zm1 (k + 1) 5) >>> ((zm1 k 9) &&& 31)) &&& 1) = 1 → wp_Reader_refuse k 4 (zm1 k 8) zm1 (fun zr7 zm6 => zbo zr7 ∧ Q zr7 zm6))) ∧ (zr2 = 0 → Q 0 zm1))
set_option maxHeartbeats 4000000 in
set_option maxRecDepth 20000 in
theorem c_Reader_readWhole {l : Launch} {w : zWd} {k : Nat} {M : zMem} {post : Int32 → zMem → Prop} (h0 : zI_Reader w k) (h : wp_Reader_readWhole k M post) : zMi l ⟨"HandToHand$Reader", "readWhole", "()Z"⟩ prog_7_method_8_code 1 (Option.some .boolean) 7 150 w [.ref (zad w k)] M post := by
  refine zMet (by decide) (Nat.le_of_ble_eq_true rfl) ?_
  intro p e s m below meth c X hr hlk hml hW ls hl
  have hx := X.1
  have hb := X.2.1
  have hl : lv_has ls 1 [(0, .ref (zad w k))] := hl
  unfold wp_Reader_readWhole at h
  have zMain : ∀ (H : Heap) (locs : List Loc) (ls : Array Slot), zWo w s.heap M H locs → lv_has ls 1 [(0, .ref (zad w k))] → W p l e (zRm 7 150) s m ([.ref (zad w k)] : List Value).toArray below meth c H locs 0 0 (MQ below (va_Qi post (zB w) (zA w)) ([.ref (zad w k)] : List Value).toArray s 0 0 (zA w)) (F0 m 0 ls []) := by
    intro H locs ls hW hl
    refine lv_aload_n hx hb dX5_readWhole_0 rfl (lv_at hl 0 rfl) ?_
    refine lv_iconst hx hb dX5_readWhole_1 zc_i0 ?_
    refine lv_aload_n hx hb dX5_readWhole_2 rfl (lv_at hl 0 rfl) ?_
    refine zg_Reader_draft X hW h0 zu_104 dX5_readWhole_3 ?_
    refine zg_Told_pieces X hW h0.2.2 zu_34 dX5_readWhole_6 ?_
    refine lv_iconst hx hb dX5_readWhole_9 zc_i1 ?_
    refine lv_isub hx hb dX5_readWhole_10 ?_
    refine zcalli (zrunV (As := [.int 0, .int ((M (k + 1) 0) - 1)]) (rest := []) X hml hl hW h0.1 rfl zk_Reader_131 (c_Reader_readNumber h0 h) rfl ⟨Nat.le_of_ble_eq_true rfl, Nat.le_of_ble_eq_true rfl⟩ ⟨Nat.le_refl 0, Nat.le_refl 0⟩ rfl (Nat.le_of_ble_eq_true rfl) dX5_readWhole_11) hW (fun zr2 zm1 H locs h hW => ?_)
    refine lv_if_ne (tgt := 19) hx hb dX5_readWhole_14 rfl (fun c => ?_) (fun c => ?_)
    · replace h := h.1 c
      refine lv_aload_n hx hb dX5_readWhole_19 rfl (lv_at hl 0 rfl) ?_
      refine zg_Reader_draft X hW h0 zu_104 dX5_readWhole_20 ?_
      refine zg_Told_whole X hW h0.2.2 zu_54 dX5_readWhole_23 ?_
      refine lv_aload_n hx hb dX5_readWhole_26 rfl (lv_at hl 0 rfl) ?_
      refine zg_Reader_value X hW h0 zu_119 dX5_readWhole_27 ?_
      refine lv_ishr hx hb dX5_readWhole_30 ?_
      refine lv_iconst hx hb dX5_readWhole_31 zc_i1 ?_
      refine lv_iand hx hb dX5_readWhole_32 ?_
      refine lv_iconst hx hb dX5_readWhole_33 zc_i1 ?_
      refine lv_icmp_ne (tgt := 47) hx hb dX5_readWhole_34 rfl (fun c => ?_) (fun c => ?_)
      · replace h := h.1 c
        refine lv_aload_n hx hb dX5_readWhole_47 rfl (lv_at hl 0 rfl) ?_
        refine zg_Reader_draft X hW h0 zu_104 dX5_readWhole_48 ?_
        refine lv_dup hx hb dX5_readWhole_51 rfl ?_
        refine zg_Told_whole X hW h0.2.2 zu_54 dX5_readWhole_52 ?_
        refine lv_iconst hx hb dX5_readWhole_55 zc_i1 ?_
        refine lv_aload_n hx hb dX5_readWhole_56 rfl (lv_at hl 0 rfl) ?_
        refine zg_Reader_value X hW h0 zu_119 dX5_readWhole_57 ?_
        refine lv_ishl hx hb dX5_readWhole_60 ?_
        refine lv_ior hx hb dX5_readWhole_61 ?_
        refine zp_Told_whole X hW h0.2.2 zu_54 dX5_readWhole_62 (fun H locs zm3 ezm3 hW => ?_)
        replace h := h zm3 ezm3
        refine lv_aload_n hx hb dX5_readWhole_65 rfl (lv_at hl 0 rfl) ?_
        refine zcalli (zrunV (As := []) (rest := []) X hml hl hW h0.1 rfl zk_Reader_125 (c_Reader_readSign h0 h) rfl ⟨Nat.le_of_ble_eq_true rfl, Nat.le_of_ble_eq_true rfl⟩ ⟨Nat.le_refl 0, Nat.le_refl 0⟩ rfl (Nat.le_of_ble_eq_true rfl) dX5_readWhole_66) hW (fun zr5 zm4 H locs h hW => ?_)
        exact zretz X hr hlk hW (zbo_n h.1) h.2 dX5_readWhole_69
      · replace h := h.2 c
        refine lv_aload_n hx hb dX5_readWhole_37 rfl (lv_at hl 0 rfl) ?_
        refine lv_iconst hx hb dX5_readWhole_38 zc_i4 ?_
        refine lv_aload_n hx hb dX5_readWhole_39 rfl (lv_at hl 0 rfl) ?_
        refine zg_Reader_start X hW h0 zu_118 dX5_readWhole_40 ?_
        refine zcalli (zrunV (As := [.int 4, .int (zm1 k 8)]) (rest := []) X hml hl hW h0.1 rfl zk_Reader_73 (c_Reader_refuse h0 h) rfl ⟨Nat.le_of_ble_eq_true rfl, Nat.le_of_ble_eq_true rfl⟩ ⟨Nat.le_refl 0, Nat.le_refl 0⟩ rfl (Nat.le_of_ble_eq_true rfl) dX5_readWhole_43) hW (fun zr7 zm6 H locs h hW => ?_)
        exact zretz X hr hlk hW (zbo_n h.1) h.2 dX5_readWhole_46
    · replace h := h.2 c
      refine lv_iconst hx hb dX5_readWhole_17 zc_i0 ?_
      exact zretz X hr hlk hW rfl h dX5_readWhole_18
  exact zMain s.heap [] ls hW hl
