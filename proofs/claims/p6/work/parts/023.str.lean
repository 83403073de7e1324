theorem dS_coder_0 : decode prog_14_method_152_code 0 = .ok (.getstatic 38, 3) := by decide +kernel
theorem dS_coder_3 : decode prog_14_method_152_code 3 = .ok (.ifCond .eq 10, 3) := by decide +kernel
theorem dS_coder_6 : decode prog_14_method_152_code 6 = .ok (.aload_n 0, 1) := by decide +kernel
theorem dS_coder_7 : decode prog_14_method_152_code 7 = .ok (.getfield 15, 3) := by decide +kernel
theorem dS_coder_10 : decode prog_14_method_152_code 10 = .ok (.goto 4, 3) := by decide +kernel
theorem dS_coder_14 : decode prog_14_method_152_code 14 = .ok (.ireturn, 1) := by decide +kernel
theorem dS_length_0 : decode prog_14_method_54_code 0 = .ok (.aload_n 0, 1) := by decide +kernel
theorem dS_length_1 : decode prog_14_method_54_code 1 = .ok (.getfield 9, 3) := by decide +kernel
theorem dS_length_4 : decode prog_14_method_54_code 4 = .ok (.arraylength, 1) := by decide +kernel
theorem dS_length_5 : decode prog_14_method_54_code 5 = .ok (.aload_n 0, 1) := by decide +kernel
theorem dS_length_6 : decode prog_14_method_54_code 6 = .ok (.invokevirtual 335, 3) := by decide +kernel
theorem dS_length_9 : decode prog_14_method_54_code 9 = .ok (.ishr, 1) := by decide +kernel
theorem dS_length_10 : decode prog_14_method_54_code 10 = .ok (.ireturn, 1) := by decide +kernel
theorem dS_isLatin1_0 : decode prog_14_method_154_code 0 = .ok (.getstatic 38, 3) := by decide +kernel
theorem dS_isLatin1_3 : decode prog_14_method_154_code 3 = .ok (.ifCond .eq 14, 3) := by decide +kernel
theorem dS_isLatin1_6 : decode prog_14_method_154_code 6 = .ok (.aload_n 0, 1) := by decide +kernel
theorem dS_isLatin1_7 : decode prog_14_method_154_code 7 = .ok (.getfield 15, 3) := by decide +kernel
theorem dS_isLatin1_10 : decode prog_14_method_154_code 10 = .ok (.ifCond .ne 7, 3) := by decide +kernel
theorem dS_isLatin1_13 : decode prog_14_method_154_code 13 = .ok (.iconst 1, 1) := by decide +kernel
theorem dS_isLatin1_14 : decode prog_14_method_154_code 14 = .ok (.goto 4, 3) := by decide +kernel
theorem dS_isLatin1_18 : decode prog_14_method_154_code 18 = .ok (.ireturn, 1) := by decide +kernel
theorem dS_charAt_0 : decode prog_14_method_56_code 0 = .ok (.aload_n 0, 1) := by decide +kernel
theorem dS_charAt_1 : decode prog_14_method_56_code 1 = .ok (.invokevirtual 492, 3) := by decide +kernel
theorem dS_charAt_4 : decode prog_14_method_56_code 4 = .ok (.ifCond .eq 12, 3) := by decide +kernel
theorem dS_charAt_7 : decode prog_14_method_56_code 7 = .ok (.aload_n 0, 1) := by decide +kernel
theorem dS_charAt_8 : decode prog_14_method_56_code 8 = .ok (.getfield 9, 3) := by decide +kernel
theorem dS_charAt_11 : decode prog_14_method_56_code 11 = .ok (.iload_n 1, 1) := by decide +kernel
theorem dS_charAt_12 : decode prog_14_method_56_code 12 = .ok (.invokestatic 495, 3) := by decide +kernel
theorem dS_charAt_15 : decode prog_14_method_56_code 15 = .ok (.ireturn, 1) := by decide +kernel
theorem dS_checkIndex_0 : decode prog_14_method_155_code 0 = .ok (.iload_n 0, 1) := by decide +kernel
theorem dS_checkIndex_1 : decode prog_14_method_155_code 1 = .ok (.iload_n 1, 1) := by decide +kernel
theorem dS_checkIndex_2 : decode prog_14_method_155_code 2 = .ok (.getstatic 1053, 3) := by decide +kernel
theorem dS_checkIndex_5 : decode prog_14_method_155_code 5 = .ok (.invokestatic 1059, 3) := by decide +kernel
theorem dS_checkIndex_8 : decode prog_14_method_155_code 8 = .ok (.pop, 1) := by decide +kernel
theorem dS_checkIndex_9 : decode prog_14_method_155_code 9 = .ok (.return_, 1) := by decide +kernel
theorem dS_lcharAt_0 : decode prog_15_method_2_code 0 = .ok (.iload_n 1, 1) := by decide +kernel
theorem dS_lcharAt_1 : decode prog_15_method_2_code 1 = .ok (.aload_n 0, 1) := by decide +kernel
theorem dS_lcharAt_2 : decode prog_15_method_2_code 2 = .ok (.arraylength, 1) := by decide +kernel
theorem dS_lcharAt_3 : decode prog_15_method_2_code 3 = .ok (.invokestatic 9, 3) := by decide +kernel
theorem dS_lcharAt_6 : decode prog_15_method_2_code 6 = .ok (.aload_n 0, 1) := by decide +kernel
theorem dS_lcharAt_7 : decode prog_15_method_2_code 7 = .ok (.iload_n 1, 1) := by decide +kernel
theorem dS_lcharAt_8 : decode prog_15_method_2_code 8 = .ok (.baload, 1) := by decide +kernel
theorem dS_lcharAt_9 : decode prog_15_method_2_code 9 = .ok (.sipush 255, 3) := by decide +kernel
theorem dS_lcharAt_12 : decode prog_15_method_2_code 12 = .ok (.iand, 1) := by decide +kernel
theorem dS_lcharAt_13 : decode prog_15_method_2_code 13 = .ok (.i2c, 1) := by decide +kernel
theorem dS_lcharAt_14 : decode prog_15_method_2_code 14 = .ok (.ireturn, 1) := by decide +kernel
theorem dS_pcheck_0 : decode prog_18_method_11_code 0 = .ok (.iload_n 0, 1) := by decide +kernel
theorem dS_pcheck_1 : decode prog_18_method_11_code 1 = .ok (.ifCond .lt 8, 3) := by decide +kernel
theorem dS_pcheck_4 : decode prog_18_method_11_code 4 = .ok (.iload_n 0, 1) := by decide +kernel
theorem dS_pcheck_5 : decode prog_18_method_11_code 5 = .ok (.iload_n 1, 1) := by decide +kernel
theorem dS_pcheck_6 : decode prog_18_method_11_code 6 = .ok (.if_icmp .lt 10, 3) := by decide +kernel
theorem dS_pcheck_16 : decode prog_18_method_11_code 16 = .ok (.iload_n 0, 1) := by decide +kernel
theorem dS_pcheck_17 : decode prog_18_method_11_code 17 = .ok (.ireturn, 1) := by decide +kernel
section ZS
variable {p : Program} {l : Launch} {e : Env} {R : Room} {s : State} {m : MethodId} {args : Array Value} {below : List Frame} {meth : Method} {c : Code} {H H0 : Heap} {locs : List Loc} {cells slots : Nat} {Q : State → Prop} {cc : ByteArray} {pc index : Nat} {ls : Array Slot} {rest : List Value} {w : zWd} {M : zMem} {own : String}
theorem zs_compact (X : zX w p s m args c cc own) (hW : zWo w s.heap M H locs) (hl : Cond.fieldLink own index "java/lang/String" "COMPACT_STRINGS" "Z" ∈ zU) (hdg : decode cc pc = .ok (.getstatic index, 3)) (kk : W p l e R s m args below meth c H locs cells slots Q (F0 m (pc + 3) ls (.int 1 :: rest))) : W p l e R s m args below meth c H locs cells slots Q (F0 m pc ls rest) := by
  obtain ⟨hx, hb, hown, hts, hK⟩ := X
  exact va_gets hx hb (hK.2.2.2.2.1.narrow (B := zA w) (fun q h => zA_b h)) hW.2 hown (hts _ hl) (fun _ h => h) hdg kk
theorem zs_form (X : zX w p s m args c cc own) (hW : zWo w s.heap M H locs) (hl : Cond.fieldLink own index "jdk/internal/util/Preconditions" "SIOOBE_FORMATTER" "Ljava/util/function/BiFunction;" ∈ zU) (hdg : decode cc pc = .ok (.getstatic index, 3)) (kk : ∀ v : Value, (v = .null ∨ ∃ t, v = .ref t) → W p l e R s m args below meth c H locs cells slots Q (F0 m (pc + 3) ls (v :: rest))) : W p l e R s m args below meth c H locs cells slots Q (F0 m pc ls rest) := by
  obtain ⟨hx, hb, hown, hts, hK⟩ := X
  rcases hK.2.2.2.2.2.narrow (B := zA w) (fun q h => zA_b h) with h | ⟨t, h⟩
  · exact va_gets hx hb h hW.2 hown (hts _ hl) (fun _ h => h) hdg (kk _ (Or.inl rfl))
  · exact va_gets hx hb h hW.2 hown (hts _ hl) (fun _ h => h) hdg (kk _ (Or.inr ⟨t, rfl⟩))
theorem zs_coder {i : Nat} (hi : i < 11) (X : zX w p s m args c cc own) (hW : zWo w s.heap M H locs) (hl : Cond.fieldLink own index "java/lang/String" "coder" "B" ∈ zU) (hdg : decode cc pc = .ok (.getfield index, 3)) (kk : W p l e R s m args below meth c H locs cells slots Q (F0 m (pc + 3) ls (.int 0 :: rest))) : W p l e R s m args below meth c H locs cells slots Q (F0 m pc ls (.ref (zsa w i) :: rest)) := by
  obtain ⟨hx, hb, hown, hts, hK⟩ := X
  exact vk_getf hx hb ((hK.2.2.1.1 i hi).2.1.narrow (B := zA w) (fun q h => zA_b h)) hW.2 hown (hts _ hl) (fun _ h => h) hdg kk
theorem zs_value {i : Nat} (hi : i < 11) (X : zX w p s m args c cc own) (hW : zWo w s.heap M H locs) (hl : Cond.fieldLink own index "java/lang/String" "value" "[B" ∈ zU) (hdg : decode cc pc = .ok (.getfield index, 3)) (kk : W p l e R s m args below meth c H locs cells slots Q (F0 m (pc + 3) ls (.ref (zsv w i) :: rest))) : W p l e R s m args below meth c H locs cells slots Q (F0 m pc ls (.ref (zsa w i) :: rest)) := by
  obtain ⟨hx, hb, hown, hts, hK⟩ := X
  exact vk_getf hx hb ((hK.2.2.1.1 i hi).2.2.1.narrow (B := zA w) (fun q h => zA_b h)) hW.2 hown (hts _ hl) (fun _ h => h) hdg kk
theorem zs_len {i : Nat} (hi : i < 11) (X : zX w p s m args c cc own) (hW : zWo w s.heap M H locs) (hdg : decode cc pc = .ok (.arraylength, 1)) (kk : W p l e R s m args below meth c H locs cells slots Q (F0 m (pc + 1) ls (.int (nI (zsL.getD i 0)) :: rest))) : W p l e R s m args below meth c H locs cells slots Q (F0 m pc ls (.ref (zsv w i) :: rest)) := by
  obtain ⟨hx, hb, hown, hts, hK⟩ := X
  exact va_tlen hx hb ((hK.2.2.1.1 i hi).2.2.2.narrow (B := zA w) (fun q h => zA_b h)) hW.2 rfl hdg kk
theorem zs_bald {i : Nat} {a : Int32} (hi : i < 11) (X : zX w p s m args c cc own) (hW : zWo w s.heap M H locs) (ha : vp_in a (zsL.getD i 0)) (hdg : decode cc pc = .ok (.baload, 1)) (kk : W p l e R s m args below meth c H locs cells slots Q (F0 m (pc + 1) ls (.int ((zsB.getD i []).getD a.toNatClampNeg 0) :: rest))) : W p l e R s m args below meth c H locs cells slots Q (F0 m pc ls (.int a :: .ref (zsv w i) :: rest)) := by
  obtain ⟨hx, hb, hown, hts, hK⟩ := X
  exact va_tb hx hb ((hK.2.2.1.1 i hi).2.2.2.narrow (B := zA w) (fun q h => zA_b h)) hW.2 ha rfl hdg kk
theorem zPreVs {i : Nat} {As : List Value} (hK : zK w s) (hW : zWo w s.heap M H locs) (hi : i < 11) : PreV s H "java/lang/String" (zsa w i) (zPre w (.ref (zsa w i) :: As) M) As :=
  ⟨zPre_blind w _ M, vk_recv (hK.2.2.1.narrow (B := zA w) (fun q h => zA_b h)) hi hW.2, fun U hU hV => ⟨rfl, by rw [hU]; exact hW.1, hK.warm hV (by rw [hU]; exact hW.fr)⟩⟩
def zCX (own : String) (idx : Nat) (y : MethodName) (b : ByteArray) (mL : Nat) (r : Option FieldType) (n : Nat) : Prop := GoodIn zU (va_wsS own idx y (.code y b mL r :: zU)) ∧ (y.cls ≠ "java/lang/invoke/MethodHandle" ∧ y.cls ≠ "java/lang/invoke/VarHandle" ∧ (parseMethodDescriptor y.desc).map (fun d => d.parameters.length) = some n)
theorem zgoodX {y : MethodName} {b : ByteArray} {n idx : Nat} {r : Option FieldType} {own : String} (h1 : Cond.methodLink own idx y ∈ zU) (h2 : Cond.static y ∈ zU) (h4 : Cond.initialized y.cls ∈ zU) (h : Cond.code y b n r ∈ zU) : GoodIn zU (va_wsS own idx y (.code y b n r :: zU)) := by
  intro u hu
  unfold va_wsS at hu
  rcases List.mem_append.mp hu with hu | hu
  · have hm : u ∈ zU := by
      simp only [List.mem_cons, List.not_mem_nil, or_false] at hu
      rcases hu with rfl | rfl | rfl <;> assumption
    exact ⟨hm, good_of_word (zU_good _ hm)⟩
  · exact zgood h u hu
variable {y : MethodName} {b : ByteArray} {mL n idx fr lo nL : Nat} {r : Option FieldType} {lv : List (Nat × Value)} {st As : List Value}
theorem zrunVs {i : Nat} {Qc : Array Value → State → Outcome → State → Prop} (X : zX w p s m args c cc own) (hml : c.maxLocals = nL) (hl : lv_has ls nL lv) (hW : zWo w s.heap M H locs) (hi : i < 11) (hC : zCV own idx "java/lang/String" y b mL r n)
    (hM : Met l y (.code y b mL r :: zU) (zRm fr lo) (zPre w (.ref (zsa w i) :: As) M) Qc 0 0 (zA w)) (hn : As.length = n) (hR : fr + 1 ≤ R.frames ∧ 8 + (mL + 11) + lo ≤ R.locals) (hf : cells ≤ R.cells ∧ slots ≤ R.slots) (hst : st = As.reverse ++ .ref (zsa w i) :: rest) (hcat : (rest.map fun v => v.category).sum ≤ 8) (hdg : decode cc pc = .ok (.invokevirtual idx, 3)) :
    va_Run p l e R s m args below meth c H locs cells slots 0 0 (F0 m pc ls st) rest (Qc (Value.ref (zsa w i) :: As).toArray) (zA w) := by
  obtain ⟨hx, hb, hown, hts, hK⟩ := X
  exact va_runV (As := As) (rest := rest) ⟨hx, hb, hml, hown, hts⟩ hM (cwV n hts hC.1 rfl rfl rfl hC.2 hR) (zPreVs hK hW hi) rfl hn hl.1 hst (lv_room hcat) hdg ⟨hf.1, hf.2⟩
theorem zrunX {Qc : Array Value → State → Outcome → State → Prop} (X : zX w p s m args c cc own) (hml : c.maxLocals = nL) (hl : lv_has ls nL lv) (hW : zWo w s.heap M H locs) (hC : zCX own idx y b mL r n)
    (hM : Met l y (.code y b mL r :: zU) (zRm fr lo) (zPre w As M) Qc 0 0 (zA w)) (hn : As.length = n) (hR : fr + 1 ≤ R.frames ∧ 8 + (mL + 11) + lo ≤ R.locals) (hf : cells ≤ R.cells ∧ slots ≤ R.slots) (hst : st = As.reverse ++ rest) (hcat : (rest.map fun v => v.category).sum ≤ 8) (hdg : decode cc pc = .ok (.invokestatic idx, 3)) :
    va_Run p l e R s m args below meth c H locs cells slots 0 0 (F0 m pc ls st) rest (Qc As.toArray) (zA w) := by
  obtain ⟨hx, hb, hown, hts, hK⟩ := X
  exact va_runS (As := As) (rest := rest) ⟨hx, hb, hml, hown, hts⟩ hM (va_cwS n hts hC.1 rfl rfl rfl hC.2 hR) (zPreS hK hW.1 hW.fr) rfl hn hl.1 hst (lv_room hcat) hdg ⟨hf.1, hf.2⟩
theorem zretT {ty : FieldType} {post : Int32 → zMem → Prop} {v : Int32} (X : zX w p s m args c cc own) (hr : meth.sig.returnType = some ty) (hlk : meth.locks = false) (hW : zWo w s.heap M H locs) (hn : narrow ty (.int v) = .int v) (h : post v M) (hdg : decode cc pc = .ok (.ireturn, 1)) : W p l e R s m args below meth c H locs cells slots (MQ below (va_Qi post (zB w) (zA w)) args s cells slots (zA w)) (F0 m pc ls [.int v]) := by
  obtain ⟨hx, hb, hown, hts, hK⟩ := X
  exact W.zret (v := v) hx hb hr hn (fun t ht hV => ⟨⟨v, M, rfl, h, hW.B ht⟩, hW.2.F ht⟩) hW.2.2.2 hdg hlk
abbrev zQr (w : zWd) (post : Nat → zMem → Prop) : Array Value → State → Outcome → State → Prop := va_Qr (fun u : Nat × zMem => post u.1 u.2) (fun u a t => a = zsa w u.1 ∧ zB w u.2 t) (zA w)
theorem zcallr {post : Nat → zMem → Prop} (hr : va_Run p l e R s m args below meth c H locs cells slots 0 0 (F0 m pc ls st) rest (zQr w post As.toArray) (zA w)) (hW : zWo w H0 M H locs)
    (kk : ∀ (i : Nat) (M : zMem) (H : Heap) (locs : List Loc), post i M → zWo w H0 M H locs → W p l e R s m args below meth c H locs cells slots Q (F0 m (pc + 3) ls (.ref (zsa w i) :: rest))) : W p l e R s m args below meth c H locs cells slots Q (F0 m pc ls st) :=
  va_callr hr hW.2 (fun _ _ h => h) (fun _ h => h) (fun u ra t H1 locs1 ht _ hp hB _ _ hS => by
    obtain ⟨e1, hB⟩ := hB
    subst e1
    exact kk u.1 u.2 H1 locs1 hp ⟨by rw [← ht]; exact hB, hS⟩)
theorem zrets {post : Nat → zMem → Prop} {i : Nat} {nm : String} (X : zX w p s m args c cc own) (hr : meth.sig.returnType = some (.object nm)) (hlk : meth.locks = false) (hW : zWo w s.heap M H locs) (h : post i M) (hdg : decode cc pc = .ok (.areturn, 1)) : W p l e R s m args below meth c H locs cells slots (MQ below (zQr w post) args s cells slots (zA w)) (F0 m pc ls [.ref (zsa w i)]) := by
  obtain ⟨hx, hb, hown, hts, hK⟩ := X
  exact W.aret hx hb hr (Or.inl ⟨_, rfl⟩) (Or.inr ⟨_, rfl⟩) (fun t ht hV => ⟨⟨(i, M), zsa w i, rfl, h, rfl, hW.B ht⟩, hW.2.F ht⟩) hW.2.2.2 hdg hlk
end ZS
theorem zkS_length : zCV "HandToHand$Reader" 178 "java/lang/String" ⟨"java/lang/String", "length", "()I"⟩ prog_14_method_54_code 1 (Option.some .int) 0 := ⟨zgoodV zu_553 zu_554 zu_555 zu_13 zu_556, by decide +kernel⟩
theorem zkS_charAt : zCV "HandToHand$Reader" 183 "java/lang/String" ⟨"java/lang/String", "charAt", "(I)C"⟩ prog_14_method_56_code 2 (Option.some .char) 1 := ⟨zgoodV zu_563 zu_564 zu_565 zu_13 zu_566, by decide +kernel⟩
theorem zkS_coder : zCV "java/lang/String" 335 "java/lang/String" ⟨"java/lang/String", "coder", "()B"⟩ prog_14_method_152_code 1 (Option.some .byte) 0 := ⟨zgoodV zu_557 zu_558 zu_559 zu_13 zu_560, by decide +kernel⟩
theorem zkS_isLatin1 : zCV "java/lang/String" 492 "java/lang/String" ⟨"java/lang/String", "isLatin1", "()Z"⟩ prog_14_method_154_code 1 (Option.some .boolean) 0 := ⟨zgoodV zu_567 zu_568 zu_569 zu_13 zu_570, by decide +kernel⟩
theorem zkS_lcharAt : zCX "java/lang/String" 495 ⟨"java/lang/StringLatin1", "charAt", "([BI)C"⟩ prog_15_method_2_code 2 (Option.some .char) 2 := ⟨zgoodX zu_571 zu_572 zu_14 zu_573, by decide +kernel⟩
theorem zkS_checkIndex : zCX "java/lang/StringLatin1" 9 ⟨"java/lang/String", "checkIndex", "(II)V"⟩ prog_14_method_155_code 2 none 2 := ⟨zgoodX zu_574 zu_575 zu_13 zu_576, by decide +kernel⟩
theorem zkS_pcheck : zCX "java/lang/String" 1059 ⟨"jdk/internal/util/Preconditions", "checkIndex", "(IILjava/util/function/BiFunction;)I"⟩ prog_18_method_11_code 3 (Option.some .int) 3 := ⟨zgoodX zu_579 zu_580 zu_15 zu_581, by decide +kernel⟩
theorem zkS_wordOf : zCS "HandToHand$Reader" 174 ⟨"HandToHand$Reader", "wordOf", "(I)Ljava/lang/String;"⟩ prog_7_method_24_code 1 (Option.some (.object "java/lang/String")) 1 := ⟨zgoodS zu_539 zu_540 zu_3 zu_541, by decide +kernel⟩
theorem c_Str_coder {l : Launch} {w : zWd} {i : Nat} {M : zMem} {post : Int32 → zMem → Prop} (hi : i < 11) (h : post 0 M) : zMi l ⟨"java/lang/String", "coder", "()B"⟩ prog_14_method_152_code 1 (Option.some .byte) 0 0 w [.ref (zsa w i)] M post := by
  refine zMet (by decide) (Nat.le_of_ble_eq_true rfl) ?_
  intro p e s m below meth c X hr hlk hml hW ls hl
  have hx := X.1
  have hb := X.2.1
  have hl : lv_has ls 1 [(0, .ref (zsa w i))] := hl
  refine zs_compact X hW zu_561 dS_coder_0 ?_
  refine lv_if_eq (tgt := 13) hx hb dS_coder_3 rfl (fun c => absurd c (by decide)) (fun c => ?_)
  refine lv_aload_n hx hb dS_coder_6 rfl (lv_at hl 0 rfl) ?_
  refine zs_coder hi X hW zu_1514 dS_coder_7 ?_
  refine lv_goto (tgt := 14) hx hb dS_coder_10 rfl ?_
  exact zretT X hr hlk hW rfl h dS_coder_14
def wp_Str_length (i : Nat) (M : zMem) (Q : Int32 → zMem → Prop) : Prop := i < 11 ∧ Q (nI (zsL.getD i 0)) M
theorem zs_sh : ∀ i, i < 11 → nI (zsL.getD i 0) >>> ((0 : Int32) &&& 31) = nI (zsL.getD i 0) := by decide +kernel
theorem c_Str_length {l : Launch} {w : zWd} {i : Nat} {M : zMem} {post : Int32 → zMem → Prop} (h : wp_Str_length i M post) : zMi l ⟨"java/lang/String", "length", "()I"⟩ prog_14_method_54_code 1 (Option.some .int) 1 20 w [.ref (zsa w i)] M post := by
  refine zMet (by decide) (Nat.le_of_ble_eq_true rfl) ?_
  intro p e s m below meth c X hr hlk hml hW ls hl
  have hx := X.1
  have hb := X.2.1
  have hl : lv_has ls 1 [(0, .ref (zsa w i))] := hl
  obtain ⟨hi, h⟩ := h
  refine lv_aload_n hx hb dS_length_0 rfl (lv_at hl 0 rfl) ?_
  refine zs_value hi X hW zu_1513 dS_length_1 ?_
  refine zs_len hi X hW dS_length_4 ?_
  refine lv_aload_n hx hb dS_length_5 rfl (lv_at hl 0 rfl) ?_
  refine zcalli (zrunVs (As := []) (rest := [.int (nI (zsL.getD i 0))]) X hml hl hW hi zkS_coder (c_Str_coder (post := fun r M' => r = 0 ∧ M' = M) hi ⟨rfl, rfl⟩) rfl ⟨Nat.le_of_ble_eq_true rfl, Nat.le_of_ble_eq_true rfl⟩ ⟨Nat.le_refl 0, Nat.le_refl 0⟩ rfl (Nat.le_of_ble_eq_true rfl) dS_length_6) hW (fun r M1 H locs h1 hW2 => ?_)
  obtain ⟨e1, e2⟩ := h1
  subst e1 e2
  refine lv_ishr hx hb dS_length_9 ?_
  rw [zs_sh i hi]
  exact zreti X hr hlk hW2 h dS_length_10
theorem c_Str_isLatin1 {l : Launch} {w : zWd} {i : Nat} {M : zMem} {post : Int32 → zMem → Prop} (hi : i < 11) (h : post 1 M) : zMi l ⟨"java/lang/String", "isLatin1", "()Z"⟩ prog_14_method_154_code 1 (Option.some .boolean) 0 0 w [.ref (zsa w i)] M post := by
  refine zMet (by decide) (Nat.le_of_ble_eq_true rfl) ?_
  intro p e s m below meth c X hr hlk hml hW ls hl
  have hx := X.1
  have hb := X.2.1
  have hl : lv_has ls 1 [(0, .ref (zsa w i))] := hl
  refine zs_compact X hW zu_561 dS_isLatin1_0 ?_
  refine lv_if_eq (tgt := 17) hx hb dS_isLatin1_3 rfl (fun c => absurd c (by decide)) (fun c => ?_)
  refine lv_aload_n hx hb dS_isLatin1_6 rfl (lv_at hl 0 rfl) ?_
  refine zs_coder hi X hW zu_1514 dS_isLatin1_7 ?_
  refine lv_if_ne (tgt := 17) hx hb dS_isLatin1_10 rfl (fun c => absurd rfl c) (fun c => ?_)
  refine lv_iconst (v := 1) hx hb dS_isLatin1_13 (by decide) ?_
  refine lv_goto (tgt := 18) hx hb dS_isLatin1_14 rfl ?_
  exact zretT X hr hlk hW rfl h dS_isLatin1_18
theorem c_Str_pcheck {l : Launch} {w : zWd} {a b : Int32} {v : Value} {M : zMem} {post : Int32 → zMem → Prop} (hv : v = .null ∨ ∃ t, v = .ref t) (h0 : ¬ a < 0) (h1 : a < b) (h : post a M) : zMi l ⟨"jdk/internal/util/Preconditions", "checkIndex", "(IILjava/util/function/BiFunction;)I"⟩ prog_18_method_11_code 3 (Option.some .int) 0 0 w [.int a, .int b, v] M post := by
  refine zMet (by decide) (by rcases hv with rfl | ⟨t, rfl⟩ <;> exact Nat.le_of_ble_eq_true rfl) ?_
  intro p e s m below meth c X hr hlk hml hW ls hl
  have hx := X.1
  have hb := X.2.1
  have hl : lv_has ls 3 [(0, .int a), (1, .int b), (2, v)] := by rcases hv with rfl | ⟨t, rfl⟩ <;> exact hl
  refine lv_iload_n hx hb dS_pcheck_0 rfl (lv_at hl 0 rfl) ?_
  refine lv_if_lt (tgt := 9) hx hb dS_pcheck_1 rfl (fun c => absurd c h0) (fun c => ?_)
  refine lv_iload_n hx hb dS_pcheck_4 rfl (lv_at hl 0 rfl) ?_
  refine lv_iload_n hx hb dS_pcheck_5 rfl (lv_at hl 1 rfl) ?_
  refine lv_icmp_lt (tgt := 16) hx hb dS_pcheck_6 rfl (fun c => ?_) (fun c => absurd h1 c)
  refine lv_iload_n hx hb dS_pcheck_16 rfl (lv_at hl 0 rfl) ?_
  exact zreti X hr hlk hW h dS_pcheck_17
theorem c_Str_checkIndex {l : Launch} {w : zWd} {a b : Int32} {M : zMem} {post : zMem → Prop} (h0 : ¬ a < 0) (h1 : a < b) (h : post M) : zMv l ⟨"java/lang/String", "checkIndex", "(II)V"⟩ prog_14_method_155_code 2 none 1 22 w [.int a, .int b] M post := by
  refine zMet (by decide) (Nat.le_of_ble_eq_true rfl) ?_
  intro p e s m below meth c X hr hlk hml hW ls hl
  have hx := X.1
  have hb := X.2.1
  have hl : lv_has ls 2 [(0, .int a), (1, .int b)] := hl
  refine lv_iload_n hx hb dS_checkIndex_0 rfl (lv_at hl 0 rfl) ?_
  refine lv_iload_n hx hb dS_checkIndex_1 rfl (lv_at hl 1 rfl) ?_
  refine zs_form X hW zu_577 dS_checkIndex_2 (fun v hv => ?_)
  refine zcalli (zrunX (As := [.int a, .int b, v]) (rest := []) X hml hl hW zkS_pcheck (c_Str_pcheck (post := fun r M' => M' = M) hv h0 h1 rfl) rfl ⟨Nat.le_of_ble_eq_true rfl, Nat.le_of_ble_eq_true rfl⟩ ⟨Nat.le_refl 0, Nat.le_refl 0⟩ rfl (Nat.le_of_ble_eq_true rfl) dS_checkIndex_5) hW (fun r M1 H locs e2 hW2 => ?_)
  subst e2
  refine lv_pop hx hb dS_checkIndex_8 rfl ?_
  exact zretv X hr hlk hW2 h dS_checkIndex_9
def zsc (i k : Nat) : Int32 := (zsB.getD i []).getD k 0
theorem zs_ch : ∀ i, i < 11 → ∀ k, k < zsL.getD i 0 → (((zsB.getD i []).getD k 0 &&& 255).toUInt32 % 65536).toInt32 = zsc i k ∧ ((zsc i k).toUInt32 % 65536).toInt32 = zsc i k := by decide +kernel
theorem zs_nar {x : Int32} (h : (x.toUInt32 % 65536).toInt32 = x) : narrow .char (.int x) = .int x := by simp [narrow, h]
theorem c_Str_lcharAt {l : Launch} {w : zWd} {i : Nat} {a : Int32} {M : zMem} {post : Int32 → zMem → Prop} (hi : i < 11) (ha : vp_in a (zsL.getD i 0)) (h : post (zsc i a.toNatClampNeg) M) : zMi l ⟨"java/lang/StringLatin1", "charAt", "([BI)C"⟩ prog_15_method_2_code 2 (Option.some .char) 2 43 w [.ref (zsv w i), .int a] M post := by
  refine zMet (by decide) (Nat.le_of_ble_eq_true rfl) ?_
  intro p e s m below meth c X hr hlk hml hW ls hl
  have hx := X.1
  have hb := X.2.1
  have hl : lv_has ls 2 [(0, .ref (zsv w i)), (1, .int a)] := hl
  have hk : a.toNatClampNeg < zsL.getD i 0 := by unfold vp_in at ha; omega
  have h0 : ¬ a < 0 := fun q => ha (Or.inl q)
  have hL : zsL.getD i 0 < 100 := (show ∀ i, i < 11 → zsL.getD i 0 < 100 by decide) i hi
  have h1 : a < nI (zsL.getD i 0) := by
    obtain ⟨j, hj, e⟩ := nI_of h0
    rw [e, nI_clamp hj] at hk
    rw [e]
    exact (nI_ltI hj (by omega)).mpr hk
  obtain ⟨e1, e2⟩ := zs_ch i hi a.toNatClampNeg hk
  refine lv_iload_n hx hb dS_lcharAt_0 rfl (lv_at hl 1 rfl) ?_
  refine lv_aload_n hx hb dS_lcharAt_1 rfl (lv_at hl 0 rfl) ?_
  refine zs_len hi X hW dS_lcharAt_2 ?_
  refine zcallv (zrunX (As := [.int a, .int (nI (zsL.getD i 0))]) (rest := []) X hml hl hW zkS_checkIndex (c_Str_checkIndex (post := fun M' => M' = M) h0 h1 rfl) rfl ⟨Nat.le_of_ble_eq_true rfl, Nat.le_of_ble_eq_true rfl⟩ ⟨Nat.le_refl 0, Nat.le_refl 0⟩ rfl (Nat.le_of_ble_eq_true rfl) dS_lcharAt_3) hW (fun M1 H locs e3 hW2 => ?_)
  subst e3
  refine lv_aload_n hx hb dS_lcharAt_6 rfl (lv_at hl 0 rfl) ?_
  refine lv_iload_n hx hb dS_lcharAt_7 rfl (lv_at hl 1 rfl) ?_
  refine zs_bald hi X hW2 ha dS_lcharAt_8 ?_
  refine lv_sipush (v := 255) hx hb dS_lcharAt_9 (by decide) ?_
  refine lv_iand hx hb dS_lcharAt_12 ?_
  refine lv_i2c hx hb dS_lcharAt_13 e1 ?_
  exact zretT X hr hlk hW2 (zs_nar e2) h dS_lcharAt_14
def wp_Str_charAt (i : Nat) (a : Int32) (M : zMem) (Q : Int32 → zMem → Prop) : Prop := i < 11 ∧ vp_in a (zsL.getD i 0) ∧ Q (zsc i a.toNatClampNeg) M
theorem c_Str_charAt {l : Launch} {w : zWd} {i : Nat} {a : Int32} {M : zMem} {post : Int32 → zMem → Prop} (h : wp_Str_charAt i a M post) : zMi l ⟨"java/lang/String", "charAt", "(I)C"⟩ prog_14_method_56_code 2 (Option.some .char) 3 64 w [.ref (zsa w i), .int a] M post := by
  refine zMet (by decide) (Nat.le_of_ble_eq_true rfl) ?_
  intro p e s m below meth c X hr hlk hml hW ls hl
  have hx := X.1
  have hb := X.2.1
  have hl : lv_has ls 2 [(0, .ref (zsa w i)), (1, .int a)] := hl
  obtain ⟨hi, ha, h⟩ := h
  have hk : a.toNatClampNeg < zsL.getD i 0 := by unfold vp_in at ha; omega
  obtain ⟨e1, e2⟩ := zs_ch i hi a.toNatClampNeg hk
  refine lv_aload_n hx hb dS_charAt_0 rfl (lv_at hl 0 rfl) ?_
  refine zcalli (zrunVs (As := []) (rest := []) X hml hl hW hi zkS_isLatin1 (c_Str_isLatin1 (post := fun r M' => r = 1 ∧ M' = M) hi ⟨rfl, rfl⟩) rfl ⟨Nat.le_of_ble_eq_true rfl, Nat.le_of_ble_eq_true rfl⟩ ⟨Nat.le_refl 0, Nat.le_refl 0⟩ rfl (Nat.le_of_ble_eq_true rfl) dS_charAt_1) hW (fun r M1 H locs h1 hW2 => ?_)
  obtain ⟨e3, e4⟩ := h1
  subst e3 e4
  refine lv_if_eq (tgt := 16) hx hb dS_charAt_4 rfl (fun c => absurd c (by decide)) (fun c => ?_)
  refine lv_aload_n hx hb dS_charAt_7 rfl (lv_at hl 0 rfl) ?_
  refine zs_value hi X hW2 zu_1513 dS_charAt_8 ?_
  refine lv_iload_n hx hb dS_charAt_11 rfl (lv_at hl 1 rfl) ?_
  refine zcalli (zrunX (As := [.ref (zsv w i), .int a]) (rest := []) X hml hl hW2 zkS_lcharAt (c_Str_lcharAt (post := fun r M' => r = zsc i a.toNatClampNeg ∧ M' = M1) hi ha ⟨rfl, rfl⟩) rfl ⟨Nat.le_of_ble_eq_true rfl, Nat.le_of_ble_eq_true rfl⟩ ⟨Nat.le_refl 0, Nat.le_refl 0⟩ rfl (Nat.le_of_ble_eq_true rfl) dS_charAt_12) hW2 (fun r M2 H locs h1 hW3 => ?_)
  obtain ⟨e3, e4⟩ := h1
  subst e3 e4
  exact zretT X hr hlk hW3 (zs_nar e2) h dS_charAt_15
def wp_Reader_wordOf (a1 : Int32) (M : zMem) (Q : Nat → zMem → Prop) : Prop := (∀ j, j < 10 → a1 = nI j → Q j M) ∧ ((∀ j, j < 10 → ¬ a1 = nI j) → Q 10 M)
theorem c_Reader_wordOf {l : Launch} {w : zWd} {a1 : Int32} {M : zMem} {post : Nat → zMem → Prop} (h : wp_Reader_wordOf a1 M post) : Met l ⟨"HandToHand$Reader", "wordOf", "(I)Ljava/lang/String;"⟩ (.code ⟨"HandToHand$Reader", "wordOf", "(I)Ljava/lang/String;"⟩ prog_7_method_24_code 1 (Option.some (.object "java/lang/String")) :: zU) (zRm 0 0) (zPre w [.int a1] M) (zQr w post) 0 0 (zA w) := by
  refine zMet (by decide) (Nat.le_of_ble_eq_true rfl) ?_
  intro p e s m below meth c X hr hlk hml hW ls hl
  have hx := X.1
  have hb := X.2.1
  have hl : lv_has ls 1 [(0, .int a1)] := hl
  have hS := X.2.2.2.2.2.2.2.1
  refine lv_iload_n hx hb dX5_wordOf_0 rfl (lv_at hl 0 rfl) ?_
  by_cases c0 : a1 = 0
  · refine lv_tableIn (off := 55) (tgt := 56) hx hb dX5_wordOf_1 (by rw [c0]; decide) (by rw [c0]; decide) (by rw [c0]; rfl) rfl ?_
    refine va_ldcS (tx := "piece") (q := zsa w 0) hx hb X.2.2.1 (hS 0 (by decide)) dX5_wordOf_56 ?_
    exact zrets X hr hlk hW (h.1 0 (by decide) c0) dX5_wordOf_58
  by_cases c1 : a1 = 1
  · refine lv_tableIn (off := 58) (tgt := 59) hx hb dX5_wordOf_1 (by rw [c1]; decide) (by rw [c1]; decide) (by rw [c1]; rfl) rfl ?_
    refine va_ldcS (tx := "whole") (q := zsa w 1) hx hb X.2.2.1 (hS 1 (by decide)) dX5_wordOf_59 ?_
    exact zrets X hr hlk hW (h.1 1 (by decide) c1) dX5_wordOf_61
  by_cases c2 : a1 = 2
  · refine lv_tableIn (off := 61) (tgt := 62) hx hb dX5_wordOf_1 (by rw [c2]; decide) (by rw [c2]; decide) (by rw [c2]; rfl) rfl ?_
    refine va_ldcS (tx := "sort") (q := zsa w 2) hx hb X.2.2.1 (hS 2 (by decide)) dX5_wordOf_62 ?_
    exact zrets X hr hlk hW (h.1 2 (by decide) c2) dX5_wordOf_64
  by_cases c3 : a1 = 3
  · refine lv_tableIn (off := 64) (tgt := 65) hx hb dX5_wordOf_1 (by rw [c3]; decide) (by rw [c3]; decide) (by rw [c3]; rfl) rfl ?_
    refine va_ldcS (tx := "row") (q := zsa w 3) hx hb X.2.2.1 (hS 3 (by decide)) dX5_wordOf_65 ?_
    exact zrets X hr hlk hW (h.1 3 (by decide) c3) dX5_wordOf_67
  by_cases c4 : a1 = 4
  · refine lv_tableIn (off := 67) (tgt := 68) hx hb dX5_wordOf_1 (by rw [c4]; decide) (by rw [c4]; decide) (by rw [c4]; rfl) rfl ?_
    refine va_ldcS (tx := "hand") (q := zsa w 4) hx hb X.2.2.1 (hS 4 (by decide)) dX5_wordOf_68 ?_
    exact zrets X hr hlk hW (h.1 4 (by decide) c4) dX5_wordOf_70
  by_cases c5 : a1 = 5
  · refine lv_tableIn (off := 70) (tgt := 71) hx hb dX5_wordOf_1 (by rw [c5]; decide) (by rw [c5]; decide) (by rw [c5]; rfl) rfl ?_
    refine va_ldcS (tx := "walk") (q := zsa w 5) hx hb X.2.2.1 (hS 5 (by decide)) dX5_wordOf_71 ?_
    exact zrets X hr hlk hW (h.1 5 (by decide) c5) dX5_wordOf_73
  by_cases c6 : a1 = 6
  · refine lv_tableIn (off := 73) (tgt := 74) hx hb dX5_wordOf_1 (by rw [c6]; decide) (by rw [c6]; decide) (by rw [c6]; rfl) rfl ?_
    refine va_ldcS (tx := "learn") (q := zsa w 6) hx hb X.2.2.1 (hS 6 (by decide)) dX5_wordOf_74 ?_
    exact zrets X hr hlk hW (h.1 6 (by decide) c6) dX5_wordOf_76
  by_cases c7 : a1 = 7
  · refine lv_tableIn (off := 76) (tgt := 77) hx hb dX5_wordOf_1 (by rw [c7]; decide) (by rw [c7]; decide) (by rw [c7]; rfl) rfl ?_
    refine va_ldcS (tx := "back") (q := zsa w 7) hx hb X.2.2.1 (hS 7 (by decide)) dX5_wordOf_77 ?_
    exact zrets X hr hlk hW (h.1 7 (by decide) c7) dX5_wordOf_79
  by_cases c8 : a1 = 8
  · refine lv_tableIn (off := 79) (tgt := 80) hx hb dX5_wordOf_1 (by rw [c8]; decide) (by rw [c8]; decide) (by rw [c8]; rfl) rfl ?_
    refine va_ldcS (tx := "zone") (q := zsa w 8) hx hb X.2.2.1 (hS 8 (by decide)) dX5_wordOf_80 ?_
    exact zrets X hr hlk hW (h.1 8 (by decide) c8) dX5_wordOf_82
  by_cases c9 : a1 = 9
  · refine lv_tableIn (off := 82) (tgt := 83) hx hb dX5_wordOf_1 (by rw [c9]; decide) (by rw [c9]; decide) (by rw [c9]; rfl) rfl ?_
    refine va_ldcS (tx := "fixed") (q := zsa w 9) hx hb X.2.2.1 (hS 9 (by decide)) dX5_wordOf_83 ?_
    exact zrets X hr hlk hW (h.1 9 (by decide) c9) dX5_wordOf_85
  refine lv_tableOut (tgt := 86) hx hb dX5_wordOf_1 (zsw 9 (Nat.le_of_ble_eq_true rfl) (fun j hj => ?_)) rfl ?_
  · rcases (show j = 0 ∨ j = 1 ∨ j = 2 ∨ j = 3 ∨ j = 4 ∨ j = 5 ∨ j = 6 ∨ j = 7 ∨ j = 8 ∨ j = 9 by omega) with rfl | rfl | rfl | rfl | rfl | rfl | rfl | rfl | rfl | rfl
    · exact c0
    · exact c1
    · exact c2
    · exact c3
    · exact c4
    · exact c5
    · exact c6
    · exact c7
    · exact c8
    · exact c9
  refine va_ldcS (tx := "") (q := zsa w 10) hx hb X.2.2.1 (hS 10 (by decide)) dX5_wordOf_86 ?_
  refine zrets X hr hlk hW (h.2 (fun j hj => ?_)) dX5_wordOf_88
  rcases (show j = 0 ∨ j = 1 ∨ j = 2 ∨ j = 3 ∨ j = 4 ∨ j = 5 ∨ j = 6 ∨ j = 7 ∨ j = 8 ∨ j = 9 by omega) with rfl | rfl | rfl | rfl | rfl | rfl | rfl | rfl | rfl | rfl
  · exact c0
  · exact c1
  · exact c2
  · exact c3
  · exact c4
  · exact c5
  · exact c6
  · exact c7
  · exact c8
  · exact c9
