theorem st_cl {s : State} {args : Array Value} (hts : ∀ u ∈ zU, u.before args s = true) : ∃ D : va_G, ∀ (k : Nat) (q : vw_C), vwCl[k]? = some q → u_Kn s q.1 q.2.1 q.2.2 (D.1 k) (D.2 k) := by
  obtain ⟨c0, i0, h0⟩ := u_known (C := "HandToHand$Bench") (T := TX0) (N := 14) (n := 14) hts zin_0 (hts _ zu_155)
  obtain ⟨c1, i1, h1⟩ := u_known (C := "HandToHand$Course") (T := TX1) (N := 4) (n := 4) hts zin_1 (hts _ zu_222)
  obtain ⟨c2, i2, h2⟩ := u_known (C := "HandToHand$Handings") (T := TX2) (N := 2) (n := 2) hts zin_2 (hts _ zu_228)
  obtain ⟨c3, i3, h3⟩ := u_known (C := "HandToHand$Orders") (T := TX3) (N := 3) (n := 3) hts zin_3 (hts _ zu_330)
  obtain ⟨c4, i4, h4⟩ := u_known (C := "HandToHand$Parts") (T := TX4) (N := 4) (n := 4) hts zin_4 (hts _ zu_349)
  obtain ⟨c5, i5, h5⟩ := u_known (C := "HandToHand$Reader") (T := TX5) (N := 14) (n := 14) hts zin_5 (hts _ zu_97)
  obtain ⟨c6, i6, h6⟩ := u_known (C := "HandToHand$Ring") (T := TX6) (N := 8) (n := 8) hts zin_6 (hts _ zu_287)
  obtain ⟨c7, i7, h7⟩ := u_known (C := "HandToHand$Settling") (T := TX7) (N := 5) (n := 5) hts zin_7 (hts _ zu_263)
  obtain ⟨c8, i8, h8⟩ := u_known (C := "HandToHand$Sheet") (T := TX8) (N := 3) (n := 3) hts zin_8 (hts _ zu_384)
  obtain ⟨c9, i9, h9⟩ := u_known (C := "HandToHand$Told") (T := TX9) (N := 11) (n := 11) hts zin_9 (hts _ zu_27)
  obtain ⟨c10, i10, h10⟩ := u_known (C := "HandToHand") (T := TX10) (N := 14) (n := 14) hts zin_10 (hts _ zu_19)
  obtain ⟨c11, i11, h11⟩ := u_known (C := "HandToHandModel") (T := TX11) (N := 40) (n := 40) hts zin_11 (hts _ zu_1015)
  refine ⟨(fun k => [c0, c1, c2, c3, c4, c5, c6, c7, c8, c9, c10, c11].getD k c0, fun k => [i0, i1, i2, i3, i4, i5, i6, i7, i8, i9, i10, i11].getD k i0), ?_⟩
  intro k q hq
  match k, hq with
  | 0, hq => cases hq; exact h0
  | 1, hq => cases hq; exact h1
  | 2, hq => cases hq; exact h2
  | 3, hq => cases hq; exact h3
  | 4, hq => cases hq; exact h4
  | 5, hq => cases hq; exact h5
  | 6, hq => cases hq; exact h6
  | 7, hq => cases hq; exact h7
  | 8, hq => cases hq; exact h8
  | 9, hq => cases hq; exact h9
  | 10, hq => cases hq; exact h10
  | 11, hq => cases hq; exact h11
  | k + 12, hq => simp at hq
theorem st_ar {s : State} {args : Array Value} {ty : FieldType} (hra : ∀ cA, va_RA s cA ty = (s.vm.findClass ("[" ++ ty.toString) = some cA)) (h : (Cond.arrayClass ty).before args s = true) : ∃ cA, ArrOfT s cA ty ∧ va_RA s cA ty := by
  obtain ⟨cA, kA, comp, h1, h2, h3⟩ := Cond.arrayClass_spec h
  exact ⟨cA, fun N z => ⟨(fun k h => by cases h), kA, h2, comp, h3⟩, by rw [hra]; exact h1⟩
theorem st_ao {s : State} {args : Array Value} {C : String} (h : (Cond.arrayOver (.object C)).before args s = true) : ∃ cA, ArrOfT s cA (.object C) ∧ va_RA s cA (.object C) := by
  obtain ⟨comp, c, k, h1, h2, h3, h4, h5⟩ := Cond.arrayOver_spec h
  exact ⟨c, fun N z => ⟨(fun k h => by cases h), k, h3, comp, h4⟩, k, comp, h3, h4, h1, h5⟩
abbrev st_t (i : Nat) : Term := Term.string "HandToHand$Reader" (zsI.getD i 0)
theorem st_sref {s : State} {args : Array Value} (hts : ∀ w ∈ lw_tbl, w.before args s = true) (i : Nat) (hi : i < 11) : (Cond.stringRef "HandToHand$Reader" (zsI.getD i 0) (zsT.getD i "")).before args s = true := by
  rcases (show i = 0 ∨ i = 1 ∨ i = 2 ∨ i = 3 ∨ i = 4 ∨ i = 5 ∨ i = 6 ∨ i = 7 ∨ i = 8 ∨ i = 9 ∨ i = 10 by omega) with rfl | rfl | rfl | rfl | rfl | rfl | rfl | rfl | rfl | rfl | rfl
  · exact hts _ (List.mem_append_right _ (zu_l3 (List.mem_of_getElem? (i := 62) rfl)))
  · exact hts _ (List.mem_append_right _ (zu_l3 (List.mem_of_getElem? (i := 63) rfl)))
  · exact hts _ (List.mem_append_right _ (zu_l3 (List.mem_of_getElem? (i := 64) rfl)))
  · exact hts _ (List.mem_append_right _ (zu_l3 (List.mem_of_getElem? (i := 65) rfl)))
  · exact hts _ (List.mem_append_right _ (zu_l3 (List.mem_of_getElem? (i := 66) rfl)))
  · exact hts _ (List.mem_append_right _ (zu_l3 (List.mem_of_getElem? (i := 67) rfl)))
  · exact hts _ (List.mem_append_right _ (zu_l3 (List.mem_of_getElem? (i := 68) rfl)))
  · exact hts _ (List.mem_append_right _ (zu_l3 (List.mem_of_getElem? (i := 69) rfl)))
  · exact hts _ (List.mem_append_right _ (zu_l3 (List.mem_of_getElem? (i := 70) rfl)))
  · exact hts _ (List.mem_append_right _ (zu_l3 (List.mem_of_getElem? (i := 71) rfl)))
  · exact hts _ (List.mem_append_right _ (zu_l3 (List.mem_of_getElem? (i := 72) rfl)))
theorem st_S {s : State} {args : Array Value} (hts : ∀ w ∈ lw_tbl, w.before args s = true) (hgv : (Jvm.Cond.and given_1 narrow_1).before args s = true) : ∃ adK adV : Nat → Nat, ∀ b, s.heap.size ≤ b → vk_S 11 zsL zsB adK adV (fun q => b ≤ q) s s.heap ∧ (∀ i, i < 11 → vk_R "HandToHand$Reader" (zsI.getD i 0) (zsT.getD i "") (adK i) s) ∧ va_Z "java/lang/String" "COMPACT_STRINGS" "Z" (.int 1) (fun q => b ≤ q) s s.heap ∧ va_Zq "jdk/internal/util/Preconditions" "SIOOBE_FORMATTER" "Ljava/util/function/BiFunction;" (fun q => b ≤ q) s s.heap := by
  have hs := flat_of_before _ hgv
  have hz : ∀ u ∈ zU, u.before args s = true := fun u h => hts u (zU_tbl u h)
  have hA : ∀ a : Nat, a < s.heap.size → ¬ (fun q => s.heap.size ≤ q) a := fun a h => Nat.not_le.mpr h
  have hN : ∀ i, i < 11 → ∀ j, j < 11 → i < j → Cond.not (Cond.eq (st_t i) (st_t j)) ∈ flatC (Jvm.Cond.and given_1 narrow_1) := by decide +kernel
  obtain ⟨adK, adV, h1, h2⟩ := vk_Sof (args := args) (s := s) (N := 11) (tm := st_t) (len := zsL) (byt := zsB) (A := fun q => s.heap.size ≤ q) (by decide)
    (fun i hi => hs _ ((show ∀ i, i < 11 → Cond.exactly (st_t i) "java/lang/String" ∈ flatC (Jvm.Cond.and given_1 narrow_1) by decide +kernel) i hi))
    (fun i hi => hs _ ((show ∀ i, i < 11 → Cond.eq (.field (st_t i) "java/lang/String" "coder" "B") (.int 0) ∈ flatC (Jvm.Cond.and given_1 narrow_1) by decide +kernel) i hi))
    (fun i hi => hs _ ((show ∀ i, i < 11 → Cond.arrayOf (.field (st_t i) "java/lang/String" "value" "[B") .byte ∈ flatC (Jvm.Cond.and given_1 narrow_1) by decide +kernel) i hi))
    (fun i hi => hs _ ((show ∀ i, i < 11 → Cond.eq (.length (.field (st_t i) "java/lang/String" "value" "[B")) (.int (Int32.ofNat (zsL.getD i 0))) ∈ flatC (Jvm.Cond.and given_1 narrow_1) by decide +kernel) i hi))
    (fun i hi j hj => hs _ ((show ∀ i, i < 11 → ∀ j, j < zsL.getD i 0 → Cond.eq (.elem (.field (st_t i) "java/lang/String" "value" "[B") (.int (Int32.ofNat j))) (.int ((zsB.getD i []).getD j 0)) ∈ flatC (Jvm.Cond.and given_1 narrow_1) by decide +kernel) i hi j hj))
    (fun i j hi hj hij => by
      rcases Nat.lt_or_ge i j with q | q
      · exact Or.inl (hs _ (hN i hi j hj q))
      · exact Or.inr (hs _ (hN j hj i hi (by omega))))
    hA
  have hc : (Term.static "java/lang/String" "COMPACT_STRINGS" "Z").eval args s none [] s = some (.int 1) := va_eqt (hs (Cond.eq (Term.static "java/lang/String" "COMPACT_STRINGS" "Z") (.int 1)) (by decide +kernel))
  have hr : (Cond.isRef (Term.static "jdk/internal/util/Preconditions" "SIOOBE_FORMATTER" "Ljava/util/function/BiFunction;")).before args s = true := hs _ (by decide +kernel)
  have l1 : (Cond.laysStatic "java/lang/String" "COMPACT_STRINGS" "Z").before args s = true := hts _ (List.mem_append_right _ (zu_l3 (List.mem_of_getElem? (i := 82) rfl)))
  have l2 : (Cond.laysStatic "jdk/internal/util/Preconditions" "SIOOBE_FORMATTER" "Ljava/util/function/BiFunction;").before args s = true := hts _ (List.mem_append_right _ (zu_l3 (List.mem_of_getElem? (i := 98) rfl)))
  have z1 := va_Zof (v := .int 1) l1 (hz _ zu_13) hc hA
  have z2 := va_Zqof l2 (hz _ zu_15) hr hA
  exact ⟨adK, adV, fun b hb => ⟨h1.narrow (fun q h => Nat.le_trans hb h), fun i hi => vk_R.of (st_sref hts i hi) (h2 i hi), z1.narrow (fun q h => Nat.le_trans hb h), z2.narrow (fun q h => Nat.le_trans hb h)⟩⟩
theorem st_K {s : State} {args : Array Value} (hts : ∀ w ∈ lw_tbl, w.before args s = true) (hgv : (Jvm.Cond.and given_1 narrow_1).before args s = true) : ∃ (D : va_G) (ar : Nat → ClassId), ∀ sh b n, s.heap.size ≤ b → zKo (D, ar, sh, b, n) s := by
  obtain ⟨adK, adV, hstr⟩ := st_S hts hgv
  have hz : ∀ u ∈ zU, u.before args s = true := fun u h => hts u (zU_tbl u h)
  obtain ⟨D, hD⟩ := st_cl hz
  have ob : (Cond.arrayOver (.object "HandToHand$Bench")).before args s = true := hts _ (List.mem_append_right _ (zu_l1 (List.mem_of_getElem? (i := 220) rfl)))
  have os : (Cond.arrayOver (.object "HandToHand$Sheet")).before args s = true := hts _ (List.mem_append_right _ (zu_l2 (List.mem_of_getElem? (i := 131) rfl)))
  obtain ⟨a0, e0⟩ := st_ar (ty := .byte) (fun _ => rfl) (hz _ zu_153)
  obtain ⟨a1, e1⟩ := st_ar (ty := .int) (fun _ => rfl) (hz _ zu_95)
  obtain ⟨a2, e2⟩ := st_ar (ty := .boolean) (fun _ => rfl) (hz _ zu_242)
  obtain ⟨a3, e3⟩ := st_ao ob
  obtain ⟨a4, e4⟩ := st_ao os
  refine ⟨D, fun k => if k < 100 then [a0, a1, a2, a3, a4].getD k a0 else if k < 200 then adK (k - 100) else adV (k - 200), fun sh b n hbn => ⟨⟨⟨hD, ?_⟩, ?_, ?_⟩, va_AO.of ob, va_AO.of os⟩⟩
  · intro k q hq
    match k, hq with
    | 0, hq => cases hq; exact e0
    | 1, hq => cases hq; exact e1
    | 2, hq => cases hq; exact e2
    | 3, hq => cases hq; exact e3
    | 4, hq => cases hq; exact e4
    | k + 5, hq => simp [ztys] at hq
  · intro q hq
    exact va_tabs rfl (u := s) (U := s) rfl (hts _ (zN_tbl q hq))
  · obtain ⟨s1, s2, s3, s4⟩ := hstr b hbn
    have ek : ∀ i, i < 11 → zsa (D, (fun k => if k < 100 then [a0, a1, a2, a3, a4].getD k a0 else if k < 200 then adK (k - 100) else adV (k - 200)), sh, b, n) i = adK i := fun i hi => by
      show (if 100 + i < 100 then [a0, a1, a2, a3, a4].getD (100 + i) a0 else if 100 + i < 200 then adK (100 + i - 100) else adV (100 + i - 200)) = adK i
      rw [if_neg (by omega), if_pos (by omega), Nat.add_sub_cancel_left]
    have ev : ∀ i, i < 11 → zsv (D, (fun k => if k < 100 then [a0, a1, a2, a3, a4].getD k a0 else if k < 200 then adK (k - 100) else adV (k - 200)), sh, b, n) i = adV i := fun i hi => by
      show (if 200 + i < 100 then [a0, a1, a2, a3, a4].getD (200 + i) a0 else if 200 + i < 200 then adK (200 + i - 100) else adV (200 + i - 200)) = adV i
      rw [if_neg (by omega), if_neg (by omega), Nat.add_sub_cancel_left]
    refine ⟨⟨fun i hi => ?_, fun i j hi hj e => ?_⟩, fun i hi => ?_, s3, s4⟩
    · rw [ek i hi, ev i hi]; exact s1.1 i hi
    · rw [ek i hi, ek j hj] at e; exact s1.2 i j hi hj e
    · rw [ek i hi]; exact s2 i hi
set_option maxHeartbeats 4000000 in
theorem start_of {p : Program} {e : Env} {s : State} {m : MethodId} {below : List Frame} {meth : Method} {c : Code} (l : Launch) {b L : Nat} {xs : Nat → Int32} (hLN : L ≤ 384) (C0 : lw_At p s m meth c b L xs) (I : Nat → zMem → zMem → Prop) (h0 : wp_Told_tellAsAtFirst 1 zM0 (fun zm1 => (∀ c, 6 ≤ c → zm1 c = zM0 c) ∧ wp_Bench_clear 18 zm1 (fun zm2 => wp_Bench_doAll 18 zm2 (fun M => I 0 M zW0))))
    (hI : ∀ i M W', i + 6 ≤ L → I i M W' → zLaw (xs i &&& 63) (fun k => xs (i + k)) M W' (fun M' W'' => I (i + 6) M' W'')) : W p l e room_1 s m #[Value.ref b] below meth c s.heap [] 0 0 (lw_Z below #[Value.ref b] s) (entryFrame m ([Value.ref b] : List Value).toArray 4) := by
  obtain ⟨hx, hb, hr, hml, hown, hts, hX, hbl, hlocks, hgv⟩ := id C0
  have hz : ∀ u ∈ zU, u.before #[Value.ref b] s = true := fun u h => hts u (zU_tbl u h)
  obtain ⟨D, ar, hKo⟩ := st_K hts hgv
  have hl := lv_entry ([.ref b]) (n := 4) (Nat.le_of_ble_eq_true rfl)
  rw [lg_entry_eq]
  generalize (lg_sl ([.ref b]) ++ List.replicate (4 - (lg_sl ([.ref b])).length) Slot.unset).toArray = ls at hl ⊢
  have hl : lv_has ls 4 [(0, .ref b)] := hl
  generalize hsh : (fun (_ : Nat) (_ : Nat → Int32) => (Sum.inr (0, []) : va_E)) = sh0
  generalize hw1 : ((D, ar, sh0, s.heap.size, 0) : zWd) = w1
  have b1 : w1.2.2.2.1 = s.heap.size := by rw [← hw1]
  have K1 : zKo w1 s := by rw [← hw1]; exact hKo _ _ _ (Nat.le_refl _)
  have X1 : zX w1 p s m #[Value.ref b] c code "HandToHandLaw" := ⟨hx, hb, hown, hz, K1.1⟩
  have hG : zGo (zwn w1 sh0 0) s.heap zM0 s.heap [] := ⟨fun k q h => by simp [zws, zwn] at h, va_S.rf⟩
  refine zg_new (w := w1) (ci := 10) (C := "HandToHand") (T := TX10) (ty0 := tyX10) (fs := [.null, .null, .null, .null, .null, .null, .null, .null, .null, .null, .null, .null, .null, .int 0]) X1 hG (by omega) (by omega) rfl zin_10 tyX10_ok zu_18 zu_19 zu_1 (fun j hj => by rcases (show j = 0 ∨ j = 1 ∨ j = 2 ∨ j = 3 ∨ j = 4 ∨ j = 5 ∨ j = 6 ∨ j = 7 ∨ j = 8 ∨ j = 9 ∨ j = 10 ∨ j = 11 ∨ j = 12 ∨ j = 13 by omega) with rfl | rfl | rfl | rfl | rfl | rfl | rfl | rfl | rfl | rfl | rfl | rfl | rfl | rfl <;> rfl) (Nat.le_of_ble_eq_true rfl) (Nat.le_of_ble_eq_true rfl) dL_law_0 (fun H hG => ?_)
  refine lv_dup hx hb dL_law_3 rfl ?_
  refine zg_ctor (w := w1) (k := 0) (na := 0) (As := []) (rest := [.ref (w1.2.2.2.1 + 0)]) X1 K1 hml hl hG (by omega) (by omega) zu_20 zu_21 zu_1 zu_22 rfl (by decide +kernel) (i_Main (w := zwn w1 (zsk sh0 0 (.inr (10, [.null, .null, .null, .null, .null, .null, .null, .null, .null, .null, .null, .null, .null, .int 0]))) 1) (M := zM0) rfl rfl h0) rfl rfl ⟨Nat.le_of_ble_eq_true rfl, Nat.le_of_ble_eq_true rfl⟩ ⟨Nat.le_of_ble_eq_true rfl, Nat.le_of_ble_eq_true rfl⟩ rfl (Nat.le_of_ble_eq_true rfl) dL_law_4 (fun M H locs hI0 hG => ?_)
  refine zub (fun hub => ?_)
  have hlb := zlb hG.1 (by omega)
  have hsz : H.size = s.heap.size + 89 := by
    have hub' : H.size ≤ s.heap.size + (0 + 1 + 88) := hub
    have hlb' : w1.2.2.2.1 + 89 ≤ H.size := hlb
    omega
  refine va_forget (fun q hq => by
    have h := hG.2.2.2 q hq
    have h' : w1.2.2.2.1 ≤ q.base := h
    omega) ?_
  refine lv_astore_n (lv' := [(1, .ref (w1.2.2.2.1 + 0)), (0, .ref b)]) hx hb dL_law_7 rfl hl (Nat.le_of_ble_eq_true rfl) rfl (fun ls hl => ?_)
  generalize hw2 : ((D, ar, sh0, H.size, 0) : zWd) = w2
  have b2 : w2.2.2.2.1 = H.size := by rw [← hw2]
  have hS1 : va_S (fun q => w1.2.2.2.1 ≤ q) s.heap H _ := hG.2
  have K2 : zKo w2 s := by rw [← hw2]; exact hKo _ _ _ hS1.1
  have hF2 : s.heap.size ≤ H.size ∧ zFr w2 s H := ⟨hS1.1, fun a ha _ => hS1.2.1 a ha (fun z => by have z' : w1.2.2.2.1 ≤ a := z; omega)⟩
  have X2 : zX w2 p s m #[Value.ref b] c code "HandToHandLaw" := ⟨hx, hb, hown, hz, K2.1⟩
  have hG2 : zGo (zwn w2 sh0 0) H zM0 H [] := ⟨fun k q h => by simp [zws, zwn] at h, va_S.rf⟩
  refine zg_new (w := w2) (ci := 11) (C := "HandToHandModel") (T := TX11) (ty0 := tyX11) (fs := [.null, .int 0, .int 0, .int 0, .int 0, .int 0, .int 0, .int 0, .int 0, .null, .null, .null, .null, .int 0, .int 0, .int 0, .null, .null, .int 0, .int 0, .null, .null, .null, .null, .int 0, .null, .null, .null, .int 0, .int 0, .int 0, .int 0, .int 0, .int 0, .int 0, .null, .null, .null, .null, .int 0]) X2 hG2 (by omega) (by omega) rfl zin_11 tyX11_ok zu_1014 zu_1015 zu_12 (fun j hj => by rcases (show j = 0 ∨ j = 1 ∨ j = 2 ∨ j = 3 ∨ j = 4 ∨ j = 5 ∨ j = 6 ∨ j = 7 ∨ j = 8 ∨ j = 9 ∨ j = 10 ∨ j = 11 ∨ j = 12 ∨ j = 13 ∨ j = 14 ∨ j = 15 ∨ j = 16 ∨ j = 17 ∨ j = 18 ∨ j = 19 ∨ j = 20 ∨ j = 21 ∨ j = 22 ∨ j = 23 ∨ j = 24 ∨ j = 25 ∨ j = 26 ∨ j = 27 ∨ j = 28 ∨ j = 29 ∨ j = 30 ∨ j = 31 ∨ j = 32 ∨ j = 33 ∨ j = 34 ∨ j = 35 ∨ j = 36 ∨ j = 37 ∨ j = 38 ∨ j = 39 by omega) with rfl | rfl | rfl | rfl | rfl | rfl | rfl | rfl | rfl | rfl | rfl | rfl | rfl | rfl | rfl | rfl | rfl | rfl | rfl | rfl | rfl | rfl | rfl | rfl | rfl | rfl | rfl | rfl | rfl | rfl | rfl | rfl | rfl | rfl | rfl | rfl | rfl | rfl | rfl | rfl <;> rfl) (Nat.le_of_ble_eq_true rfl) (Nat.le_of_ble_eq_true rfl) dL_law_8 (fun H2 hG2 => ?_)
  refine lv_dup hx hb dL_law_11 rfl ?_
  refine zg_ctor (fr := 1) (lo := 12) (mc := 18) (ms := 14071) (w' := zwM w2) (post := fun M1 => M1 = zW0) (w := w2) (k := 0) (na := 0) (As := []) (rest := [.ref (w2.2.2.2.1 + 0)]) X2 K2 hml hl hG2 (by omega) (by omega) zu_1016 zu_1017 zu_12 zu_1018 rfl (by decide +kernel) (i_Model (w := zwn w2 (zsk sh0 0 (.inr (11, [.null, .int 0, .int 0, .int 0, .int 0, .int 0, .int 0, .int 0, .int 0, .null, .null, .null, .null, .int 0, .int 0, .int 0, .null, .null, .int 0, .int 0, .null, .null, .null, .null, .int 0, .null, .null, .null, .int 0, .int 0, .int 0, .int 0, .int 0, .int 0, .int 0, .null, .null, .null, .null, .int 0]))) 1) (M := zM0) rfl rfl) rfl rfl ⟨Nat.le_of_ble_eq_true rfl, Nat.le_of_ble_eq_true rfl⟩ ⟨Nat.le_of_ble_eq_true rfl, Nat.le_of_ble_eq_true rfl⟩ rfl (Nat.le_of_ble_eq_true rfl) dL_law_12 (fun W' H2 locs hW hG2 => ?_) hF2
  subst hW
  refine lv_astore_n (lv' := [(2, .ref (w2.2.2.2.1 + 0)), (1, .ref (w1.2.2.2.1 + 0)), (0, .ref b)]) hx hb dL_law_15 rfl hl (Nat.le_of_ble_eq_true rfl) rfl (fun ls hl => ?_)
  refine lv_iconst (v := 0) hx hb dL_law_16 (by decide) ?_
  refine lv_istore_n (lv' := [(3, .int 0), (2, .ref (w2.2.2.2.1 + 0)), (1, .ref (w1.2.2.2.1 + 0)), (0, .ref b)]) hx hb dL_law_17 rfl hl (Nat.le_of_ble_eq_true rfl) rfl (fun ls hl => ?_)
  have hS2 : va_S (fun q => w2.2.2.2.1 ≤ q) H H2 locs := hG2.2
  refine law_loop (w1 := zwC w1) (w2 := zwM w2) I hLN C0 X1 X2 (zi_main w1) (zi_model w2) ⟨b1, ?_⟩ hI (L + 1) 0 M zW0 H2 locs ls (by omega) (by omega) hI0 ⟨?_, hG2.1, ?_, ?_, ?_⟩ (lv_sub hl [3, 2, 1, 0] rfl)
  · show w1.2.2.2.1 + 89 ≤ w2.2.2.2.1
    omega
  · refine zP.kept hG.1 (fun k hk => ?_)
    have h1 := zP.at hG.1 hk
    refine hS2.2.1 _ h1 ?_
    intro z
    have z' : w2.2.2.2.1 ≤ _ := z
    exact absurd h1 (by rw [b2] at z'; exact Nat.not_lt.mpr z')
  · exact Nat.le_trans hS1.1 hS2.1
  · intro q hq hn
    rw [hS2.2.1 q (by omega) (fun z => by have z' : w2.2.2.2.1 ≤ q := z; omega)]
    exact hS1.2.1 q hq (fun z => hn (by have z' : w1.2.2.2.1 ≤ q := z; show s.heap.size ≤ q; omega))
  · intro q hq
    have h : w2.2.2.2.1 ≤ q.base := hS2.2.2 q hq
    show s.heap.size ≤ q.base
    omega
