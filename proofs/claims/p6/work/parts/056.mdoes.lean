theorem sp_goBack_b {t b h j : Nat} {f : Int32} {M : zMem} : sp_goBack t b h f M b j = M b j := by
  unfold sp_goBack
  simp (disch := omega) only [zup_ne]
theorem mt_does {t b pg h n H L : Nat} {wh : Nat → Nat} {M W : zMem} {Q : Int32 → zMem → Prop} (ok : sp_ok M t b n H L) (r : mr W M pg t b n H L wh) (ho : pg = 1 → ∃ o, M b 4 = nI o ∧ o < 2147483000) (hh : h < H)
    (hQ : ∀ M', sp_hand t b h M = some M' → ∀ W', mr W' M' pg t b n H L wh → mfr pg W W' → Q 1 W') (hQ0 : sp_hand t b h M = none → Q 0 W) : wp_Model_does (nI pg) (nI h) W Q := by
  obtain ⟨ht, hd2, hb18, vt, hpl, hhd, hg⟩ := id ok
  obtain ⟨⟨n1, n8, H1, H5, L1, L6⟩, hn, hH, hL, -⟩ := id vt
  obtain ⟨hpg, rt, rw1, hrh, hrs, hrg⟩ := id r
  obtain ⟨b1, b2, b3, b4⟩ := id (hrh h hh)
  unfold wp_Model_does
  rw [show (0 : Int32) = nI 0 from rfl, show (1 : Int32) = nI 1 from rfl, e_at hpg (by omega) (by omega), if_neg (by omega), q_x0, Nat.add_zero, b1, e_at hpg (by omega) (by omega), if_neg (by omega), q_x0, b2]
  unfold sp_hand at hQ hQ0
  rcases hhd h hh with ⟨a1, a2, a3⟩ | ⟨a1, a2, a3⟩ | ⟨p, u, s, U, a1, a2, a3, a4, a5, a6, a7, a8, a9, a10⟩
  · rw [a1, a2] at hQ hQ0 ⊢
    rw [if_pos rfl, if_neg (by decide), if_pos rfl] at hQ hQ0
    refine ⟨fun _ => ?_, fun c => absurd c (by decide)⟩
    unfold wpJ_Model_does_31
    refine ⟨fun c => absurd rfl c, fun _ => ⟨fun c => ?_, fun c => ?_⟩⟩
    · have c0 : 0 < h := Nat.pos_of_ne_zero (fun q => c (by rw [q]; rfl))
      have c1 : ¬ h = 0 := by omega
      rw [if_neg c1] at hQ hQ0
      unfold wpJ_Model_does_123
      refine ⟨fun c => absurd rfl c, fun _ => ?_⟩
      refine mt_take ok r ho c0 hh a2 (fun q1 q2 W' r' f' => ⟨zbo_1, ?_⟩) (fun q => ⟨zbo_0, ?_⟩)
      · rw [if_pos ⟨q1, q2⟩] at hQ
        exact hQ _ rfl W' r' f'
      · rw [if_neg q] at hQ0
        exact hQ0 rfl
    · have c0 : h = 0 := (nI_eq (a := h) (b := 0) (by omega) (by omega)).mp c
      subst c0
      rw [if_pos rfl] at hQ
      exact mt_new ok r a2 (fun W' r' f' => hQ _ rfl W' r' f')
  · have c : ¬ M (b + 2) h = 0 := fun q => by rw [q] at a2; exact absurd a2 (by decide)
    rw [if_neg c] at hQ0
    rw [a1]
    refine ⟨fun _ => ?_, fun c => absurd c (by decide)⟩
    unfold wpJ_Model_does_31
    refine ⟨fun _ => ?_, fun c => absurd c (by decide)⟩
    unfold wpJ_Model_does_123
    exact ⟨fun _ => ⟨fun _ => hQ0 rfl, fun c => absurd c (by decide)⟩, fun c => absurd c (by decide)⟩
  · have bb : W 6 (96 * pg + 8 + 8 * h + 2) = nI (p + 4) ∧ W 6 (96 * pg + 8 + 8 * h + 3) = nI (u + 4) := by
      rcases b4 with ⟨q1, -⟩ | ⟨p', u', s', l1, l2, l3, q1, q2, q3, q4, q5, q6⟩
      · rw [a5] at q1
        have := q_neq (a := p) (c := 1) (by omega) (by omega) (by omega)
        exact absurd q1 (by rw [show (-1 : Int32) = -nI 1 from rfl, this]; exact fun h => h)
      · rw [a5] at q1; rw [a6] at q2
        have z1 : p = p' := (nI_eq (by omega) (by omega)).mp q1
        have z2 : u = u' := (nI_eq (by omega) (by omega)).mp q2
        subst z1; subst z2
        exact ⟨q4, q5⟩
    rcases a9 with ⟨a9, a11⟩ | ⟨a9, a11⟩
    · rw [a9, a11] at hQ hQ0 ⊢
      rw [if_pos rfl, if_neg (by decide), if_neg (by decide), if_pos rfl] at hQ hQ0
      refine ⟨fun _ => ?_, fun c => absurd c (by decide)⟩
      unfold wpJ_Model_does_31
      refine ⟨fun _ => ?_, fun c => absurd c (by decide)⟩
      unfold wpJ_Model_does_123
      refine ⟨fun _ => ⟨fun c => absurd rfl c, fun _ => ?_⟩, fun c => absurd c (by decide)⟩
      refine mt_mayBegin ok r hh a5 a1 a6 (by omega) bb.1 bb.2 (fun c => ⟨fun q => absurd q (by decide), fun _ => ?_⟩) (fun c => ⟨fun _ => ?_, fun q => absurd rfl q⟩)
      · rw [if_pos c] at hQ
        exact mt_start ok r hh a5 a1 bb.1 (fun W' r' f' => hQ _ rfl W' r' f')
      · rw [if_neg c] at hQ0
        exact hQ0 rfl
    · rw [a9]
      rw [a9] at hQ hQ0
      refine ⟨fun c => absurd rfl c, fun _ => ⟨fun c => ?_, fun c => ?_⟩⟩
      · rw [if_neg (show ¬ M (b + 2) h = 0 from c)] at hQ0
        unfold wpJ_Model_does_31
        refine ⟨fun _ => ?_, fun c => absurd c (by decide)⟩
        unfold wpJ_Model_does_123
        exact ⟨fun _ => ⟨fun _ => hQ0 rfl, fun c => absurd c (by decide)⟩, fun c => absurd c (by decide)⟩
      · rw [if_pos (show M (b + 2) h = 0 from c), if_pos rfl] at hQ
        exact mt_finish ok r hh a9 c (fun W' r' f' => hQ _ rfl W' r' f')
/-- handings over are told by no more than what is left to do -/
def sp_ob (M : zMem) (b H C : Nat) : Prop := ∃ o, M b 4 = nI o ∧ o + sp_sum (sp_c M b) H ≤ C
theorem sp_hand_o {t b n H L h C : Nat} {M M' : zMem} (ok : sp_ok M t b n H L) (hh : h < H) (e : sp_hand t b h M = some M') (ho : sp_ob M b H C) : sp_ob M' b H C := by
  obtain ⟨o, h1, h2⟩ := ho
  obtain ⟨-, hs⟩ := sp_step ok hh e
  have hk : M' b 4 = nI o ∨ M' b 4 = nI (o + 1) := by
    unfold sp_hand at e
    split at e
    · split at e
      · cases e
        left
        unfold sp_finish
        dsimp only
        split
        · simp (disch := omega) only [zup_ne]; exact h1
        · split
          · simp (disch := omega) only [zup_ne]; exact h1
          · rw [sp_goBack_b]
            simp (disch := omega) only [zup_ne, zup_eq, upd_ne]; exact h1
      · split at e
        · split at e
          · cases e
            left
            unfold sp_new
            simp (disch := omega) only [zup_ne, zup_eq, upd_ne]; exact h1
          · split at e
            · cases e
              right
              unfold sp_take
              rcases zlg_cases b with c | ⟨c, hb32⟩
              · rw [c]
                dsimp only
                rw [sp_goBack_b]
                simp (disch := omega) only [zup_eq, upd_eq]; rw [h1, nI_1]
              · rw [c]
                dsimp only
                rw [sp_goBack_b, e_note_ne (by omega) (by omega)]
                simp (disch := omega) only [zup_eq, upd_eq]; rw [h1, nI_1]
            · cases e
        · split at e
          · split at e
            · cases e
              left
              unfold sp_start
              simp (disch := omega) only [zup_ne]; exact h1
            · cases e
          · cases e
    · cases e
  rcases hk with hk | hk
  · exact ⟨o, hk, by omega⟩
  · exact ⟨o + 1, hk, by omega⟩
set_option maxHeartbeats 1000000 in
theorem mt_round {t b pg n H L : Nat} {wh : Nat → Nat} {Q : zMem → Prop} {K : Int32 → zMem → Prop} {C : Nat} (hC : C < 2147483000) : ∀ h (s : Bool) (M W : zMem), h ≤ H → sp_ok M t b n H L → mr W M pg t b n H L wh → (pg = 1 → sp_ob M b H C) → (∀ W', mr W' (sp_rd t b h s M).2 pg t b n H L wh → mfr pg W W' → (pg = 1 → sp_ob (sp_rd t b h s M).2 b H C) → K (if (sp_rd t b h s M).1 = true then 1 else 0) W') → zlp2 (wpB_Model_settle_15 (nI pg) K Q) (h + 1) (if s = true then 1 else 0) (nI h - 1) W := by
  intro h
  induction h with
  | zero =>
    intro s M W _ ok r ob hK
    show wpB_Model_settle_15 (nI pg) K Q _ _ _ _
    unfold wpB_Model_settle_15
    refine ⟨fun _ => hK W r mfr.rf ob, fun c => absurd (show nI 0 - 1 < 0 by decide) c⟩
  | succ h ih =>
    intro s M W hh ok r ob hK
    have H5 : H ≤ 5 := ok.2.2.2.1.1.2.2.2.1
    have e1 : nI (h + 1) - 1 = nI h := nI_pred h
    have e4 : nI h + (-1) = nI h - 1 := (Int32.sub_eq_add_neg _ _).symm
    have e5 : ¬ nI h < 0 := nI_pos (by omega)
    have ho : pg = 1 → ∃ o, M b 4 = nI o ∧ o < 2147483000 := fun q => by
      obtain ⟨o, o1, o2⟩ := ob q
      exact ⟨o, o1, by omega⟩
    rw [e1]
    show wpB_Model_settle_15 (nI pg) K Q (zlp2 (wpB_Model_settle_15 (nI pg) K Q) (h + 1)) _ _ _
    unfold wpB_Model_settle_15
    refine ⟨fun c => absurd c e5, fun _ => ?_⟩
    refine mt_does ok r ho (by omega) (fun M' e W' r' f' => ⟨fun _ x hx => ?_, fun c => absurd c (by decide)⟩) (fun e => ⟨fun c => absurd rfl c, fun _ => ?_⟩)
    · unfold sp_rd at hK
      rw [e] at hK
      obtain ⟨b1, b2⟩ := sp_step ok (by omega) e
      rw [hx, e4]
      exact ih true M' W' (by omega) b1 r' (fun q => sp_hand_o ok (by omega) e (ob q)) (fun W'' r'' f'' o'' => hK W'' r'' (f'.tr f'') o'')
    · unfold sp_rd at hK
      rw [e] at hK
      have hk := ih s M W (by omega) ok r ob hK
      refine ⟨fun c x hx => ?_, fun c x hx => ?_⟩
      · rw [hx, e4]
        cases s with
        | true => exact absurd c (by decide)
        | false => exact hk
      · rw [hx, e4]
        cases s with
        | true => exact hk
        | false => exact absurd rfl c
theorem sp_rounds_1 {t b H f : Nat} {M : zMem} : sp_rounds t b H (f + 1) M = if (sp_rd t b H false M).1 = true then sp_rounds t b H f (sp_rd t b H false M).2 else (sp_rd t b H false M).2 := rfl
/-- all that is done at a tick, the reference's loop -/
theorem mt_rounds {t b pg n H L : Nat} {wh : Nat → Nat} {M W : zMem} {Q K : zMem → Prop} {C : Nat} (hC : C < 2147483000) (ok : sp_ok M t b n H L) (r : mr W M pg t b n H L wh) (ob : pg = 1 → sp_ob M b H C)
    (hK : ∀ W', mr W' (sp_all t b H M) pg t b n H L wh → mfr pg W W' → (pg = 1 → sp_ob (sp_all t b H M) b H C) → K W') : ∃ k, zlp1 (wpB_Model_settle_2 (nI pg) K Q) k 1 W := by
  unfold sp_all at hK
  refine zlp1_r (fun m s W1 => mfr pg W W1 ∧ ((s = 1 ∧ ∃ M1, sp_ok M1 t b n H L ∧ mr W1 M1 pg t b n H L wh ∧ (pg = 1 → sp_ob M1 b H C) ∧ sp_sum (sp_c M1 b) H + 1 = m ∧ sp_rounds t b H m M1 = sp_rounds t b H (sp_sum (sp_c M b) H + 1) M) ∨ (s = 0 ∧ mr W1 (sp_rounds t b H (sp_sum (sp_c M b) H + 1) M) pg t b n H L wh ∧ (pg = 1 → sp_ob (sp_rounds t b H (sp_sum (sp_c M b) H + 1) M) b H C)))) ?_ ⟨mfr.rf, Or.inl ⟨rfl, M, ok, r, ob, rfl, rfl⟩⟩
  rintro m s W1 ⟨f1, hc⟩ J hJ
  unfold wpB_Model_settle_2
  rcases hc with ⟨rfl, M1, ok1, r1, ob1, hm, heq⟩ | ⟨rfl, r1, ob1⟩
  · refine ⟨fun c => absurd c (by decide), fun _ x hx => ?_⟩
    rw [r1.2.1.2.1] at hx
    subst hx
    refine ⟨H + 1, mt_round (s := false) hC H M1 W1 (Nat.le_refl _) ok1 r1 ob1 (fun W2 r2 f2 ob2 => ?_)⟩
    obtain ⟨a1, a2, a3, a4, a5, a6⟩ := sp_rd_ok H false M1 (Nat.le_refl _) ok1
    obtain ⟨f, rfl⟩ : ∃ f, m = f + 1 := ⟨m - 1, by omega⟩
    rw [sp_rounds_1] at heq
    by_cases c : (sp_rd t b H false M1).1 = true
    · rw [if_pos c] at heq ⊢
      rcases a3 c with q | q
      · cases q
      · refine hJ (sp_sum (sp_c (sp_rd t b H false M1).2 b) H + 1) _ _ (by omega) ⟨f1.tr f2, Or.inl ⟨rfl, _, a1, r2, ob2, rfl, ?_⟩⟩
        rw [sp_rounds_fuel _ f _ (by omega) (by omega) a1]
        exact heq
    · rw [if_neg c] at heq ⊢
      rw [heq] at r2 ob2
      exact hJ 0 _ _ (by omega) ⟨f1.tr f2, Or.inr ⟨rfl, r2, ob2⟩⟩
  · exact ⟨fun _ => hK W1 r1 f1 ob1, fun c => absurd rfl c⟩
