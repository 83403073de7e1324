/-- a bench and what it is told, by themselves: told at 0, the bench at 5 -/
def vw (t b : Nat) (M : zMem) : zMem := fun i => if i < 5 then M (t + i) else if i = 5 then upd (M b) 0 0 else if i < 14 then M (b + (i - 5)) else fun _ => 0
theorem vw_t {t b i : Nat} {M : zMem} (h : i < 5) : vw t b M (0 + i) = M (t + i) := by
  unfold vw
  rw [if_pos (by omega), Nat.zero_add]
theorem vw_tt {t b : Nat} {M : zMem} : vw t b M 0 = M t := by
  unfold vw
  rw [if_pos (by omega), Nat.add_zero]
theorem vw_b {t b i : Nat} {M : zMem} (h0 : 0 < i) (h : i < 9) : vw t b M (5 + i) = M (b + i) := by
  unfold vw
  rw [if_neg (by omega), if_neg (by omega), if_pos (by omega)]
  exact congrArg M (by omega)
theorem vw_0 {t b j : Nat} {M : zMem} (h : j ≠ 0) : vw t b M 5 j = M b j := by
  unfold vw
  rw [if_neg (by omega), if_pos rfl, upd_ne h]
theorem vw_00 {t b : Nat} {M : zMem} : vw t b M 5 0 = 0 := by
  unfold vw
  rw [if_neg (by omega), if_pos rfl, upd_eq]
theorem vw_hi {t b i : Nat} {M : zMem} (h : 14 ≤ i) : vw t b M i = fun _ => 0 := by
  unfold vw
  rw [if_neg (by omega), if_neg (by omega), if_neg (by omega)]
theorem vw_ext {t b t' b' : Nat} {M M' : zMem} (h1 : ∀ i, i < 5 → M' (t' + i) = M (t + i)) (h2 : ∀ j, j ≠ 0 → M' b' j = M b j) (h3 : ∀ i, 1 ≤ i → i ≤ 8 → M' (b' + i) = M (b + i)) : vw t' b' M' = vw t b M := by
  funext a
  by_cases c1 : a < 5
  · have := h1 a c1
    have e1 := vw_t (t := t) (b := b) (M := M) c1
    have e2 := vw_t (t := t') (b := b') (M := M') c1
    rw [Nat.zero_add] at e1 e2
    rw [e1, e2, this]
  · by_cases c2 : a = 5
    · subst c2
      funext j
      by_cases c3 : j = 0
      · subst c3
        rw [vw_00, vw_00]
      · rw [vw_0 c3, vw_0 c3, h2 j c3]
    · by_cases c3 : a < 14
      · obtain ⟨i, rfl⟩ : ∃ i, a = 5 + i := ⟨a - 5, by omega⟩
        rw [vw_b (by omega) (by omega), vw_b (by omega) (by omega), h3 i (by omega) (by omega)]
      · rw [vw_hi (by omega), vw_hi (by omega)]
theorem vw_up {t b i j : Nat} {x : Int32} {M : zMem} (hd : t + 4 < b) (h0 : 0 < i) (h : i < 9) : vw t b (zup M (b + i) j x) = zup (vw t b M) (5 + i) j x := by
  funext a
  by_cases ha : a = 5 + i
  · subst ha
    rw [vw_b h0 h, zup_eq, zup_eq, vw_b h0 h]
  · rw [zup_ne ha]
    by_cases c1 : a < 5
    · have e1 := vw_t (t := t) (b := b) (M := M) c1
      have e2 := vw_t (t := t) (b := b) (M := zup M (b + i) j x) c1
      rw [Nat.zero_add] at e1 e2
      rw [e1, e2, zup_ne (by omega)]
    · by_cases c2 : a = 5
      · subst c2
        funext l
        by_cases c3 : l = 0
        · subst c3
          rw [vw_00, vw_00]
        · rw [vw_0 c3, vw_0 c3, zup_ne (by omega)]
      · by_cases c3 : a < 14
        · obtain ⟨q, rfl⟩ : ∃ q, a = 5 + q := ⟨a - 5, by omega⟩
          rw [vw_b (by omega) (by omega), vw_b (by omega) (by omega), zup_ne (by omega)]
        · rw [vw_hi (by omega), vw_hi (by omega)]
theorem vw_up0 {t b j : Nat} {x : Int32} {M : zMem} (hd : t + 4 < b) (h : j ≠ 0) : vw t b (zup M b j x) = zup (vw t b M) 5 j x := by
  funext a
  by_cases ha : a = 5
  · subst ha
    funext l
    by_cases c3 : l = 0
    · subst c3
      rw [vw_00, zup_eq, upd_ne (fun q => h q.symm), vw_00]
    · rw [vw_0 c3, zup_eq, zup_eq]
      by_cases c4 : l = j
      · subst c4
        rw [upd_eq, upd_eq]
      · rw [upd_ne c4, upd_ne c4, vw_0 c3]
  · rw [zup_ne ha]
    by_cases c1 : a < 5
    · have e1 := vw_t (t := t) (b := b) (M := M) c1
      have e2 := vw_t (t := t) (b := b) (M := zup M b j x) c1
      rw [Nat.zero_add] at e1 e2
      rw [e1, e2, zup_ne (by omega)]
    · by_cases c3 : a < 14
      · obtain ⟨q, rfl⟩ : ∃ q, a = 5 + q := ⟨a - 5, by omega⟩
        rw [vw_b (by omega) (by omega), vw_b (by omega) (by omega), zup_ne (by omega)]
      · rw [vw_hi (by omega), vw_hi (by omega)]
theorem vw_way {t b h : Nat} {fr : Int32} {M : zMem} : sp_way 5 h fr (vw t b M) = sp_way b h fr M := by
  unfold sp_way
  rw [vw_b (by omega) (by omega)]
theorem vw_wl {t b h : Nat} {fr : Int32} {M : zMem} : sp_wl 0 5 h fr (vw t b M) = sp_wl t b h fr M := by
  unfold sp_wl
  rw [vw_way, vw_tt]
theorem vw_goBack {t b h : Nat} {fr : Int32} {M : zMem} (hd : t + 4 < b) : vw t b (sp_goBack t b h fr M) = sp_goBack 0 5 h fr (vw t b M) := by
  unfold sp_goBack
  rw [vw_up hd (by omega) (by omega), vw_up hd (by omega) (by omega), vw_up hd (by omega) (by omega), vw_wl]
theorem vw_finish {t b h : Nat} {M : zMem} (hd : t + 4 < b) : vw t b (sp_finish t b h M) = sp_finish 0 5 h (vw t b M) := by
  unfold sp_finish
  simp (disch := omega) only [vw_b, vw_t, vw_tt, vw_0, apply_ite (vw t b), vw_up hd, vw_up0 hd, vw_goBack hd]
theorem vw_new {t b : Nat} {M : zMem} (hd : t + 4 < b) : vw t b (sp_new t b M) = sp_new 0 5 (vw t b M) := by
  unfold sp_new
  simp (disch := omega) only [vw_b, vw_t, vw_tt, vw_0, vw_up hd, vw_up0 hd]
theorem vw_note {t b g : Nat} {k w p u s : Int32} {M : zMem} (hd : t + 4 < 18) (hg : zlg b = some g) : vw t b (sp_note g k w p u s M) = vw t b M := by
  rcases zlg_cases b with e | ⟨e, rfl⟩
  · rw [e] at hg; cases hg
  · rw [e] at hg; cases hg
    exact vw_ext (fun i hi => e_note_ne (by omega) (by omega)) (fun j _ => by rw [e_note_ne (by omega) (by omega)]) (fun i _ hi => e_note_ne (by omega) (by omega))
theorem vw_take {t b h : Nat} {M : zMem} (hd : t + 4 < b) (hd2 : t + 4 < 18) : vw t b (sp_take t b h M) = sp_take 0 5 h (vw t b M) := by
  have e5 : zlg 5 = none := rfl
  unfold sp_take
  rw [e5]
  simp (disch := omega) only [vw_b, vw_t, vw_tt, vw_0]
  rcases zlg_cases b with e | ⟨e, hb⟩
  · rw [e]
    simp (disch := omega) only [vw_goBack hd, vw_up hd, vw_up0 hd]
  · rw [e]
    simp (disch := omega) only [vw_goBack hd, vw_note hd2 e, vw_up hd, vw_up0 hd]
theorem vw_can {t b h : Nat} {M : zMem} : sp_can 0 5 h (vw t b M) = sp_can t b h M := by
  unfold sp_can
  simp (disch := omega) only [vw_b, vw_t, vw_tt, vw_0]
theorem vw_ticks {t b h p : Nat} {ld : Int32} {M : zMem} : sp_ticks 0 h p ld (vw t b M) = sp_ticks t h p ld M := by
  unfold sp_ticks
  simp (disch := omega) only [vw_t, vw_tt]
theorem vw_may {t b h : Nat} {M : zMem} : sp_may 0 5 h (vw t b M) = sp_may t b h M := by
  unfold sp_may sp_held
  simp (disch := omega) only [vw_b, vw_t, vw_tt, vw_0]
theorem vw_start {t b h : Nat} {M : zMem} (hd : t + 4 < b) : vw t b (sp_start t b h M) = sp_start 0 5 h (vw t b M) := by
  unfold sp_start
  simp (disch := omega) only [vw_b, vw_ticks, vw_up hd]
theorem vw_hand {t b h : Nat} {M : zMem} (hd : t + 4 < b) (hd2 : t + 4 < 18) : sp_hand 0 5 h (vw t b M) = (sp_hand t b h M).map (vw t b) := by
  unfold sp_hand
  rw [vw_b (by omega) (by omega), vw_b (by omega) (by omega)]
  by_cases c1 : M (b + 2) h = 0
  · rw [if_pos c1, if_pos c1]
    by_cases c2 : M (b + 1) h = 3
    · rw [if_pos c2, if_pos c2, ← vw_finish hd]; rfl
    · rw [if_neg c2, if_neg c2]
      by_cases c3 : M (b + 1) h = 0
      · rw [if_pos c3, if_pos c3]
        by_cases c4 : h = 0
        · rw [if_pos c4, if_pos c4, ← vw_new hd]; rfl
        · rw [if_neg c4, if_neg c4]
          by_cases c5 : M (b + 1) (h - 1) = 2 ∧ sp_can t b (h - 1) M
          · rw [if_pos c5, if_pos ⟨c5.1, by rw [vw_can]; exact c5.2⟩, ← vw_take hd hd2]; rfl
          · rw [if_neg c5, if_neg (fun q => c5 ⟨q.1, by have := q.2; rw [vw_can] at this; exact this⟩)]; rfl
      · rw [if_neg c3, if_neg c3]
        by_cases c4 : M (b + 1) h = 2
        · rw [if_pos c4, if_pos c4]
          by_cases c5 : sp_may t b h M
          · rw [if_pos c5, if_pos (by rw [vw_may]; exact c5), ← vw_start hd]; rfl
          · rw [if_neg c5, if_neg (by rw [vw_may]; exact c5)]; rfl
        · rw [if_neg c4, if_neg c4]; rfl
  · rw [if_neg c1, if_neg c1]; rfl
theorem vw_rd {t b : Nat} (hd : t + 4 < b) (hd2 : t + 4 < 18) : ∀ h (s : Bool) (M : zMem), sp_rd 0 5 h s (vw t b M) = ((sp_rd t b h s M).1, vw t b (sp_rd t b h s M).2) := by
  intro h
  induction h with
  | zero => intro s M; rfl
  | succ h ih =>
    intro s M
    unfold sp_rd
    rw [vw_hand hd hd2]
    cases sp_hand t b h M with
    | none => exact ih s M
    | some M' => exact ih true M'
theorem vw_c {t b h : Nat} {M : zMem} : sp_c (vw t b M) 5 h = sp_c M b h := by
  unfold sp_c
  rw [vw_b (by omega) (by omega), vw_b (by omega) (by omega)]
theorem vw_rounds {t b H : Nat} (hd : t + 4 < b) (hd2 : t + 4 < 18) : ∀ f (M : zMem), vw t b (sp_rounds t b H f M) = sp_rounds 0 5 H f (vw t b M) := by
  intro f
  induction f with
  | zero => intro M; rfl
  | succ f ih =>
    intro M
    unfold sp_rounds
    rw [vw_rd hd hd2]
    by_cases c : (sp_rd t b H false M).1 = true
    · rw [if_pos c, if_pos c]; exact ih _
    · rw [if_neg c, if_neg c]
theorem vw_all {t b H : Nat} {M : zMem} (hd : t + 4 < b) (hd2 : t + 4 < 18) : vw t b (sp_all t b H M) = sp_all 0 5 H (vw t b M) := by
  unfold sp_all
  rw [vw_rounds hd hd2, sp_sum_eq (c := sp_c M b) (c' := sp_c (vw t b M) 5) H (fun j _ => vw_c)]
theorem vw_pass1 {t b h : Nat} {d : Int32} {M : zMem} (hd : t + 4 < b) : vw t b (sp_pass1 b h d M) = sp_pass1 5 h d (vw t b M) := by
  unfold sp_pass1
  simp (disch := omega) only [vw_b, apply_ite (vw t b), vw_up hd]
theorem vw_passes {t b : Nat} {d : Int32} (hd : t + 4 < b) : ∀ m h (M : zMem), vw t b (sp_passes b d m h M) = sp_passes 5 d m h (vw t b M) := by
  intro m
  induction m with
  | zero => intro h M; rfl
  | succ m ih =>
    intro h M
    unfold sp_passes
    rw [ih, vw_pass1 hd]
theorem vw_ev {t b H : Nat} {M : zMem} (hd : t + 4 < b) (hd2 : t + 4 < 18) : vw t b (sp_ev t b H M) = sp_ev 0 5 H (vw t b M) := by
  unfold sp_ev sp_pass
  rw [vw_all hd hd2, vw_passes hd, vw_up0 hd (by omega), vw_0 (by omega), vw_b (by omega) (by omega)]
theorem vw_cnt {t b i : Nat} {M : zMem} : sp_cnt 0 5 i (vw t b M) = sp_cnt t b i M := by
  unfold sp_cnt
  simp (disch := omega) only [vw_b, vw_t, vw_tt]
theorem vw_same {t b n H : Nat} {X Y : zMem} : sp_same 0 5 n H (vw t b X) (vw t b Y) = sp_same t b n H X Y := by
  unfold sp_same sp_eq1
  simp (disch := omega) only [vw_b, vw_0, vw_cnt]
