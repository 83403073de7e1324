theorem pf_some {f : Nat → Int32} : ∀ m p i, p ≤ i → i < p + m → 0 < f i → sp_pf f m p < p + m := by
  intro m
  induction m with
  | zero => intro p i h1 h2; omega
  | succ m ih =>
    intro p i h1 h2 h3
    unfold sp_pf
    split
    · omega
    · rename_i w
      have : p ≠ i := fun e => w (by rw [e]; exact h3)
      have := ih (p + 1) i (by omega) (by omega) h3
      omega
/-- what a text does to the class's memory when it is taken over, the bench apart -/
def tgd (M M' : zMem) : Prop := (∀ c, (c = 0 ∨ (6 ≤ c ∧ c < 11) ∨ c = 17 ∨ c = 27 ∨ (30 ≤ c ∧ c < 54) ∨ c = 55 ∨ c = 56 ∨ c = 57 ∨ c = 59 ∨ 61 ≤ c) → M' c = M c) ∧ M' 29 2 = 0 ∧ M' 54 0 = 0 ∧ M' 60 0 = 0 ∧ (∀ q, q < 120 → M' 58 q = 0) ∧ M' 28 0 = 0 ∧ M' 28 1 = 0
theorem DW_vt {n H L : Nat} {t1 t2 : Bool} {M' X : zMem} (d : DW 11 M' n H L t1 t2) (n0 : 0 < n) (H0 : 0 < H) (hu : ∀ s, s < 3 → ∃ p, p < n ∧ us 11 M' t1 t2 s p ≠ 0) (x1 : X 12 = M' 12) (x2 : X 13 = M' 13) (x4 : X 15 = M' 15) (x3 : ∀ s p, s < 3 → p < n → X 14 (s * 8 + p) = us 11 M' t1 t2 s p) (x5 : ∀ h, h < H → X 16 h = if M' 12 4 = 0 ∨ h = H - 1 then nI n else M' 16 h) : sp_vt X 12 n H L := by
  obtain ⟨⟨b1, b2, b3, b4⟩, en, eH, eL, w2, w3, w4, w5, hr, hU, hp, he, -⟩ := id d
  have y1 : X (12 + 1) = M' (11 + 2) := x2
  have y3 : X (12 + 3) = M' (11 + 4) := x4
  have y0 : X 12 = M' (11 + 1) := x1
  refine ⟨⟨n0, b1, H0, b2, b3, b4⟩, by rw [y0]; exact en, by rw [y0]; exact eH, by rw [y0]; exact eL, by rw [y0]; exact w2, by rw [y0]; exact w3, by rw [y0]; exact w4, by rw [y0]; exact w5, by rw [y1]; exact hr, fun s p hs hp => ?_, fun s hs => ?_, by rw [y3]; exact hp, fun h hh => ?_, ?_, fun w h hh => ?_⟩
  · obtain ⟨u, u6, eu⟩ := us_nI d hs hp
    exact ⟨u, u6, (x3 s p hs hp).trans eu⟩
  · obtain ⟨p, hp, hne⟩ := hu s hs
    obtain ⟨u, u6, eu⟩ := us_nI d hs hp
    have := pf_some (f := fun i => X (12 + 2) (s * 8 + i)) n 0 p (by omega) (by omega) (by
      show 0 < X 14 (s * 8 + p)
      rw [x3 s p hs hp, eu]
      rw [eu] at hne
      exact (nI_0lt (by omega)).mpr (Nat.pos_of_ne_zero (fun w => hne (by rw [w]; rfl))))
    omega
  · show ∃ e, e ≤ n ∧ X 16 h = nI e
    rw [x5 h hh]
    by_cases w : M' 12 4 = 0 ∨ h = H - 1
    · rw [if_pos w]; exact ⟨n, Nat.le_refl _, rfl⟩
    · rw [if_neg w]
      obtain ⟨e, e1, e2, e3⟩ := he (fun v => w (Or.inl v)) h (by omega)
      exact ⟨e, e2, e3⟩
  · show X 16 (H - 1) = nI n
    rw [x5 _ (by omega), if_pos (Or.inr rfl)]
  · show X 16 h = nI n
    rw [x5 h hh, if_pos (Or.inl (by rw [← x1]; exact w))]
theorem p_text {z : Nat} {M W : zMem} {P : zMem → zMem → Prop} (e5 : M 11 5 = nI z) (hz4 : z ≤ 400) (hz : W 0 1 = nI z) (ht : tpe (M 17) (W 1) z) (wt : wtb W) (h18 : ztc (M 18 0) = 1)
    (hA : ∀ M' W', (∀ c, (c < 11 ∨ 17 ≤ c) → M' c = M c) → M' 11 5 = 0 → W' 0 2 = M' 11 1 → tfr W W' → P M' W')
    (hB : ∀ n H L M' W', sp_vt M' 1 n H L → rt0 W' M' n H L → bst M' n H L → W' 0 24 = 1 → pr W' M' n H → M' 18 0 = M 18 0 → tgd M M' → (∀ j, j ≠ 2 → M' 29 j = M 29 j) → M' 11 5 = 0 → M' 11 1 = W' 0 2 → W' 0 1 = 0 → (∀ c, c ≠ 0 → c ≠ 4 → c ≠ 5 → c ≠ 6 → c ≠ 7 → c ≠ 8 → c ≠ 9 → W' c = W c) → W' 7 0 = 0 → W' 7 1 = 0 → (∀ j, 96 ≤ j → W' 6 j = W 6 j) → (∀ j, (20 ≤ j ∧ j ≠ 24) → W' 0 j = W 0 j) → P M' W') : wp_Main_text M (fun x M' => wp_Model_text W (fun y W' => x = y ∧ P M' W')) := by
  intro m1 f1 m2 f2 m3 f3 m4 f4 m5 f5 m6 f6 m7 f7 m8 f8 n1 g1 n2 g2 n3 g3 n4 g4 n5 g5 n6 g6 n7 g7
  refine ⟨vp_in_nI (n := 0) (by omega) (by omega), fun A gA => ?_⟩
  have gA' : A = zup n7 13 0 0 := gA
  have o8 : ∀ c, c ≠ 11 → m8 c = M c := fun c hc => by rw [f8, zup_ne hc, f7, zup_ne hc, f6, zup_ne hc, f5, zup_ne hc, f4, zup_ne hc, f3, zup_ne hc, f2, zup_ne hc, f1, zup_ne hc]
  have o7 : ∀ c, c ≠ 12 → n7 c = m8 c := fun c hc => by
    have g1' : n1 = zup m8 12 0 0 := g1
    have g2' : n2 = zup n1 12 1 0 := g2
    have g3' : n3 = zup n2 12 2 0 := g3
    have g4' : n4 = zup n3 12 3 0 := g4
    have g5' : n5 = zup n4 12 4 0 := g5
    have g6' : n6 = zup n5 12 5 0 := g6
    have g7' : n7 = zup n6 12 6 1 := g7
    rw [g7', zup_ne hc, g6', zup_ne hc, g5', zup_ne hc, g4', zup_ne hc, g3', zup_ne hc, g2', zup_ne hc, g1', zup_ne hc]
  have A12 : ∀ j, j ≤ 6 → A 12 j = if j = 6 then 1 else 0 := fun j hj => by
    have g1' : n1 = zup m8 12 0 0 := g1
    have g2' : n2 = zup n1 12 1 0 := g2
    have g3' : n3 = zup n2 12 2 0 := g3
    have g4' : n4 = zup n3 12 3 0 := g4
    have g5' : n5 = zup n4 12 4 0 := g5
    have g6' : n6 = zup n5 12 5 0 := g6
    have g7' : n7 = zup n6 12 6 1 := g7
    rw [gA', zup_ne (by omega), g7', zup_eq, g6', zup_eq, g5', zup_eq, g4', zup_eq, g3', zup_eq, g2', zup_eq, g1', zup_eq]
    rcases (show j = 0 ∨ j = 1 ∨ j = 2 ∨ j = 3 ∨ j = 4 ∨ j = 5 ∨ j = 6 by omega) with rfl | rfl | rfl | rfl | rfl | rfl | rfl <;> rfl
  have oA : ∀ c, c ≠ 11 → c ≠ 12 → c ≠ 13 → A c = M c := fun c c1 c2 c3 => by rw [gA', zup_ne c3, o7 c c2, o8 c c1]
  have A11 : A 11 = m8 11 := by rw [gA', zup_ne (by omega), o7 11 (by omega)]
  have s11 : ∀ j, j = 1 ∨ j = 2 ∨ j = 3 ∨ j = 6 ∨ j = 10 ∨ j = 11 ∨ j = 12 ∨ j = 13 → A 11 j = 0 := fun j hj => by
    rw [A11, f8, zup_eq, f7, zup_eq, f6, zup_eq, f5, zup_eq, f4, zup_eq, f3, zup_eq, f2, zup_eq, f1, zup_eq]
    rcases hj with rfl | rfl | rfl | rfl | rfl | rfl | rfl | rfl <;> rfl
  have s5 : A 11 5 = nI z := by
    rw [A11, f8, zup_eq, upd_ne (by omega), f7, zup_eq, upd_ne (by omega), f6, zup_eq, upd_ne (by omega), f5, zup_eq, upd_ne (by omega), f4, zup_eq, upd_ne (by omega), f3, zup_eq, upd_ne (by omega), f2, zup_eq, upd_ne (by omega), f1, zup_eq, upd_ne (by omega)]
    exact e5
  have A13 : A 13 0 = 0 := by rw [gA', zup_eq, upd_eq]
  have d0 : DA 11 z 0 A 0 0 1 false false := by
    refine ⟨⟨s5, hz4, 0, by omega, s11 6 (by omega)⟩, ⟨by omega, A12 0 (by omega), A12 1 (by omega), A12 6 (by omega), ⟨0, by omega, A12 2 (by omega)⟩, ⟨0, by omega, A12 3 (by omega)⟩, ⟨0, by omega, A12 4 (by omega)⟩, ⟨0, by omega, A12 5 (by omega)⟩, fun i hi => ⟨0, by omega, by rw [show i = 0 by omega]; exact A13⟩, fun s p _ hp => absurd hp (by omega), fun h p hh => absurd hh (by omega), fun _ h hh => absurd hh (by omega), s11 11 (by omega), fun _ => ⟨rfl, rfl, rfl, s11 13 (by omega)⟩, fun w => absurd (s11 12 (by omega)) w, fun _ => A12 4 (by omega)⟩, ⟨false, false, false, false, s11 10 (by omega), fun _ => rfl⟩⟩
  have fA : ∀ X : zMem, lf 11 A X → ∀ c, (c < 11 ∨ 17 ≤ c) → X c = M c := fun X f c hc => by
    rw [f c (by omega)]; exact oA c (by omega) (by omega) (by omega)
  have lfA : ∀ X, rAl 11 z 401 A X → lf 11 A X := by
    have go : ∀ f Y X, rAl 11 z f Y X → lf 11 Y X := by
      intro f
      induction f with
      | zero => intro Y X h; exact absurd h (fun h => h)
      | succ f ih =>
        rintro Y X ⟨b1, M1, t, h⟩
        have g1 := (gd_tkn _ _ _ t).1
        rcases h with ⟨-, rfl⟩ | ⟨-, -, rfl⟩ | ⟨-, -, n', H', b2, M2, -, -, -, -, hL, h2⟩
        · exact g1
        · exact g1
        · have g2 := (gd_rLi _ _ _ hL).1
          rcases h2 with ⟨-, rfl⟩ | ⟨-, h2⟩
          · exact g1.tr g2
          · exact (g1.tr g2).tr (ih _ _ h2)
    intro X h
    exact go _ _ _ h
  have tA : tpe (A 17) (W 1) z := by rw [oA 17 (by omega) (by omega) (by omega)]; exact ht
  refine xt_lines d0 (fun X hR => ?_)
  have lX := lfA X hR
  -- a fault is answered the same
  have bad : ∀ (Y : zMem) (c : Int32) (v : Int32), lf 11 A Y → Y 11 1 = c → Y 11 2 = v → ∀ M3, M3 = zup Y 11 5 0 → ∀ W', tfr W W' → W' 0 2 = c → ((-10) - M3 11 2 = -10 - v) ∧ P M3 W' := fun Y c v lY y1 y2 M3 e3 W' t w2 => by
    refine ⟨by rw [e3, zup_eq, upd_ne (by omega), y2], hA M3 W' (fun c hc => by rw [e3, zup_ne (by omega)]; exact fA Y lY c hc) (by rw [e3, zup_eq, upd_eq]) (by rw [e3, zup_eq, upd_ne (by omega), y1, w2]) t⟩
  refine ⟨fun x1 M3 e3 => ⟨fun w => absurd rfl w, fun _ => ?_⟩, fun x1 => ?_⟩
  · refine mt_text d0 (s11 3 (by omega)) (s11 1 (by omega)) (s11 6 (by omega)) (s11 10 (by omega)) (s11 11 (by omega)) (s11 13 (by omega)) A12 A13 hz hz4 tA wt hR (fun _ W' t w2 => bad X _ _ lX rfl rfl M3 e3 W' t w2) (fun w => absurd w x1) (fun w => absurd w x1) (fun w => absurd w x1)
  · obtain ⟨n, H, L, t1, t2, dX⟩ := DA_al _ _ _ _ _ _ _ _ hR d0 x1
    have un : ∀ {n' H' L' u1 u2}, DW 11 X n' H' L' u1 u2 → n = n' ∧ H = H' ∧ L = L' ∧ t1 = u1 ∧ t2 = u2 := fun d' => DW_un dX.2.1 d'
    refine xt_complete dX.2.1 dX.1.1 (fun c6 => ⟨fun _ M3 e3 => ⟨fun w => absurd rfl w, fun _ => ?_⟩, fun w => absurd rfl w⟩) (fun n0 H0 c7 Y lY y1 y2 yo => ⟨fun _ M3 e3 => ⟨fun w => absurd rfl w, fun _ => ?_⟩, fun w => absurd rfl w⟩) (fun n0 H0 hu Y lY yk yk1 yk2 yk4 yu ye => ⟨fun w => absurd w (by decide), fun _ M3 e3 => ⟨fun _ => ?_, fun w => absurd w (by decide)⟩⟩)
    · refine mt_text d0 (s11 3 (by omega)) (s11 1 (by omega)) (s11 6 (by omega)) (s11 10 (by omega)) (s11 11 (by omega)) (s11 13 (by omega)) A12 A13 hz hz4 tA wt hR (fun w => absurd x1 w) (fun _ n' H' L' u1 u2 d' c W' t w2 => bad _ 6 (nI z) (lX.tr ((lf.up (by omega) (by omega)).tr (lf.up (by omega) (by omega)))) (by rw [zup_eq, upd_ne (by omega), zup_eq, upd_eq]) (by rw [zup_eq, upd_eq]) M3 e3 W' t w2) (fun _ n' H' L' u1 u2 d' n0 H0 _ => ?_) (fun _ n' H' L' u1 u2 d' n0 H0 _ => ?_)
      · obtain ⟨i1, i2, -⟩ := un d'
        omega
      · obtain ⟨i1, i2, -⟩ := un d'
        omega
    · refine mt_text d0 (s11 3 (by omega)) (s11 1 (by omega)) (s11 6 (by omega)) (s11 10 (by omega)) (s11 11 (by omega)) (s11 13 (by omega)) A12 A13 hz hz4 tA wt hR (fun w => absurd x1 w) (fun _ n' H' L' u1 u2 d' c => ?_) (fun _ n' H' L' u1 u2 d' _ _ _ W' t w2 => bad Y 7 (nI z) (lX.tr lY) y1 y2 M3 e3 W' t w2) (fun _ n' H' L' u1 u2 d' _ _ hu => ?_)
      · obtain ⟨i1, i2, -⟩ := un d'
        omega
      · obtain ⟨i1, i2, i3, i4, i5⟩ := un d'
        subst i1 i2 i3 i4 i5
        obtain ⟨s, hs, hs2⟩ := c7
        obtain ⟨p, hp, hp2⟩ := hu s hs
        exact absurd (hs2 p hp) hp2
    · -- taken over
      have M3c : ∀ c, c ≠ 11 → M3 c = Y c := fun c hc => by rw [e3, zup_ne hc]
      have vt12 : sp_vt M3 12 n H L := DW_vt (X := M3) dX.2.1 n0 H0 hu (by rw [M3c 12 (by omega)]; exact yk1) (by rw [M3c 13 (by omega)]; exact yk2) (by rw [M3c 15 (by omega)]; exact yk4) (fun s p hs hp => by rw [M3c 14 (by omega)]; exact yu s p hs hp) (fun h hh => by rw [M3c 16 (by omega)]; exact ye h hh)
      refine xt_copyFrom (k := 1) (t := 12) (by omega) (fun M4 td4 o4 => ?_)
      have vt1 : sp_vt M4 1 n H L := vt12.copy td4
      have fM4 : ∀ c, (c = 0 ∨ (6 ≤ c ∧ c < 11) ∨ 17 ≤ c) → M4 c = M c := fun c hc => by rw [o4 c (by omega), M3c c (by omega)]; exact fA Y (lX.tr lY) c (by omega)
      have h18' : M4 18 0 = M 18 0 := by rw [fM4 18 (by omega)]
      refine xt_clear (fun Mc hc => ?_)
      have ok := sp_ok_clear hc (by rw [h18']; exact h18) (by omega) (by omega) vt1 (fun g hg => by rw [zlg_18] at hg; cases hg)
      refine xt_doAll ok ?_
      obtain ⟨ok2, fr2, hs2⟩ := sp_all_ok ok
      have ek : ∀ k, (k < 18 ∨ 27 ≤ k) → sp_all 1 18 H Mc k = M4 k := fun k hk => by
        rw [fr2.1 k (by omega) (fun q => absurd q (by omega))]
        exact hc.2.2.2.2.2.2.2.2.2 k (by omega)
      have e180 : sp_all 1 18 H Mc 18 0 = M 18 0 := by rw [fr2.2, hc.2.2.2.2.1, h18']
      generalize hN : sp_all 1 18 H Mc = N at ok2 hs2 ek e180
      refine zlp1_r (fun m x N' => ∃ i, x = nI i ∧ i ≤ 2 ∧ m = 2 - i ∧ (∀ c, c ≠ 28 → N' c = N c) ∧ ∀ j, j < i → N' 28 j = 0) ?_ (n := 2) ⟨0, rfl, by omega, rfl, fun _ _ => rfl, fun j hj => absurd hj (by omega)⟩
      rintro m x N' ⟨i, rfl, hi, rfl, u1, u2⟩ J hJ
      unfold wpB_Main_text_61
      refine ⟨fun c => ?_, fun c => ?_⟩
      · have i2 : 2 ≤ i := (nI_leI (a := 2) (by omega) (by omega)).mp c
        unfold wp_Main_forgetAnswers
        intro A2 b2 A3 b3 A4 b4
        refine xt_forget (fun A5 q1 q2 => ?_)
        have cA : ∀ c, c ≠ 28 → c ≠ 29 → c ≠ 54 → c ≠ 58 → c ≠ 60 → A5 c = N c := fun c c1 c2 c3 c4 c5 => by rw [q2 c c4, b4, zup_ne c5, b3, zup_ne c3, b2, zup_ne c2]; exact u1 c c1
        have A511 : ∀ j, j ≠ 5 → A5 11 j = X 11 j := fun j hj => by rw [cA 11 (by omega) (by omega) (by omega) (by omega) (by omega), ek 11 (by omega), o4 11 (by omega), e3, zup_eq, upd_ne hj]; exact congrFun yk j
        have tg : tgd M A5 := by
          refine ⟨fun c hc => ?_, ?_, ?_, ?_, q1, ?_, ?_⟩
          · rw [cA c (by omega) (by omega) (by omega) (by omega) (by omega), ek c (by omega)]; exact fM4 c (by omega)
          · rw [q2 29 (by omega), b4, zup_ne (by omega), b3, zup_ne (by omega), b2, zup_eq, upd_eq]
          · rw [q2 54 (by omega), b4, zup_ne (by omega), b3, zup_eq, upd_eq]
          · rw [q2 60 (by omega), b4, zup_eq, upd_eq]
          · rw [q2 28 (by omega), b4, zup_ne (by omega), b3, zup_ne (by omega), b2, zup_ne (by omega)]; exact u2 0 (by omega)
          · rw [q2 28 (by omega), b4, zup_ne (by omega), b3, zup_ne (by omega), b2, zup_ne (by omega)]; exact u2 1 (by omega)
        have t29 : ∀ j, j ≠ 2 → A5 29 j = M 29 j := fun j hj => by
          rw [q2 29 (by omega), b4, zup_ne (by omega), b3, zup_ne (by omega), b2, zup_eq, upd_ne hj, u1 29 (by omega), ek 29 (by omega), fM4 29 (by omega)]
        have told : ∀ i, i ≤ 4 → A5 (1 + i) = N (1 + i) := fun i hi => cA _ (by omega) (by omega) (by omega) (by omega) (by omega)
        have vtN : sp_vt N 1 n H L := ok2.2.2.2.1
        have vtA : sp_vt A5 1 n H L := vtN.moved told
        have bs : bsl A5 N := bsl.of (fun c c1 c2 => cA c (by omega) (by omega) (by omega) (by omega) (by omega))
        have bA : bst A5 n H L := bst_cong ⟨ok2, hs2⟩ vtA (told 0 (by omega)) (told 2 (by omega)) (told 4 (by omega)) (by rw [cA 18 (by omega) (by omega) (by omega) (by omega) (by omega), e180]; exact h18) bs
        have e511 : A5 11 5 = 0 := by rw [cA 11 (by omega) (by omega) (by omega) (by omega) (by omega), ek 11 (by omega), o4 11 (by omega), e3, zup_eq, upd_eq]
        refine mt_text d0 (s11 3 (by omega)) (s11 1 (by omega)) (s11 6 (by omega)) (s11 10 (by omega)) (s11 11 (by omega)) (s11 13 (by omega)) A12 A13 hz hz4 tA wt hR (fun w => absurd x1 w) (fun _ n' H' L' u1 u2 d' c => ?_) (fun _ n' H' L' u1 u2 d' _ _ c7 => ?_) (fun _ n' H' L' u1' u2' d' _ _ _ W1 w1 w2 w3 w4 v0 v1 v2 v3 v4 => ?_)
        · obtain ⟨i1, i2, -⟩ := un d'
          omega
        · obtain ⟨i1, i2, i3, i4, i5⟩ := un d'
          subst i1 i2 i3 i4 i5
          obtain ⟨s, hs, hs2⟩ := c7
          obtain ⟨p, hp, hp2⟩ := hu s hs
          exact absurd (hs2 p hp) hp2
        · obtain ⟨i1, i2, i3, i4, i5⟩ := un d'
          subst i1 i2 i3 i4 i5
          have H5 : H ≤ 5 := vtA.1.2.2.2.1
          have n8 : n ≤ 8 := vtA.1.2.1
          have L6 : L ≤ 6 := vtA.1.2.2.2.2.2
          obtain ⟨d0', d1', d2', d3', d4'⟩ := td4
          -- what is told, on both sides
          have m12 : ∀ j, j ≤ 6 → M4 1 j = X 12 j := fun j hj => by rw [d0' j hj, M3c 12 (by omega)]; exact congrFun yk1 j
          have rN4 : rt0 W1 M4 n H L := by
            refine ⟨by rw [v0 0 (by omega)]; exact dX.2.1.2.1, by rw [v0 1 (by omega)]; exact dX.2.1.2.2.1, by rw [v0 2 (by omega), m12 2 (by omega)], by rw [v0 3 (by omega), m12 3 (by omega)], by rw [v0 4 (by omega), m12 4 (by omega)], by rw [v0 5 (by omega), m12 5 (by omega)], by rw [v0 6 (by omega)]; exact dX.2.1.2.2.2.1, fun i hi => ?_, fun s p hs hp => ?_, fun h p hh hp => ?_, fun h hh => ?_⟩
            · have e : M4 2 i = M3 13 i := d1' i (by omega)
              rw [v1 i hi, e, M3c 13 (by omega)]; exact (congrFun yk2 i).symm
            · have e : M4 3 (s * 8 + p) = M3 14 (s * 8 + p) := d2' _ (by omega)
              rw [v2 s p hs hp, e, M3c 14 (by omega)]; exact (yu s p hs hp).symm
            · have e : M4 4 (h * 8 + p) = M3 15 (h * 8 + p) := d3' _ (by omega)
              rw [v3 h p hh hp, e, M3c 15 (by omega)]; exact (congrFun yk4 _).symm
            · have e : M4 5 h = M3 16 h := d4' h (by omega)
              have y := ye h hh
              have y' : Y 16 h = if X 12 4 = 0 ∨ h = H - 1 then nI n else X 16 h := y
              rw [e, M3c 16 (by omega), y', m12 4 (by omega)]
              by_cases w : X 12 4 = 0 ∨ h = H - 1
              · rw [if_pos w, if_pos (Or.symm w)]
              · rw [if_neg w, if_neg (fun v => w (Or.symm v))]
                exact (v4 (fun v => w (Or.inl v)) h (by omega)).symm
          have rN : rt0 W1 N n H L := rN4.moved rfl (fun i hi => ek _ (by omega))
          show wp_Model_clear (nI 0) W1 _
          refine mt_clear (by omega) (fun W2 a1 a2 a3 => ?_)
          intro W3 e3'
          have x4 : W3 4 = W1 4 := by rw [e3', zup_ne (by omega), a3 4 (by omega)]
          have x6 : W3 6 = W2 6 := by rw [e3', zup_ne (by omega)]
          refine mt_awake (M := N) (n := n) (H := H) (L := L) vtN (rN.moved x4 (fun _ _ => rfl)) (Or.inr ⟨by rw [e3', zup_eq, upd_eq], fun j hj => ?_, M4, Mc, hc, ok, hN.symm⟩) (fun W4 h24 hp f4 => ⟨vp_in_nI (n := 0) (by omega) (by omega), fun W5 e5' => ⟨vp_in_nI (n := 1) (by omega) (by omega), fun W6 e6' => ⟨?_, ?_⟩⟩⟩)
          · rw [x6, ← a1 j hj]; congr 1; omega
          · exact A511 3 (by omega)
          · have e5'' : W5 = zup W4 7 0 0 := e5'
            have e6'' : W6 = zup W5 7 1 0 := e6'
            have c6 : ∀ c, c ≠ 7 → W6 c = W4 c := fun c hc => by rw [e6'', zup_ne hc, e5'', zup_ne hc]
            have j0 : ∀ j, j ≠ 18 → j ≠ 19 → j ≠ 24 → W6 0 j = W1 0 j := fun j q1 q2 q3 => by rw [c6 0 (by omega), f4.2.1 j q1 q2 q3, e3', zup_eq, upd_ne q3, a3 0 (by omega)]
            refine hB n H L A5 W6 vtA ((rN.moved (W' := W6) ?_ told)) bA (by rw [c6 0 (by omega)]; exact h24) (pr_cong H5 n8 (hp.moved H5 n8 (fun j _ => by rw [c6 6 (by omega)])) bs) (by rw [cA 18 (by omega) (by omega) (by omega) (by omega) (by omega), e180]) tg t29 e511 ?_ ?_ (fun c c0 c4 c5 c6' c7 c8 c9 => ?_) (by rw [e6'', zup_eq, upd_ne (by omega), e5'', zup_eq, upd_eq]) (by rw [e6'', zup_eq, upd_eq]) (fun j hj => ?_) (fun j hj => ?_)
            · rw [c6 4 (by omega), f4.1 4 (by omega) (by omega) (by omega) (by omega)]; exact x4
            · rw [A511 1 (by omega), j0 2 (by omega) (by omega) (by omega), x1, w3]
            · rw [j0 1 (by omega) (by omega) (by omega)]; exact w2
            · rw [c6 c c7, f4.1 c c0 c6' c8 c9, e3', zup_ne c0, a3 c c6']; exact w1 c c0 c4 c5
            · rw [c6 6 (by omega), f4.2.2 j hj, x6, a2 j (by omega)]
              exact congrFun (w1 6 (by omega) (by omega) (by omega)) j
            · rw [j0 j (by omega) (by omega) (by omega)]; exact w4 j (by omega)
      · have i2 : i < 2 := by
          rcases Nat.lt_or_ge i 2 with w | w
          · exact w
          · exact absurd ((nI_leI (a := 2) (by omega) (by omega)).mpr w) c
        refine ⟨vp_in_nI i2 (by omega), fun N2 e2 y ey => ?_⟩
        rw [ey, nI_1]
        rw [q_ix (by omega)] at e2
        have e2' : N2 = zup N' 28 i 0 := e2
        refine hJ (2 - (i + 1)) _ _ (by omega) ⟨i + 1, rfl, by omega, rfl, fun c hc => by rw [e2', zup_ne hc]; exact u1 c hc, fun j hj => ?_⟩
        rw [e2', zup_eq]
        by_cases w : j = i
        · rw [w, upd_eq]
        · rw [upd_ne w]; exact u2 j (by omega)
theorem nar8 (x : Int32) : (x <<< ((24 : Int32) &&& 31)) >>> ((24 : Int32) &&& 31) = x.toInt8.toInt32 := by
  rw [show ((24 : Int32) &&& 31) = 24 from by decide]
  refine Int32.toBitVec_inj.1 (BitVec.eq_of_toInt_eq ?_)
  show (BitVec.sshiftRight' (x.toBitVec <<< ((24 : Int32).toBitVec.smod 32)) ((24 : Int32).toBitVec.smod 32)).toInt = ((x.toBitVec.signExtend 8).signExtend 32).toInt
  rw [show ((24 : Int32).toBitVec.smod 32) = 24#32 from by decide, BitVec.toInt_sshiftRight', BitVec.toInt_signExtend_of_le (by omega), BitVec.toInt_signExtend, BitVec.shiftLeft_eq', BitVec.toInt_shiftLeft, BitVec.toInt_eq_toNat_bmod, show (24#32 : BitVec 32).toNat = 24 from rfl, Int.shiftRight_eq_div_pow, Nat.shiftLeft_eq]
  generalize x.toBitVec.toNat = v
  unfold Int.bmod
  simp only [Nat.reducePow, Nat.reduceLeDiff, Nat.min_eq_left]
  omega
theorem nar16 (x : Int32) : (x <<< ((16 : Int32) &&& 31)) >>> ((16 : Int32) &&& 31) = x.toInt16.toInt32 := by
  rw [show ((16 : Int32) &&& 31) = 16 from by decide]
  refine Int32.toBitVec_inj.1 (BitVec.eq_of_toInt_eq ?_)
  show (BitVec.sshiftRight' (x.toBitVec <<< ((16 : Int32).toBitVec.smod 32)) ((16 : Int32).toBitVec.smod 32)).toInt = ((x.toBitVec.signExtend 16).signExtend 32).toInt
  rw [show ((16 : Int32).toBitVec.smod 32) = 16#32 from by decide, BitVec.toInt_sshiftRight', BitVec.toInt_signExtend_of_le (by omega), BitVec.toInt_signExtend, BitVec.shiftLeft_eq', BitVec.toInt_shiftLeft, BitVec.toInt_eq_toNat_bmod, show (16#32 : BitVec 32).toNat = 16 from rfl, Int.shiftRight_eq_div_pow, Nat.shiftLeft_eq]
  generalize x.toBitVec.toNat = v
  unfold Int.bmod
  simp only [Nat.reducePow, Nat.reduceLeDiff, Nat.min_eq_left]
  omega
/-- a sheet is the same for both -/
def sht (M W : zMem) (i : Nat) : Prop := (M (81 + 2 * i) 0 = -1 ∧ M (81 + 2 * i) 1 = 0 ∧ W 16 i = -4) ∨ ∃ l z, l < 3 ∧ z ≤ 40 ∧ M (81 + 2 * i) 0 = nI l ∧ W 16 i = nI l ∧ M (81 + 2 * i) 1 = nI z ∧ W 17 i = nI z ∧ ∀ j, j < z → W 18 (40 * i + j) = M (81 + 2 * i + 1) j
def shs (M W : zMem) : Prop := ∀ i, i < 4 → sht M W i
theorem lt_pred {j z : Nat} (hj : j < 2147483648) (hz : z ≤ 40) : nI j ≤ nI z - 1 ↔ j < z := by
  rcases Nat.eq_zero_or_pos z with h | h
  · subst h
    refine ⟨fun w => ?_, fun w => absurd w (by omega)⟩
    have : (0 : Int32) ≤ -1 := Int32.le_trans (nI_pos' hj) w
    exact absurd this (by decide)
  · have e : nI z - 1 = nI (z - 1) := q_sub (a := z) (b := 1) h
    rw [e, nI_leI hj (by omega)]
    omega
theorem p_lay {M W : zMem} {a1 a2 a3 : Int32} {P : zMem → zMem → Prop} (hs : shs M W) (hP0 : P M W) (hP : ∀ i j v, i < 4 → j < 40 → P (zup M (81 + 2 * i + 1) j v) (zup W 18 (40 * i + j) v)) : wp_Main_lay a1 a2 a3 M (fun x M' => wp_Model_lay a1 a2 a3 W (fun y W' => x = y ∧ P M' W')) := by
  refine xt_isSheet (fun i hi ei => ⟨fun _ => ?_, fun q => absurd q (by decide)⟩) (fun nh => ⟨fun q => absurd rfl q, fun _ => in_no (hi := 3) rfl nh ⟨fun q => absurd rfl q, fun _ => ⟨rfl, hP0⟩⟩⟩)
  subst ei
  have v4 : vp_in (nI i) 4 := vp_in_nI (by omega) (by omega)
  refine ⟨v4, ?_⟩
  rw [q_ix (by omega)]
  rcases hs i hi with ⟨s0, -, w16⟩ | ⟨l, z, hl, hz, s0, w16, s1, w17, hc⟩
  · refine ⟨fun q => absurd s0 q, fun _ => in_yes (hi := 3) rfl (by omega) (by omega) ⟨fun _ => ⟨v4, ?_⟩, fun q => absurd q (by decide)⟩⟩
    rw [q_ix (by omega)]
    exact ⟨fun q => absurd w16 q, fun _ => ⟨rfl, hP0⟩⟩
  · have nm1 : ¬ nI l = -1 := fun w => absurd w (by rcases (show l = 0 ∨ l = 1 ∨ l = 2 by omega) with rfl | rfl | rfl <;> decide)
    have nm4 : ¬ nI l = -4 := fun w => absurd w (by rcases (show l = 0 ∨ l = 1 ∨ l = 2 by omega) with rfl | rfl | rfl <;> decide)
    refine ⟨fun _ => ?_, fun q => absurd (s0.symm.trans q) nm1⟩
    rw [s1]
    have ref : ∀ (K : Int32 → zMem → Prop), (¬ (0 ≤ a2 ∧ a2 ≤ nI z - 1) → K (-12) W) → (0 ≤ a2 → a2 ≤ nI z - 1 → vp_in (nI i) 4 ∧ (¬ (W 16 (ix (nI i))) = 0 → vp_in (nI i) 4 ∧ (¬ (W 16 (ix (nI i))) = 1 → vp_in ((40 * nI i) + a2) 160 ∧ ∀ zm5 : zMem, zm5 = zup W 18 (ix ((40 * nI i) + a2)) a3 → K 1 zm5) ∧ ((W 16 (ix (nI i))) = 1 → vp_in ((40 * nI i) + a2) 160 ∧ ∀ zm6 : zMem, zm6 = zup W 18 (ix ((40 * nI i) + a2)) ((a3 <<< (16 &&& 31)) >>> (16 &&& 31)) → K 1 zm6)) ∧ ((W 16 (ix (nI i))) = 0 → vp_in ((40 * nI i) + a2) 160 ∧ ∀ zm7 : zMem, zm7 = zup W 18 (ix ((40 * nI i) + a2)) ((a3 <<< (24 &&& 31)) >>> (24 &&& 31)) → K 1 zm7)) → wp_Model_lay (nI i) a2 a3 W K := fun K h0 h1 => by
      refine in_yes (hi := 3) rfl (by omega) (by omega) ⟨fun _ => ⟨v4, ?_⟩, fun q => absurd q (by decide)⟩
      have e16 : W 16 (ix (nI i)) = nI l := by rw [q_ix (by omega)]; exact w16
      have e17 : W 17 (ix (nI i)) = nI z := by rw [q_ix (by omega)]; exact w17
      refine ⟨fun _ => ⟨v4, ?_⟩, fun q => absurd (e16.symm.trans q) nm4⟩
      rw [e17]
      exact mt_in (lo' := 0) (hi' := nI z - 1) rfl rfl (fun c1 c2 => ⟨fun _ => h1 c1 c2, fun q => absurd q (by decide)⟩) (fun c => ⟨fun q => absurd rfl q, fun _ => h0 c⟩)
    refine ⟨fun c => ref _ (fun _ => ⟨rfl, hP0⟩) (fun q _ => absurd c (Int32.not_lt.mpr q)), fun c => ?_⟩
    obtain ⟨j, hj, rfl⟩ := nI_of c
    refine ⟨fun c2 => ?_, fun c2 => ref _ (fun _ => ⟨rfl, hP0⟩) (fun _ q => absurd ((nI_ltI (by omega) (by omega)).mpr ((lt_pred (by omega) hz).mp q)) c2)⟩
    have jz : j < z := (nI_ltI (by omega) (by omega)).mp c2
    have e40 : (40 : Int32) * nI i + nI j = nI (40 * i + j) := by rw [show (40 : Int32) = nI 40 from rfl, q_mul, q_add]
    have vc : vp_in (nI (40 * i + j)) 160 := vp_in_nI (by omega) (by omega)
    have vj : vp_in (nI j) 40 := vp_in_nI (by omega) (by omega)
    have no : ¬ ((0 : Int32) ≤ nI j ∧ nI j ≤ nI z - 1) → False := fun q => q ⟨nI_pos' (by omega), (lt_pred (by omega) hz).mpr jz⟩
    have e16 : W 16 (ix (nI i)) = nI l := by rw [q_ix (by omega)]; exact w16
    unfold wp_Sheet_put
    rw [s0, q_ix (by omega)]
    have fin : ∀ (v : Int32) (M' : zMem), M' = zup M (81 + 2 * i + 1) j v → (¬ (nI l) = 0 → (¬ (nI l) = 1 → v = a3) ∧ (nI l = 1 → v = a3.toInt16.toInt32)) → (nI l = 0 → v = a3.toInt8.toInt32) → wp_Model_lay (nI i) (nI j) a3 W (fun y W' => 1 = y ∧ P M' W') := fun v M' eM f1 f0 => by
      refine ref _ (fun q => absurd (no q) (fun h => h)) (fun _ _ => ?_)
      rw [e16, e40, q_ix (by omega)]
      have pp : ∀ W', W' = zup W 18 (40 * i + j) v → P M' W' := fun W' eW => by rw [eM, eW]; exact hP i j v hi (by omega)
      refine ⟨v4, fun c0 => ⟨v4, fun c1 => ⟨vc, fun W' eW => ⟨rfl, pp W' ?_⟩⟩, fun c1 => ⟨vc, fun W' eW => ⟨rfl, pp W' ?_⟩⟩⟩, fun c0 => ⟨vc, fun W' eW => ⟨rfl, pp W' ?_⟩⟩⟩
      · rw [eW, (f1 c0).1 c1]
      · rw [eW, (f1 c0).2 c1, nar16]
      · rw [eW, f0 c0, nar8]
    refine ⟨fun c0 => ⟨fun c1 => ⟨vj, fun M' eM => fin a3 M' eM (fun _ => ⟨fun _ => rfl, fun w => absurd w c1⟩) (fun w => absurd w c0)⟩, fun c1 => ⟨vj, fun M' eM => fin _ M' eM (fun _ => ⟨fun w => absurd c1 w, fun _ => rfl⟩) (fun w => absurd w c0)⟩⟩, fun c0 => ⟨vj, fun M' eM => fin _ M' eM (fun w => absurd c0 w) (fun _ => rfl)⟩⟩
theorem in_cell {a c Z : Nat} {W : zMem} {Q : Int32 → zMem → Prop} (ha : a < 2147483648) (hc : c ≤ 40) (hZ : Z ≤ 40) (h1 : a + c < Z → Q 1 W) (h0 : ¬ a + c < Z → Q 0 W) : wp_Model_in ((nI a).toInt64 + (nI c).toInt64) 0 ((nI Z - 1).toInt64) W Q := by
  rw [q_l64 ha, q_l64 (by omega), lN_add, e_in]
  rcases Nat.eq_zero_or_pos Z with w | w
  · subst w
    rw [if_neg]
    · exact h0 (by omega)
    · rintro ⟨u, v⟩
      have : (0 : Int64) ≤ (nI 0 - 1).toInt64 := Int64.le_trans u v
      exact absurd this (by decide)
  · rw [show nI Z - 1 = nI (Z - 1) from q_sub (a := Z) (b := 1) w, q_l64 (by omega), show (0 : Int64) = lN 0 from rfl]
    by_cases c' : a + c < Z
    · rw [if_pos ⟨(pk_lLE (by omega) (by omega)).mpr (by omega), (pk_lLE (by omega) (by omega)).mpr (by omega)⟩]; exact h1 c'
    · rw [if_neg (fun u => c' (by
        have := (pk_lLE (by omega) (by omega)).mp u.2
        omega))]; exact h0 c'
theorem dm_u {n r p c : Nat} (hp : p < n) (h : r * n + p = c) : c / n = r ∧ c % n = p := by
  subst h
  have n0 : 0 < n := by omega
  rw [Nat.mul_comm r n]
  exact ⟨by rw [Nat.mul_add_div n0, Nat.div_eq_of_lt hp, Nat.add_zero], by rw [Nat.mul_add_mod, Nat.mod_eq_of_lt hp]⟩
/-- a row of the sheet is of paces alone -/
def rgd (V : Nat → Int32) (n r : Nat) : Prop := ∀ p, p < n → 1 ≤ V (r * n + p) ∧ V (r * n + p) ≤ 9
theorem mw_copyR {i l n R a y z : Nat} {a3 f : Int32} {W : zMem} {Q : Int32 → zMem → Prop} (hi : i < 4) (n1 : 1 ≤ n) (n8 : n ≤ 8) (e0 : W 4 0 = nI n) (hy : y + R ≤ 5) (ha : 0 < R → a3 = nI a ∧ a + n * R ≤ 40)
    (hQ : ∀ W', (∀ r p, r < R → p < n → W' 4 (60 + 8 * (y + r) + p) = W 18 (40 * i + a + (r * n + p))) → (∀ j, (∀ r p, r < R → p < n → j ≠ 60 + 8 * (y + r) + p) → W' 4 j = W 4 j) → (∀ c, c ≠ 0 → c ≠ 4 → W' c = W c) → W' 0 39 = f → (∀ j, j ≠ 39 → W' 0 j = W 0 j) → Q (nI R) W') : ∃ k, zlp1 (wpB_Model_read_234 (nI i) (nI l) a3 (nI y) (nI z) f (nI R) Q) k 0 W := by
  have nR : n * R ≤ 40 := by
    have := Nat.mul_le_mul n8 (show R ≤ 5 by omega)
    omega
  refine zlp1_r (fun m x W' => ∃ c, x = nI c ∧ c ≤ n * R ∧ m = n * R - c ∧ (∀ r p, p < n → r * n + p < c → W' 4 (60 + 8 * (y + r) + p) = W 18 (40 * i + a + (r * n + p))) ∧ (∀ j, (∀ r p, p < n → r * n + p < c → j ≠ 60 + 8 * (y + r) + p) → W' 4 j = W 4 j) ∧ (∀ c, c ≠ 4 → W' c = W c)) ?_ (n := n * R) ⟨0, rfl, by omega, rfl, fun _ _ _ h => absurd h (by omega), fun _ _ => rfl, fun _ _ => rfl⟩
  rintro m x W' ⟨c, rfl, hc, rfl, g1, g2, g3⟩ J hJ
  unfold wpB_Model_read_234
  have w0 : W' 4 (ix 0) = nI n := by
    have : W' 4 (ix 0) = W 4 0 := g2 0 (fun r p _ _ => by omega)
    rw [this]; exact e0
  rw [w0, q_mul, pk_rem (by omega) (by omega) (by omega), pk_div (by omega) (by omega) (by omega)]
  have lt : ∀ r p, p < n → (r < R ↔ r * n + p < n * R) := fun r p hp => by
    constructor
    · intro h
      have := Nat.mul_le_mul_right n (show r + 1 ≤ R by omega)
      rw [Nat.succ_mul, Nat.mul_comm R n] at this
      omega
    · intro h
      rcases Nat.lt_or_ge r R with w | w
      · exact w
      · have := Nat.mul_le_mul_right n w
        rw [Nat.mul_comm R n] at this
        omega
  refine ⟨vp_in_nI (n := 0) (by omega) (by omega), fun c1 W2 e2 => ?_, fun c1 => ?_⟩
  · have hc2 : c = n * R := by
      have := (nI_leI (by omega) (by omega)).mp c1
      omega
    refine hQ W2 (fun r p hr hp => ?_) (fun j hj => ?_) (fun d d0 d4 => by rw [e2, zup_ne d0]; exact g3 d d4) (by rw [e2, zup_eq, upd_eq]) (fun j hj => by rw [e2, zup_eq, upd_ne hj, g3 0 (by omega)])
    · rw [e2, zup_ne (by omega)]
      exact g1 r p hp (by rw [hc2]; exact (lt r p hp).mp hr)
    · rw [e2, zup_ne (by omega)]
      exact g2 j (fun r p hp hlt => hj r p ((lt r p hp).mpr (by rw [← hc2]; exact hlt)) hp)
  · have hc2 : c < n * R := by
      rcases Nat.lt_or_ge c (n * R) with w | w
      · exact w
      · exact absurd ((nI_leI (by omega) (by omega)).mpr w) c1
    have R0 : 0 < R := by
      rcases Nat.eq_zero_or_pos R with w | w
      · rw [w, Nat.mul_zero] at hc2; omega
      · exact w
    obtain ⟨ea, hab⟩ := ha R0
    have hm := Nat.mod_lt c (show 0 < n by omega)
    have hdm : c / n * n + c % n = c := by rw [Nat.mul_comm]; exact Nat.div_add_mod c n
    have hr : c / n < R := (lt (c / n) (c % n) hm).mpr (by omega)
    generalize hr0 : c / n = r0 at hdm hr
    generalize hp0 : c % n = p0 at hdm hm
    have e1 : (40 : Int32) * nI i + a3 + nI c = nI (40 * i + a + c) := by rw [ea, show (40 : Int32) = nI 40 from rfl, q_mul, q_add, q_add]
    have e2 : (60 : Int32) + 8 * (nI y + nI r0) + nI p0 = nI (60 + 8 * (y + r0) + p0) := by rw [show (8 : Int32) = nI 8 from rfl, show (60 : Int32) = nI 60 from rfl, q_add, q_mul, q_add, q_add]
    rw [e1, e2, q_ix (by omega), q_ix (by omega)]
    have nn : ¬ nI n = 0 := nI_ne0 (by omega) (by omega)
    refine ⟨vp_in_nI (n := 0) (by omega) (by omega), nn, vp_in_nI (n := 0) (by omega) (by omega), nn, vp_in_nI (by omega) (by omega), vp_in_nI (by omega) (by omega), fun W2 e2 y' ey => ?_⟩
    rw [ey, nI_1]
    refine hJ (n * R - (c + 1)) _ _ (by omega) ⟨c + 1, rfl, by omega, rfl, fun r p hp hlt => ?_, fun j hj => ?_, fun d d4 => by rw [e2, zup_ne d4]; exact g3 d d4⟩
    · rcases Nat.lt_or_ge (r * n + p) c with w | w
      · have ne : ¬ (r = r0 ∧ p = p0) := fun v => by
          rw [v.1, v.2] at w
          omega
        rw [e2, zup_eq, upd_ne (by omega)]
        exact g1 r p hp w
      · obtain ⟨u1, u2⟩ := dm_u hp (show r * n + p = c by omega)
        have u3 : r = r0 := by omega
        have u4 : p = p0 := by omega
        rw [u3, u4, e2, zup_eq, upd_eq, g3 18 (by omega), ← hdm]
    · rw [e2, zup_eq, upd_ne (hj r0 p0 hm (by omega))]
      exact g2 j (fun r p hp hlt => hj r p hp (by omega))
theorem mw_scan {i l n a y z Z T R : Nat} {W : zMem} {K : Int32 → Int32 → zMem → Prop} {Q : Int32 → zMem → Prop} (hi : i < 4) (n1 : 1 ≤ n) (n8 : n ≤ 8) (z5 : z ≤ 5) (e0 : W 4 0 = nI n) (hl : l < 3) (w16 : W 16 i = nI l) (w17 : W 17 i = nI Z) (hZ : Z ≤ 40) (ha : a < 2147483648) (hT : T = Z - a) (hR : R = min z (T / n))
    (hbad : ∀ r, r < R → (∀ r', r' < r → rgd (fun j => W 18 (40 * i + a + j)) n r') → ¬ rgd (fun j => W 18 (40 * i + a + j)) n r → Q (-20 - nI r) W)
    (hok : (∀ r, r < R → rgd (fun j => W 18 (40 * i + a + j)) n r) → K (if R = z then 0 else 2) (nI R) W) : ∃ k, zlp4 (wpB_Model_read_78 (nI i) (nI l) (nI a) (nI y) (nI z) K Q) k 0 0 1 0 W := by
  have nz : n * z ≤ 40 := by
    have := Nat.mul_le_mul n8 z5
    omega
  have w0 : W 4 (ix 0) = nI n := e0
  have v4 : vp_in (nI i) 4 := vp_in_nI (by omega) (by omega)
  generalize hV : (fun j => W 18 (40 * i + a + j)) = V at hbad hok
  have Vj : ∀ j, W 18 (40 * i + a + j) = V j := fun j => by rw [← hV]
  refine zlp4_r (fun m x6 x7 x8 x9 W' => W' = W ∧ ((x6 = 0 ∧ ∃ r p, p < n ∧ x9 = nI (r * n + p) ∧ x7 = nI r ∧ r * n + p ≤ n * z ∧ (∀ r', r' < r → rgd V n r') ∧ r * n + p ≤ T ∧ ((x8 = 1 ∧ ∀ p', p' < p → 1 ≤ V (r * n + p') ∧ V (r * n + p') ≤ 9) ∨ (x8 = 0 ∧ ∃ p', p' < p ∧ ¬ (1 ≤ V (r * n + p') ∧ V (r * n + p') ≤ 9))) ∧ m = n * z + 1 - (r * n + p)) ∨ (x6 = 2 ∧ x7 = nI R ∧ R ≠ z ∧ ∀ r', r' < R → rgd V n r'))) ?_ (n := n * z + 1) ⟨rfl, Or.inl ⟨rfl, 0, 0, by omega, by rw [Nat.zero_mul]; rfl, rfl, by omega, fun _ h => absurd h (by omega), by omega, Or.inl ⟨rfl, fun _ h => absurd h (by omega)⟩, by omega⟩⟩
  rintro m x6 x7 x8 x9 W' ⟨rfl, hc⟩ J hJ
  unfold wpB_Model_read_78
  rw [w0, q_mul]
  refine ⟨vp_in_nI (n := 0) (by omega) (by omega), ?_⟩
  rcases hc with ⟨rfl, r, p, hp, rfl, rfl, hle, hg, hleT, hx8, rfl⟩ | ⟨rfl, rfl, hne, hg⟩
  · refine ⟨fun c => ?_, fun c => ⟨fun q => absurd rfl q, fun _ => ⟨v4, ?_⟩⟩⟩
    · have e : r * n + p = n * z := by
        have := (nI_leI (by omega) (by omega)).mp c
        omega
      have hz : r = z := by
        have h1 := dm_u hp e
        have h2 := dm_u (r := z) (p := 0) (n := n) (c := n * z) (by omega) (by rw [Nat.mul_comm, Nat.add_zero])
        omega
      have hRz : R = z := by
        have : z ≤ T / n := (Nat.le_div_iff_mul_le (by omega)).mpr (by rw [Nat.mul_comm]; omega)
        omega
      have k := hok (fun r' hr' => hg r' (by omega))
      rw [if_pos hRz, hRz, ← hz] at k
      exact k
    · have hlt : r * n + p < n * z := by
        rcases Nat.lt_or_ge (r * n + p) (n * z) with w | w
        · exact w
        · exact absurd ((nI_leI (by omega) (by omega)).mpr w) c
      have hrz : r < z := by
        rcases Nat.lt_or_ge r z with w | w
        · exact w
        · have := Nat.mul_le_mul_right n w
          rw [Nat.mul_comm z n] at this
          omega
      have e16 : W' 16 (ix (nI i)) = nI l := by rw [q_ix (by omega)]; exact w16
      have e17 : W' 17 (ix (nI i)) = nI Z := by rw [q_ix (by omega)]; exact w17
      have nm4 : ¬ nI l = -4 := fun w => absurd w (by rcases (show l = 0 ∨ l = 1 ∨ l = 2 by omega) with rfl | rfl | rfl <;> decide)
      rw [e16, e17]
      refine ⟨fun _ => ⟨v4, fun _ => ⟨v4, ?_⟩, fun q => absurd rfl q⟩, fun q => absurd q nm4⟩
      refine in_cell ha (by omega) hZ (fun c1 => ⟨fun _ => ?_, fun q => absurd q (by decide)⟩) (fun c1 => ⟨fun q => absurd rfl q, fun _ => ?_⟩)
      · -- a cell of the sheet
        have hT1 : r * n + p + 1 ≤ T := by omega
        have e1 : nI (r * n + p) + 1 = nI (r * n + p + 1) := nI_1 _
        have end195 : ∀ s : Int32, ((s = 1 ∧ ∀ p', p' < p + 1 → 1 ≤ V (r * n + p') ∧ V (r * n + p') ≤ 9) ∨ (s = 0 ∧ ∃ p', p' < p + 1 ∧ ¬ (1 ≤ V (r * n + p') ∧ V (r * n + p') ≤ 9))) → wpJ_Model_read_195 (nI i) (nI l) (nI a) (nI y) (nI z) K J Q 0 (nI r) (nI (r * n + p)) s W' := fun s hs => by
          unfold wpJ_Model_read_195
          rw [w0, e1, pk_rem (by omega) (by omega) (by omega)]
          refine ⟨vp_in_nI (n := 0) (by omega) (by omega), nI_ne0 (by omega) (by omega), fun cm x ex => ?_, fun cm => ?_⟩
          · have hpn : p + 1 < n := by
              rcases Nat.lt_or_ge (p + 1) n with w | w
              · exact w
              · have : (r * n + p + 1) % n = 0 := (dm_u (r := r + 1) (p := 0) (n := n) (c := r * n + p + 1) (by omega) (by rw [Nat.succ_mul]; omega)).2
                rw [this] at cm
                exact absurd rfl cm
            rw [ex]
            exact hJ (n * z + 1 - (r * n + (p + 1))) _ _ _ _ _ (by omega) ⟨rfl, Or.inl ⟨rfl, r, p + 1, hpn, rfl, rfl, by omega, hg, by omega, hs, rfl⟩⟩
          · have hpn : p + 1 = n := by
              rcases Nat.lt_or_ge (p + 1) n with w | w
              · have h2 : (r * n + p + 1) % n = p + 1 := (dm_u (r := r) (p := p + 1) (n := n) (c := r * n + p + 1) w (by omega)).2
                rw [h2] at cm
                exact absurd cm (nI_ne0 (by omega) (by omega))
              · omega
            have hRn : (r + 1) * n = r * n + p + 1 := by rw [Nat.succ_mul]; omega
            refine ⟨fun s0 x ex x2 ex2 => ?_, fun s0 => ?_⟩
            · rcases hs with ⟨s1, hs⟩ | ⟨s1, -⟩
              · rw [ex, ex2, nI_1]
                refine hJ (n * z + 1 - ((r + 1) * n + 0)) _ _ _ _ _ (by omega) ⟨rfl, Or.inl ⟨rfl, r + 1, 0, by omega, by rw [hRn], rfl, by omega, fun r' hr' => ?_, by omega, Or.inl ⟨s1, fun _ h => absurd h (by omega)⟩, rfl⟩⟩
                rcases Nat.lt_or_ge r' r with w | w
                · exact hg r' w
                · rw [show r' = r by omega]
                  exact fun p' hp' => hs p' (by omega)
              · exact absurd s1 s0
            · rcases hs with ⟨s1, -⟩ | ⟨-, p', hp', hb⟩
              · rw [s1] at s0
                exact absurd s0 (by decide)
              · have hrR : r < R := by
                  have : r + 1 ≤ T / n := (Nat.le_div_iff_mul_le (by omega)).mpr (by omega)
                  omega
                exact hbad r hrR hg (fun w => hb (w p' (by omega)))
        have e40 : (40 : Int32) * nI i + nI a + nI (r * n + p) = nI (40 * i + a + (r * n + p)) := by rw [show (40 : Int32) = nI 40 from rfl, q_mul, q_add, q_add]
        refine ⟨fun q => absurd rfl q, fun _ => ⟨fun c8 => ?_, fun c8 => ?_⟩⟩
        · rcases hx8 with ⟨w, -⟩ | ⟨-, p', hp', hb⟩
          · rw [w] at c8; exact absurd c8 (by decide)
          · exact end195 0 (Or.inr ⟨rfl, p', by omega, hb⟩)
        · rcases hx8 with ⟨-, hv⟩ | ⟨w, -⟩
          · rw [e40, q_ix (by omega), Vj]
            refine ⟨vp_in_nI (by omega) (by omega), mt_in (lo' := 1) (hi' := 9) rfl rfl (fun d1 d2 => ⟨fun q => absurd q (by decide), fun _ => end195 1 (Or.inl ⟨rfl, fun p' hp' => ?_⟩)⟩) (fun d => ⟨fun _ => end195 0 (Or.inr ⟨rfl, p, by omega, d⟩), fun q => absurd rfl q⟩)⟩
            rcases Nat.lt_or_ge p' p with w | w
            · exact hv p' w
            · rw [show p' = p by omega]; exact ⟨d1, d2⟩
          · exact absurd w c8
      · -- past the end of the sheet
        have hTe : r * n + p = T := by omega
        have hRr : R = r := by
          have := (dm_u hp hTe).1
          omega
        refine ⟨fun _ x ex => ?_, fun q => absurd q (by decide)⟩
        refine hJ 0 _ _ _ _ _ (by omega) ⟨rfl, Or.inr ⟨rfl, by rw [hRr], by omega, fun r' hr' => hg r' (by omega)⟩⟩
  · have k := hok hg
    rw [if_neg hne] at k
    exact ⟨fun _ => k, fun _ => ⟨fun _ => k, fun q => absurd q (by decide)⟩⟩
theorem xt_pace1 {v : Int32} {M : zMem} {Q : Int32 → zMem → Prop} (h1 : 1 ≤ v → v ≤ 9 → Q 1 M) (h0 : ¬ (1 ≤ v ∧ v ≤ 9) → Q 0 M) : wp_Main_isPace v M Q := ⟨fun c => h0 (fun q => absurd c (Int32.not_lt.mpr q.1)), fun c => ⟨fun c2 => h0 (fun q => absurd c2 (Int32.not_lt.mpr q.2)), fun c2 => h1 (Int32.not_lt.mp c) (Int32.not_lt.mp c2)⟩⟩
theorem xt_aloneP {k b n : Nat} {M : zMem} {Q : Int32 → zMem → Prop} (hn : M 1 0 = nI n) (n8 : n ≤ 8) (hb : b + n ≤ 40) (h1 : (∀ p, p < n → 1 ≤ M (k + 1) (b + p) ∧ M (k + 1) (b + p) ≤ 9) → Q 1 M) (h0 : (∃ p, p < n ∧ ¬ (1 ≤ M (k + 1) (b + p) ∧ M (k + 1) (b + p) ≤ 9)) → Q 0 M) : wp_Main_hasPacesAlone k (nI b) M Q := by
  refine zlp1_r (fun m x M' => ∃ p, x = nI p ∧ p ≤ n ∧ m = n - p ∧ M' = M ∧ ∀ p', p' < p → 1 ≤ M (k + 1) (b + p') ∧ M (k + 1) (b + p') ≤ 9) ?_ (n := n) ⟨0, rfl, by omega, rfl, rfl, fun _ h => absurd h (by omega)⟩
  rintro m x M' ⟨p, rfl, hp, rfl, rfl, hv⟩ J hJ
  unfold wpB_Main_hasPacesAlone_2
  rw [hn]
  refine ⟨fun c => ?_, fun c => ?_⟩
  · have := (nI_leI (by omega) (by omega)).mp c
    exact h1 (fun p' hp' => hv p' (by omega))
  · have hp2 : p < n := by
      rcases Nat.lt_or_ge p n with w | w
      · exact w
      · exact absurd ((nI_leI (by omega) (by omega)).mpr w) c
    rw [q_add, q_ix (by omega)]
    refine ⟨vp_in_nI (by omega) (by omega), xt_pace1 (fun d1 d2 => ⟨fun _ y ey => ?_, fun q => absurd q (by decide)⟩) (fun d => ⟨fun q => absurd rfl q, fun _ => h0 ⟨p, hp2, d⟩⟩)⟩
    rw [ey, nI_1]
    refine hJ (n - (p + 1)) _ _ (by omega) ⟨p + 1, rfl, by omega, rfl, rfl, fun p' hp' => ?_⟩
    rcases Nat.lt_or_ge p' p with w | w
    · exact hv p' w
    · rw [show p' = p by omega]; exact ⟨d1, d2⟩
theorem xt_copyP {k b y n : Nat} {M : zMem} {Q : zMem → Prop} (hk : k + 1 ≠ 4) (hn : M 1 0 = nI n) (n8 : n ≤ 8) (hb : b + n ≤ 40) (hy : y < 5) (hQ : ∀ M', (∀ p, p < n → M' 4 (y * 8 + p) = M (k + 1) (b + p)) → (∀ j, (∀ p, p < n → j ≠ y * 8 + p) → M' 4 j = M 4 j) → (∀ c, c ≠ 4 → M' c = M c) → Q M') : wp_Main_copyPaces k (nI b) (nI y) M Q := by
  refine zlp1_r (fun m x M' => ∃ p, x = nI p ∧ p ≤ n ∧ m = n - p ∧ (∀ p', p' < p → M' 4 (y * 8 + p') = M (k + 1) (b + p')) ∧ (∀ j, (∀ p', p' < p → j ≠ y * 8 + p') → M' 4 j = M 4 j) ∧ (∀ c, c ≠ 4 → M' c = M c)) ?_ (n := n) ⟨0, rfl, by omega, rfl, fun _ h => absurd h (by omega), fun _ _ => rfl, fun _ _ => rfl⟩
  rintro m x M' ⟨p, rfl, hp, rfl, g1, g2, g3⟩ J hJ
  unfold wpB_Main_copyPaces_3
  rw [show M' 1 0 = nI n by rw [g3 1 (by omega)]; exact hn]
  refine ⟨fun c => ?_, fun c => ?_⟩
  · have := (nI_leI (by omega) (by omega)).mp c
    exact hQ M' (fun p' hp' => g1 p' (by omega)) (fun j hj => g2 j (fun p' hp' => hj p' (by omega))) g3
  · have hp2 : p < n := by
      rcases Nat.lt_or_ge p n with w | w
      · exact w
      · exact absurd ((nI_leI (by omega) (by omega)).mpr w) c
    have e8 : nI y * 8 + nI p = nI (y * 8 + p) := by rw [show (8 : Int32) = nI 8 from rfl, q_mul, q_add]
    rw [e8, q_add, q_ix (by omega), q_ix (by omega)]
    refine ⟨vp_in_nI (by omega) (by omega), vp_in_nI (by omega) (by omega), fun M2 e2 x ex => ?_⟩
    rw [ex, nI_1]
    refine hJ (n - (p + 1)) _ _ (by omega) ⟨p + 1, rfl, by omega, rfl, fun p' hp' => ?_, fun j hj => ?_, fun c hc => by rw [e2, zup_ne hc]; exact g3 c hc⟩
    · rw [e2, zup_eq]
      by_cases w : p' = p
      · rw [w, upd_eq, g3 (k + 1) hk]
      · rw [upd_ne (by omega)]; exact g1 p' (by omega)
    · rw [e2, zup_eq, upd_ne (hj p (by omega))]
      exact g2 j (fun p' hp' => hj p' (by omega))
theorem xt_loops {i n R a y : Nat} {a1 a2 a3 a5 f : Int32} {M : zMem} {Q : Int32 → zMem → Prop} (hn : M 1 0 = nI n) (n1 : 1 ≤ n) (n8 : n ≤ 8) (hy : y + R ≤ 5) (ha : 0 < R → a3 = nI a ∧ a + n * R ≤ 40)
    (hbad : ∀ r, r < R → (∀ r', r' < r → rgd (fun j => M (81 + 2 * i + 1) (a + j)) n r') → ¬ rgd (fun j => M (81 + 2 * i + 1) (a + j)) n r → Q (-20 - nI r) M)
    (hok : (∀ r, r < R → rgd (fun j => M (81 + 2 * i + 1) (a + j)) n r) → ∀ M', (∀ r p, r < R → p < n → M' 4 ((y + r) * 8 + p) = M (81 + 2 * i + 1) (a + (r * n + p))) → (∀ j, (∀ r p, r < R → p < n → j ≠ (y + r) * 8 + p) → M' 4 j = M 4 j) → M' 0 13 = f → (∀ j, j ≠ 13 → M' 0 j = M 0 j) → (R = 0 → ∀ c, c ≠ 0 → M' c = M c) → (0 < R → M' 29 2 = 0 ∧ M' 54 0 = 0 ∧ M' 60 0 = 0 ∧ ∀ q, q < 120 → M' 58 q = 0) → (∀ c, c ≠ 0 → c ≠ 4 → c ≠ 29 → c ≠ 54 → c ≠ 58 → c ≠ 60 → M' c = M c) → Q (nI R) M') : ∃ k, zlp1 (wpB_Main_read_116 a1 a2 a3 (nI y) a5 (81 + 2 * i) f (nI R) (fun (zm12 : zMem) => ∃ n : Nat, zlp1 (wpB_Main_read_159 a1 a2 a3 (nI y) a5 (81 + 2 * i) f (nI R) Q) n 0 zm12) Q) k 0 M := by
  have mul : ∀ r, r < R → r * n + n ≤ n * R := fun r hr => by
    have := Nat.mul_le_mul_right n (show r + 1 ≤ R by omega)
    rw [Nat.succ_mul, Nat.mul_comm R n] at this
    exact this
  refine zlp1_r (fun m x M' => ∃ r, x = nI r ∧ r ≤ R ∧ m = R - r ∧ M' = M ∧ ∀ r', r' < r → rgd (fun j => M (81 + 2 * i + 1) (a + j)) n r') ?_ (n := R) ⟨0, rfl, by omega, rfl, rfl, fun _ h => absurd h (by omega)⟩
  rintro m x M1 ⟨r, rfl, hr, rfl, rfl, hg⟩ J hJ
  unfold wpB_Main_read_116
  refine ⟨fun c => ?_, fun c => ?_⟩
  · have hrR := (nI_leI (by omega) (by omega)).mp c
    have hg' : ∀ r, r < R → rgd (fun j => M1 (81 + 2 * i + 1) (a + j)) n r := fun r' hr' => hg r' (by omega)
    refine zlp1_r (fun m x M' => ∃ r, x = nI r ∧ r ≤ R ∧ m = R - r ∧ (∀ r' p, r' < r → p < n → M' 4 ((y + r') * 8 + p) = M1 (81 + 2 * i + 1) (a + (r' * n + p))) ∧ (∀ j, (∀ r' p, r' < r → p < n → j ≠ (y + r') * 8 + p) → M' 4 j = M1 4 j) ∧ (∀ c, c ≠ 4 → M' c = M1 c)) ?_ (n := R) ⟨0, rfl, by omega, rfl, fun _ _ h => absurd h (by omega), fun _ _ => rfl, fun _ _ => rfl⟩
    rintro m x M' ⟨r, rfl, hr, rfl, g1, g2, g3⟩ J hJ
    unfold wpB_Main_read_159
    rw [show M' 1 0 = nI n by rw [g3 1 (by omega)]; exact hn]
    refine ⟨fun c M2 e2 => ?_, fun c => ?_⟩
    · have hrR := (nI_leI (by omega) (by omega)).mp c
      have k1 : ∀ r p, r < R → p < n → M' 4 ((y + r) * 8 + p) = M1 (81 + 2 * i + 1) (a + (r * n + p)) := fun r' p hr' hp => g1 r' p (by omega) hp
      have k2 : ∀ j, (∀ r p, r < R → p < n → j ≠ (y + r) * 8 + p) → M' 4 j = M1 4 j := fun j hj => g2 j (fun r' p hr' hp => hj r' p (by omega) hp)
      refine ⟨fun c0 => ?_, fun c0 => ?_⟩
      · have R0 : R = 0 := by
          have := (nI_leI (b := 0) (by omega) (by omega)).mp c0
          omega
        have m4 : M' 4 = M1 4 := funext (fun j => k2 j (fun r' p hr' => absurd hr' (by omega)))
        refine hok hg' M2 (fun r' p hr' hp => absurd hr' (by omega)) (fun j _ => by rw [e2, zup_ne (by omega), m4]) (by rw [e2, zup_eq, upd_eq]) (fun j hj => by rw [e2, zup_eq, upd_ne hj, g3 0 (by omega)]) (fun _ c hc => ?_) (fun w => absurd w (by omega)) (fun c c0 c4 _ _ _ _ => by rw [e2, zup_ne c0]; exact g3 c c4)
        rw [e2, zup_ne hc]
        by_cases w : c = 4
        · rw [w]; exact m4
        · exact g3 c w
      · have R0 : 0 < R := by
          rcases Nat.eq_zero_or_pos R with w | w
          · exact absurd (by rw [w]; decide) c0
          · exact w
        unfold wp_Main_forgetAnswers
        intro A2 b2 A3 b3 A4 b4
        refine xt_forget (fun A5 q1 q2 => ?_)
        have cA : ∀ c, c ≠ 29 → c ≠ 54 → c ≠ 58 → c ≠ 60 → A5 c = M2 c := fun c c2 c3 c4 c5 => by rw [q2 c c4, b4, zup_ne c5, b3, zup_ne c3, b2, zup_ne c2]
        refine hok hg' A5 (fun r' p hr' hp => by rw [cA 4 (by omega) (by omega) (by omega) (by omega), e2, zup_ne (by omega)]; exact k1 r' p hr' hp) (fun j hj => by rw [cA 4 (by omega) (by omega) (by omega) (by omega), e2, zup_ne (by omega)]; exact k2 j hj) (by rw [cA 0 (by omega) (by omega) (by omega) (by omega), e2, zup_eq, upd_eq]) (fun j hj => by rw [cA 0 (by omega) (by omega) (by omega) (by omega), e2, zup_eq, upd_ne hj, g3 0 (by omega)]) (fun w => absurd w (by omega)) (fun _ => ⟨?_, ?_, ?_, q1⟩) (fun c c0 c4 c5 c6 c7 c8 => by rw [cA c c5 c6 c7 c8, e2, zup_ne c0]; exact g3 c c4)
        · rw [q2 29 (by omega), b4, zup_ne (by omega), b3, zup_ne (by omega), b2, zup_eq, upd_eq]
        · rw [q2 54 (by omega), b4, zup_ne (by omega), b3, zup_eq, upd_eq]
        · rw [q2 60 (by omega), b4, zup_eq, upd_eq]
    · have hr2 : r < R := by
        rcases Nat.lt_or_ge r R with w | w
        · exact w
        · exact absurd ((nI_leI (by omega) (by omega)).mpr w) c
      obtain ⟨ea, hab⟩ := ha (by omega)
      have hm := mul r hr2
      rw [ea, q_mul, q_add, q_add]
      refine xt_copyP (k := 81 + 2 * i) (b := a + r * n) (y := y + r) (n := n) (by omega) (by rw [g3 1 (by omega)]; exact hn) n8 (by omega) (by omega) (fun M2 u1 u2 u3 x ex => ?_)
      rw [ex, nI_1]
      refine hJ (R - (r + 1)) _ _ (by omega) ⟨r + 1, rfl, by omega, rfl, fun r' p hr' hp => ?_, fun j hj => ?_, fun c hc => (u3 c hc).trans (g3 c hc)⟩
      · by_cases w : r' = r
        · rw [w, u1 p hp, g3 _ (by omega), Nat.add_assoc a (r * n) p]
        · rw [u2 _ (fun p' hp' => by omega)]
          exact g1 r' p (by omega) hp
      · rw [u2 j (fun p' hp' => hj r p' (by omega) hp')]
        exact g2 j (fun r' p hr' hp => hj r' p (by omega) hp)
  · have hr2 : r < R := by
      rcases Nat.lt_or_ge r R with w | w
      · exact w
      · exact absurd ((nI_leI (by omega) (by omega)).mpr w) c
    obtain ⟨ea, hab⟩ := ha (by omega)
    have hm := mul r hr2
    rw [ea, hn, q_mul, q_add]
    refine xt_aloneP (k := 81 + 2 * i) (b := a + r * n) hn n8 (by omega) (fun h1 => ⟨fun _ x ex => ?_, fun q => absurd q (by decide)⟩) (fun h0 => ⟨fun q => absurd rfl q, fun _ => ?_⟩)
    · rw [ex, nI_1]
      refine hJ (R - (r + 1)) _ _ (by omega) ⟨r + 1, rfl, by omega, rfl, rfl, fun r' hr' => ?_⟩
      rcases Nat.lt_or_ge r' r with w | w
      · exact hg r' w
      · rw [show r' = r by omega]
        intro p hp
        have := h1 p hp
        rw [Nat.add_assoc a (r * n) p] at this
        exact this
    · obtain ⟨p, hp, hb⟩ := h0
      refine hbad r hr2 hg (fun w => hb ?_)
      have := w p hp
      rw [Nat.add_assoc a (r * n) p]
      exact this
theorem mw_readG {n H L i l y z : Nat} {a3 : Int32} {M W : zMem} {Q : Int32 → zMem → Prop} (vt : sp_vt M 1 n H L) (r : rt0 W M n H L) (st : pst W M n H L) (hi : i < 4) (hl : l < 3) (hy : y < 2147483648) (hz : z ≤ 5)
    (h0 : ¬ y + z ≤ H → Q (-1) W) (h1 : y + z ≤ H → ∀ W1, W1 0 24 = 1 → pr W1 M n H → awf W W1 → ∃ k, zlp4 (wpB_Model_read_78 (nI i) (nI l) a3 (nI y) (nI z) (fun (zx18 : Int32) (zx19 : Int32) (zm17 : zMem) => ∃ n : Nat, zlp1 (wpB_Model_read_234 (nI i) (nI l) a3 (nI y) (nI z) zx18 zx19 Q) n 0 zm17) Q) k 0 0 1 0 W1) : wp_Model_read (nI i) (nI l) a3 (nI y) (nI z) W Q := by
  obtain ⟨⟨n1, n8, H1, H5, L1, L6⟩, hn, hH, -⟩ := id vt
  refine in_yes (hi := 3) rfl (by omega) (by omega) ⟨fun q => absurd q (by decide), fun _ => in_yes (hi := 2) rfl (by omega) (by omega) ⟨fun q => absurd q (by decide), fun _ => ⟨fun q => absurd q (nI_pos hy), fun _ => ?_⟩⟩⟩
  refine in_yes (hi := 5) rfl (by omega) (by omega) ⟨fun q => absurd q (by decide), fun _ => ⟨vp_in_nI (n := 1) (by omega) (by omega), ?_⟩⟩
  rw [show ix 1 = 1 from rfl, r.2.1, q_l64 hy, q_l64 (by omega), q_l64 (by omega), lN_add]
  refine ⟨fun c => ?_, fun c => h0 (fun q => c (Eq.mpr (cmp_le (y + z) H (by omega) (by omega)) q))⟩
  have hle := Eq.mp (cmp_le (y + z) H (by omega) (by omega)) c
  exact mt_awake vt r st (fun W1 h24 hp f => h1 hle W1 h24 hp f)
/-- the reference finds a fault at the first number -/
theorem mw_scan0 {i l n y z : Nat} {a3 f : Int32} {W : zMem} {K : Int32 → Int32 → zMem → Prop} {Q : Int32 → zMem → Prop} (hi : i < 4) (n1 : 1 ≤ n) (n8 : n ≤ 8) (z5 : z ≤ 5) (e0 : W 4 0 = nI n) (hl : l < 3)
    (hf : (z = 0 ∧ f = 0) ∨ (0 < z ∧ ((W 16 i = -4 ∧ f = 1) ∨ (∃ l', l' < 3 ∧ l' ≠ l ∧ W 16 i = nI l' ∧ f = 3) ∨ (∃ Z, Z ≤ 40 ∧ W 16 i = nI l ∧ W 17 i = nI Z ∧ a3 < 0 ∧ f = 2)))) (hok : K f 0 W) : ∃ k, zlp4 (wpB_Model_read_78 (nI i) (nI l) a3 (nI y) (nI z) K Q) k 0 0 1 0 W := by
  have nz : n * z ≤ 40 := by
    have := Nat.mul_le_mul n8 z5
    omega
  have w0 : W 4 (ix 0) = nI n := e0
  have v4 : vp_in (nI i) 4 := vp_in_nI (by omega) (by omega)
  have nm4 : ∀ l', l' < 3 → ¬ nI l' = -4 := fun l' hl' w => absurd w (by rcases (show l' = 0 ∨ l' = 1 ∨ l' = 2 by omega) with rfl | rfl | rfl <;> decide)
  refine zlp4_r (fun m x6 x7 x8 x9 W' => W' = W ∧ x7 = 0 ∧ ((m = 1 ∧ x6 = 0 ∧ x8 = 1 ∧ x9 = 0) ∨ (m = 0 ∧ x6 = f ∧ ¬ f = 0))) ?_ (n := 1) ⟨rfl, rfl, Or.inl ⟨rfl, rfl, rfl, rfl⟩⟩
  rintro m x6 x7 x8 x9 W' ⟨rfl, rfl, hx⟩ J hJ
  unfold wpB_Model_read_78
  rw [w0, q_mul]
  refine ⟨vp_in_nI (n := 0) (by omega) (by omega), ?_⟩
  rcases hx with ⟨rfl, rfl, rfl, rfl⟩ | ⟨rfl, rfl, hne⟩
  · rcases hf with ⟨hz0, hf0⟩ | ⟨hz0, hf⟩
    · rw [hf0] at hok
      exact ⟨fun _ => hok, fun c => absurd (by rw [hz0, Nat.mul_zero]; exact Int32.le_refl _) c⟩
    · have pos : 0 < n * z := Nat.mul_pos n1 hz0
      have go : ¬ f = 0 → wpJ_Model_read_153 (nI i) (nI l) a3 (nI y) (nI z) K J Q 0 1 0 f W' := fun hne => ⟨fun _ x ex => hJ 0 _ _ _ _ _ (by omega) ⟨rfl, rfl, Or.inr ⟨rfl, rfl, hne⟩⟩, fun q => absurd q hne⟩
      refine ⟨fun c => ?_, fun c => ⟨fun q => absurd rfl q, fun _ => ⟨v4, ?_⟩⟩⟩
      · have := (nI_leI (b := 0) (by omega) (by omega)).mp c
        omega
      rw [q_ix (by omega)]
      rcases hf with ⟨w, hf⟩ | ⟨l', hl', hne, w, hf⟩ | ⟨Z, hZ, w, w17, ha, hf⟩
      · refine ⟨fun q => absurd w q, fun _ => ?_⟩
        have g := go (by rw [hf]; decide)
        rw [hf] at g
        exact g
      · rw [w]
        refine ⟨fun _ => ⟨v4, fun q => absurd ((nI_eq (by omega) (by omega)).mp q) hne, fun _ => ?_⟩, fun q => absurd q (nm4 l' hl')⟩
        have g := go (by rw [hf]; decide)
        rw [hf] at g
        exact g
      · rw [w, w17]
        refine ⟨fun _ => ⟨v4, fun _ => ⟨v4, ?_⟩, fun q => absurd rfl q⟩, fun q => absurd q (nm4 l hl)⟩
        rw [show ((0 : Int32)).toInt64 = 0 from rfl, Int64.add_zero, e_in, if_neg]
        · refine ⟨fun q => absurd rfl q, fun _ => ?_⟩
          have g := go (by rw [hf]; decide)
          rw [hf] at g
          exact g
        · rintro ⟨u, -⟩
          have : (0 : Int32) ≤ a3 := i64_le.mp u
          exact absurd ha (Int32.not_lt.mpr this)
  · exact ⟨fun _ => hok, fun _ => ⟨fun _ => hok, fun q => absurd q hne⟩⟩
theorem xt_wholeR {k n z Z : Nat} {a3 : Int32} {M : zMem} {Q : Int32 → zMem → Prop} (n1 : 1 ≤ n) (n8 : n ≤ 8) (z5 : z ≤ 5) (hZ : Z ≤ 40) (e1 : M k 1 = nI Z) (h0 : a3 < 0 → Q 0 M) (h1 : ∀ a, a < 2147483648 → a3 = nI a → Q (nI (min z ((Z - a) / n))) M) : wp_Sheet_wholeRows k a3 (nI n) (nI z) M Q := by
  unfold wp_Sheet_wholeRows
  rw [e1]
  refine ⟨h0, fun c => ?_⟩
  obtain ⟨a, ha, rfl⟩ := nI_of c
  have h := h1 a ha rfl
  refine ⟨fun c1 => ?_, fun c1 => ⟨fun _ => ?_, fun q => absurd ((nI_leI (a := 1) (by omega) (by omega)).mpr n1) q⟩⟩
  · have := (nI_leI (by omega) (by omega)).mp c1
    rw [show Z - a = 0 by omega, Nat.zero_div, Nat.min_zero] at h
    exact h
  · have aZ : a < Z := by
      rcases Nat.lt_or_ge a Z with w | w
      · exact w
      · exact absurd ((nI_leI (by omega) (by omega)).mpr w) c1
    refine ⟨nI_ne0 (by omega) (by omega), fun x ex => ?_⟩
    rw [q_sub (by omega), pk_div (by omega) (by omega) (by omega)] at ex
    have hd : (Z - a) / n ≤ Z - a := Nat.div_le_self _ _
    subst ex
    refine ⟨fun c2 => ?_, fun c2 => ?_⟩
    · have := (nI_leI (by omega) (by omega)).mp c2
      rw [Nat.min_eq_left this] at h
      exact h
    · have : ¬ z ≤ (Z - a) / n := fun w => c2 ((nI_leI (by omega) (by omega)).mpr w)
      rw [Nat.min_eq_right (by omega)] at h
      exact h
theorem p_read {n H L : Nat} {M W : zMem} {a1 a2 a3 a4 a5 : Int32} {P : zMem → zMem → Prop} (vt : sp_vt M 1 n H L) (r : rt0 W M n H L) (st : pst W M n H L) (hs : shs M W) (hP0 : P M W)
    (hPw : ∀ W1, W1 0 24 = 1 → pr W1 M n H → awf W W1 → P M W1)
    (hP : ∀ R f M' W1 W', W1 0 24 = 1 → pr W1 M n H → awf W W1 → sp_vt M' 1 n H L → rt0 W' M' n H L → M' 0 13 = f → W' 0 39 = f → (∀ j, j ≠ 13 → M' 0 j = M 0 j) → (R = 0 → ∀ c, c ≠ 0 → M' c = M c) → (0 < R → M' 29 2 = 0 ∧ M' 54 0 = 0 ∧ M' 60 0 = 0 ∧ ∀ q, q < 120 → M' 58 q = 0) → (∀ c, c ≠ 0 → c ≠ 4 → c ≠ 29 → c ≠ 54 → c ≠ 58 → c ≠ 60 → M' c = M c) → (∀ c, c ≠ 0 → c ≠ 4 → W' c = W1 c) → (∀ j, j ≠ 39 → W' 0 j = W1 0 j) → P M' W') : wp_Main_read a1 a2 a3 a4 a5 M (fun x M' => wp_Model_read a1 a2 a3 a4 a5 W (fun y W' => x = y ∧ P M' W')) := by
  obtain ⟨⟨n1, n8, H1, H5, L1, L6⟩, hn, hH, -⟩ := id vt
  refine xt_isSheet (fun i hi ei => ⟨fun q => absurd q (by decide), fun _ => ?_⟩) (fun nh => ⟨fun _ => in_no (hi := 3) rfl nh ⟨fun _ => ⟨rfl, hP0⟩, fun q => absurd rfl q⟩, fun q => absurd rfl q⟩)
  subst ei
  refine xt_isLane (fun l hl el => ⟨fun q => absurd q (by decide), fun _ => ?_⟩) (fun nh => ⟨fun _ => in_yes (hi := 3) rfl (by omega) (by omega) ⟨fun q => absurd q (by decide), fun _ => in_no (hi := 2) rfl nh ⟨fun _ => ⟨rfl, hP0⟩, fun q => absurd rfl q⟩⟩, fun q => absurd rfl q⟩)
  subst el
  refine ⟨fun c => ?_, fun c => ?_⟩
  · exact in_yes (hi := 3) rfl (by omega) (by omega) ⟨fun q => absurd q (by decide), fun _ => in_yes (hi := 2) rfl (by omega) (by omega) ⟨fun q => absurd q (by decide), fun _ => ⟨fun _ => ⟨rfl, hP0⟩, fun q => absurd c q⟩⟩⟩
  obtain ⟨y, hy, rfl⟩ := nI_of c
  have bad : ¬ (0 ≤ a5 ∧ a5 ≤ 5) → wp_Model_read (nI i) (nI l) a3 (nI y) a5 W (fun v W' => -1 = v ∧ P M W') := fun nh => in_yes (hi := 3) rfl (by omega) (by omega) ⟨fun q => absurd q (by decide), fun _ => in_yes (hi := 2) rfl (by omega) (by omega) ⟨fun q => absurd q (by decide), fun _ => ⟨fun q => absurd q c, fun _ => in_no (hi := 5) rfl nh ⟨fun _ => ⟨rfl, hP0⟩, fun q => absurd rfl q⟩⟩⟩⟩
  refine ⟨fun c2 => bad (fun q => absurd c2 (Int32.not_lt.mpr q.1)), fun c2 => ⟨fun c3 => bad (fun q => absurd c3 (Int32.not_lt.mpr q.2)), fun c3 => ?_⟩⟩
  obtain ⟨z, hz, rfl⟩ := nI_of2 (x := a5) (M := 5) (n := 5) rfl c2 (Int32.not_lt.mp c3)
  rw [hH, q_ix (by omega)]
  have w40 : ∀ W1, awf W W1 → W1 4 0 = nI n := fun W1 f => by rw [f.1 4 (by omega) (by omega) (by omega) (by omega)]; exact r.1
  -- both sides run
  have run : ∀ (R a : Nat) (f : Int32), y + z ≤ H → R ≤ z → (0 < R → a3 = nI a ∧ a + n * R ≤ 40) → (∀ j, j < n * R → W 18 (40 * i + a + j) = M (81 + 2 * i + 1) (a + j)) →
      (∀ (W1 : zMem) (K : Int32 → Int32 → zMem → Prop) (Q : Int32 → zMem → Prop), awf W W1 → (∀ r, r < R → (∀ r', r' < r → rgd (fun j => W1 18 (40 * i + a + j)) n r') → ¬ rgd (fun j => W1 18 (40 * i + a + j)) n r → Q (-20 - nI r) W1) → ((∀ r, r < R → rgd (fun j => W1 18 (40 * i + a + j)) n r) → K f (nI R) W1) → ∃ k, zlp4 (wpB_Model_read_78 (nI i) (nI l) a3 (nI y) (nI z) K Q) k 0 0 1 0 W1) →
      ∃ k, zlp1 (wpB_Main_read_116 (nI i) (nI l) a3 (nI y) (nI z) (81 + 2 * i) f (nI R) (fun (zm12 : zMem) => ∃ n : Nat, zlp1 (wpB_Main_read_159 (nI i) (nI l) a3 (nI y) (nI z) (81 + 2 * i) f (nI R) (fun x M' => wp_Model_read (nI i) (nI l) a3 (nI y) (nI z) W (fun y W' => x = y ∧ P M' W'))) n 0 zm12) (fun x M' => wp_Model_read (nI i) (nI l) a3 (nI y) (nI z) W (fun y W' => x = y ∧ P M' W'))) k 0 M := fun R a f hle hRz ha hcell scan => by
    have mul : ∀ r p, r < R → p < n → r * n + p < n * R := fun r' p hr hp => by
      have := Nat.mul_le_mul_right n (show r' + 1 ≤ R by omega)
      rw [Nat.succ_mul, Nat.mul_comm R n] at this
      omega
    have w18 : ∀ W1, awf W W1 → W1 18 = W 18 := fun W1 f => f.1 18 (by omega) (by omega) (by omega) (by omega)
    have iff : ∀ W1, awf W W1 → ∀ r', r' < R → (rgd (fun j => W1 18 (40 * i + a + j)) n r' ↔ rgd (fun j => M (81 + 2 * i + 1) (a + j)) n r') := fun W1 f r' hr' => by
      have e : ∀ p, p < n → W1 18 (40 * i + a + (r' * n + p)) = M (81 + 2 * i + 1) (a + (r' * n + p)) := fun p hp => by rw [w18 W1 f]; exact hcell _ (mul r' p hr' hp)
      constructor
      · intro h p hp
        have := h p hp
        show 1 ≤ M (81 + 2 * i + 1) (a + (r' * n + p)) ∧ M (81 + 2 * i + 1) (a + (r' * n + p)) ≤ 9
        rw [← e p hp]; exact this
      · intro h p hp
        have := h p hp
        show 1 ≤ W1 18 (40 * i + a + (r' * n + p)) ∧ W1 18 (40 * i + a + (r' * n + p)) ≤ 9
        rw [e p hp]; exact this
    refine xt_loops (i := i) (R := R) (a := a) hn n1 n8 (by omega) ha (fun r0 hr0 hg hb => ?_) (fun hg M' k1 k2 k3 k4 k5 k6 k7 => ?_)
    · refine mw_readG vt r st hi hl hy hz (fun q => absurd hle q) (fun _ W1 h24 hp f => scan W1 _ _ f (fun r2 hr2 hg2 hb2 => ⟨?_, hPw W1 h24 hp f⟩) (fun hall => ?_))
      · have : r0 = r2 := by
          rcases Nat.lt_trichotomy r0 r2 with w | w | w
          · exact absurd ((iff W1 f r0 hr0).mp (hg2 r0 w)) hb
          · exact w
          · exact absurd ((iff W1 f r2 hr2).mpr (hg r2 w)) hb2
        rw [this]
      · exact absurd ((iff W1 f r0 hr0).mp (hall r0 hr0)) hb
    · refine mw_readG vt r st hi hl hy hz (fun q => absurd hle q) (fun _ W1 h24 hp f => scan W1 _ _ f (fun r2 hr2 hg2 hb2 => absurd ((iff W1 f r2 hr2).mpr (hg r2 hr2)) hb2) (fun hall => ?_))
      refine mw_copyR (a := a) hi n1 n8 (w40 W1 f) (by omega) ha (fun W' u1 u2 u3 u4 u5 => ⟨rfl, ?_⟩)
      have m4 : ∀ c, c = 1 ∨ c = 2 ∨ c = 3 ∨ c = 5 → M' c = M c := fun c hc => k7 c (by omega) (by omega) (by omega) (by omega) (by omega) (by omega)
      have W14 : W1 4 = W 4 := f.1 4 (by omega) (by omega) (by omega) (by omega)
      have W1lo : ∀ j, j < 60 → W' 4 j = W 4 j := fun j hj => by rw [u2 j (fun r' p _ _ => by omega), W14]
      refine hP R _ M' W1 W' h24 hp f ?_ ?_ k3 u4 k4 k5 k6 k7 u3 u5
      · obtain ⟨b0, i1, i2, i3, i4, i5, i6, i7, i8, i9, i10, i11, i12, i13, i14⟩ := id vt
        have e1 : M' 1 = M 1 := m4 1 (by omega)
        have e2 : M' (1 + 1) = M (1 + 1) := m4 2 (by omega)
        have e3 : M' (1 + 2) = M (1 + 2) := m4 3 (by omega)
        have e5 : M' (1 + 4) = M (1 + 4) := m4 5 (by omega)
        refine ⟨b0, by rw [e1]; exact i1, by rw [e1]; exact i2, by rw [e1]; exact i3, by rw [e1]; exact i4, by rw [e1]; exact i5, by rw [e1]; exact i6, by rw [e1]; exact i7, by rw [e2]; exact i8, by rw [e3]; exact i9, by rw [e3]; exact i10, fun h p hh hp => ?_, by rw [e5]; exact i12, by rw [e5]; exact i13, by rw [e1, e5]; exact i14⟩
        show ∃ c, 1 ≤ c ∧ c ≤ 9 ∧ M' 4 (h * 8 + p) = nI c
        by_cases w : y ≤ h ∧ h < y + R
        · have g := hg (h - y) (by omega) p hp
          have e := k1 (h - y) p (by omega) hp
          rw [show y + (h - y) = h by omega] at e
          have g' : 1 ≤ M (81 + 2 * i + 1) (a + ((h - y) * n + p)) ∧ M (81 + 2 * i + 1) (a + ((h - y) * n + p)) ≤ 9 := g
          obtain ⟨c0, hc9, ec⟩ := nI_of2 (x := M (81 + 2 * i + 1) (a + ((h - y) * n + p))) (M := 9) (n := 9) rfl (fun q => absurd (Int32.lt_of_lt_of_le q (by decide : (0 : Int32) ≤ 1)) (Int32.not_lt.mpr g'.1)) g'.2
          refine ⟨c0, ?_, hc9, e.trans ec⟩
          have := g'.1
          rw [ec] at this
          exact (nI_leI (a := 1) (by omega) (by omega)).mp this
        · obtain ⟨c0, c1, c9, ec⟩ := i11 h p hh hp
          refine ⟨c0, c1, c9, ?_⟩
          rw [k2 _ (fun r' p' hr' hp' => by omega)]
          exact ec
      · obtain ⟨r0, r1, r2, r3, r4, r5, r6, rrow, run', rpa, ren⟩ := id r
        refine ⟨by rw [W1lo 0 (by omega)]; exact r0, by rw [W1lo 1 (by omega)]; exact r1, by rw [W1lo 2 (by omega), m4 1 (by omega)]; exact r2, by rw [W1lo 3 (by omega), m4 1 (by omega)]; exact r3, by rw [W1lo 4 (by omega), m4 1 (by omega)]; exact r4, by rw [W1lo 5 (by omega), m4 1 (by omega)]; exact r5, by rw [W1lo 6 (by omega)]; exact r6, fun j hj => by rw [W1lo _ (by omega), m4 2 (by omega)]; exact rrow j hj, fun s p hs' hp' => by rw [W1lo _ (by omega), m4 3 (by omega)]; exact run' s p hs' hp', fun h p hh hp' => ?_, fun h hh => by rw [W1lo _ (by omega), m4 1 (by omega), m4 5 (by omega)]; exact ren h hh⟩
        by_cases w : y ≤ h ∧ h < y + R
        · have e := k1 (h - y) p (by omega) hp'
          have e' := u1 (h - y) p (by omega) hp'
          rw [show y + (h - y) = h by omega] at e e'
          rw [e, e', w18 W1 f]
          exact hcell _ (mul (h - y) p (by omega) hp')
        · rw [k2 _ (fun r' p' hr' hp'' => by omega), u2 _ (fun r' p' hr' hp'' => by omega), W14]
          exact rpa h p hh hp'
  have sc0 : ∀ f : Int32, ((z = 0 ∧ f = 0) ∨ (0 < z ∧ ((W 16 i = -4 ∧ f = 1) ∨ (∃ l', l' < 3 ∧ l' ≠ l ∧ W 16 i = nI l' ∧ f = 3) ∨ (∃ Z, Z ≤ 40 ∧ W 16 i = nI l ∧ W 17 i = nI Z ∧ a3 < 0 ∧ f = 2)))) → y + z ≤ H → ∃ k, zlp1 (wpB_Main_read_116 (nI i) (nI l) a3 (nI y) (nI z) (81 + 2 * i) f 0 (fun (zm12 : zMem) => ∃ n : Nat, zlp1 (wpB_Main_read_159 (nI i) (nI l) a3 (nI y) (nI z) (81 + 2 * i) f 0 (fun x M' => wp_Model_read (nI i) (nI l) a3 (nI y) (nI z) W (fun y W' => x = y ∧ P M' W'))) n 0 zm12) (fun x M' => wp_Model_read (nI i) (nI l) a3 (nI y) (nI z) W (fun y W' => x = y ∧ P M' W'))) k 0 M := fun f hf hle => by
    refine run 0 0 f hle (by omega) (fun w => absurd w (by omega)) (fun j hj => absurd hj (by omega)) (fun W1 K Q fa _ hk => ?_)
    have w16 : W1 16 = W 16 := fa.1 16 (by omega) (by omega) (by omega) (by omega)
    have w17 : W1 17 = W 17 := fa.1 17 (by omega) (by omega) (by omega) (by omega)
    exact mw_scan0 (n := n) hi n1 n8 hz (w40 W1 fa) hl (by rw [w16, w17]; exact hf) (hk (fun r' hr' => absurd hr' (by omega)))
  have eZ : ∃ Z, Z ≤ 40 ∧ M (81 + 2 * i) 1 = nI Z := by
    rcases hs i hi with ⟨-, s1, -⟩ | ⟨l', Z, hl', hZ, -, -, s1, -⟩
    · exact ⟨0, by omega, s1⟩
    · exact ⟨Z, hZ, s1⟩
  obtain ⟨Z, hZ, eZ⟩ := eZ
  refine ⟨fun c4 => ⟨vp_in_nI (by omega) (by omega), fun c5 => ?_, fun c5 => ?_⟩, fun c4 => ?_⟩
  · have hle := (sub_le (by omega) H5 hz).mp c4
    have z0 : 0 < z := Nat.pos_of_ne_zero (fun q => c5 (by rw [q]; rfl))
    unfold wp_Sheet_faultAs
    rcases hs i hi with ⟨s0, s1, w16⟩ | ⟨l', Z', hl', hZ', s0, w16, s1, w17, hcell⟩
    · refine ⟨fun q => absurd s0 q, fun _ => ⟨fun q => absurd q (by decide), fun _ => ⟨fun _ => sc0 1 (Or.inr ⟨z0, Or.inl ⟨w16, rfl⟩⟩) hle, fun q => absurd q (by decide)⟩⟩⟩
    · have nm1 : ¬ nI l' = -1 := fun w => absurd w (by rcases (show l' = 0 ∨ l' = 1 ∨ l' = 2 by omega) with rfl | rfl | rfl <;> decide)
      rw [s0]
      refine ⟨fun _ => ⟨fun c6 => ?_, fun c6 => ⟨fun q => absurd q (by decide), fun _ => ⟨fun _ => sc0 3 (Or.inr ⟨z0, Or.inr (Or.inl ⟨l', hl', fun w => c6 (by rw [w]), w16, rfl⟩)⟩) hle, fun q => absurd q (by decide)⟩⟩⟩, fun q => absurd q nm1⟩
      have ll : l' = l := (nI_eq (by omega) (by omega)).mp c6
      subst ll
      have ZZ : Z' = Z := (nI_eq (by omega) (by omega)).mp (s1.symm.trans eZ)
      subst ZZ
      refine ⟨fun _ => ?_, fun q => absurd rfl q⟩
      rw [hn]
      refine xt_wholeR n1 n8 hz hZ eZ (fun a0 => ⟨fun q => absurd rfl q, fun _ => ⟨fun q => ?_, fun _ => sc0 2 (Or.inr ⟨z0, Or.inr (Or.inr ⟨Z', hZ, w16, w17, a0, rfl⟩)⟩) hle⟩⟩) (fun a ha ea => ⟨fun q => absurd rfl q, fun _ => ?_⟩)
      · have := (nI_leI (b := 0) (by omega) (by omega)).mp q
        omega
      · have hRz : min z ((Z' - a) / n) ≤ z := Nat.min_le_left _ _
        have hRT : min z ((Z' - a) / n) ≤ (Z' - a) / n := Nat.min_le_right _ _
        have both : ∀ f : Int32, (f = if min z ((Z' - a) / n) = z then 0 else 2) → ∃ k, zlp1 (wpB_Main_read_116 (nI i) (nI l') a3 (nI y) (nI z) (81 + 2 * i) f (nI (min z ((Z' - a) / n))) (fun (zm12 : zMem) => ∃ kk : Nat, zlp1 (wpB_Main_read_159 (nI i) (nI l') a3 (nI y) (nI z) (81 + 2 * i) f (nI (min z ((Z' - a) / n))) (fun x M' => wp_Model_read (nI i) (nI l') a3 (nI y) (nI z) W (fun y W' => x = y ∧ P M' W'))) kk 0 zm12) (fun x M' => wp_Model_read (nI i) (nI l') a3 (nI y) (nI z) W (fun y W' => x = y ∧ P M' W'))) k 0 M := fun f hf => by
          generalize hR : min z ((Z' - a) / n) = R at hf hRz hRT
          have bd : 0 < R → a + n * R ≤ Z' := fun w => by
            have := (Nat.le_div_iff_mul_le (show 0 < n by omega)).mp hRT
            rw [Nat.mul_comm] at this
            have : 0 < n * R := Nat.mul_pos n1 w
            omega
          refine run R a f hle hRz (fun w => ⟨ea, by have := bd w; omega⟩) (fun j hj => ?_) (fun W1 K Q fa hb hk => ?_)
          · have R0 : 0 < R := by
              rcases Nat.eq_zero_or_pos R with w | w
              · rw [w, Nat.mul_zero] at hj; omega
              · exact w
            have := bd R0
            rw [Nat.add_assoc]
            exact hcell (a + j) (by omega)
          · have v16 : W1 16 i = nI l' := by rw [fa.1 16 (by omega) (by omega) (by omega) (by omega)]; exact w16
            have v17 : W1 17 i = nI Z' := by rw [fa.1 17 (by omega) (by omega) (by omega) (by omega)]; exact w17
            have := mw_scan (y := y) (K := K) (Q := Q) hi n1 n8 hz (w40 W1 fa) hl v16 v17 hZ ha rfl hR.symm hb (fun h => by rw [← hf]; exact hk h)
            rw [ea]
            exact this
        refine ⟨fun c7 => both 0 ?_, fun c7 => both 2 ?_⟩
        · have := (nI_leI (by omega) (by omega)).mp c7
          rw [if_pos (by omega)]
        · rw [if_neg (fun w => c7 (by rw [w]; exact Int32.le_refl _))]
  · have hle := (sub_le (by omega) H5 hz).mp c4
    have z0 : z = 0 := (nI_eq (b := 0) (by omega) (by omega)).mp c5
    have r0 := sc0 0 (Or.inl ⟨z0, rfl⟩) hle
    have z0' : nI z ≤ 0 := by rw [z0]; exact Int32.le_refl 0
    refine ⟨fun _ => ?_, fun q => absurd rfl q⟩
    rw [hn]
    refine xt_wholeR n1 n8 hz hZ eZ (fun _ => ⟨fun q => absurd rfl q, fun _ => ⟨fun _ => r0, fun q => absurd z0' q⟩⟩) (fun a ha ea => ?_)
    have e0 : nI (min z ((Z - a) / n)) = 0 := by rw [z0, Nat.zero_min]; rfl
    rw [e0]
    exact ⟨fun q => absurd rfl q, fun _ => ⟨fun _ => r0, fun q => absurd z0' q⟩⟩
  · exact mw_readG vt r st hi hl hy hz (fun _ => ⟨rfl, hP0⟩) (fun q => absurd ((sub_le (by omega) H5 hz).mpr q) c4)
theorem cr.mv {M M' : zMem} {n H L : Nat} (h : cr M n H L) (e : ∀ i, i ≤ 4 → M' (1 + i) = M (1 + i)) (e54 : M' 54 = M 54) : cr M' n H L := by
  rcases h with h | ⟨M0, Mc, a, b, c, d, f⟩
  · exact Or.inl (by rw [e54]; exact h)
  · refine Or.inr ⟨M0, Mc, a, b, fun i hi => (c i hi).trans (e i hi).symm, d, ?_⟩
    unfold sp_ro at f ⊢
    rw [e54]; exact f
theorem co.mv {M M' : zMem} {n H L : Nat} (h : co M n H L) (e : ∀ i, i ≤ 4 → M' (1 + i) = M (1 + i)) (e57 : M' 57 = M 57) (e58 : M' 58 = M 58) : co M' n H L := fun q hq => by
  rcases h q hq with h | ⟨o, h⟩
  · exact Or.inl (by rw [e58]; exact h)
  · exact Or.inr ⟨o, h.moved e (by rw [e57]) (by rw [e58])⟩
theorem cp.mv {M M' : zMem} {n H L : Nat} (h : cp M n H L) (e : ∀ i, i ≤ 4 → M' (1 + i) = M (1 + i)) (e60 : M' 60 = M 60) (e61 : M' 61 = M 61) : cp M' n H L := by
  rcases h with h | ⟨o, b, h1, h2, h3⟩
  · exact Or.inl (by rw [e60]; exact h)
  · refine Or.inr ⟨o, b, fun k hk => (h1 k hk).moved (fun i hi => e i (by omega)), h2, ?_⟩
    unfold pbk at h3 ⊢
    rw [e60, e61]; exact h3
theorem cc.mv {M M' : zMem} {n H L : Nat} (h : cc M n H L) (e : ∀ i, i ≤ 4 → M' (1 + i) = M (1 + i)) (f : ∀ k, 29 ≤ k → k ≤ 40 → M' k = M k) : cc M' n H L := by
  rcases h with h | ⟨m, R, m1, m2, e2, e3, ⟨M0, Mc, a, b, c, d, g⟩, hk⟩
  · exact Or.inl (by rw [f 29 (by omega) (by omega)]; exact h)
  · exact Or.inr ⟨m, R, m1, m2, by rw [f 29 (by omega) (by omega)]; exact e2, by rw [f 29 (by omega) (by omega)]; exact e3, ⟨M0, Mc, a, b, fun i hi => (c i hi).trans (e i hi).symm, d, g⟩, fun k k1 k2 => (f k (by omega) (by omega)).trans (hk k k1 k2)⟩
def Cas (M : zMem) (n H L : Nat) : Prop := cr M n H L ∧ co M n H L ∧ cp M n H L ∧ cc M n H L ∧ ztc (M 32 0) = 1
theorem Cas.mv {M M' : zMem} {n H L : Nat} (h : Cas M n H L) (e : ∀ i, i ≤ 4 → M' (1 + i) = M (1 + i)) (f : ∀ k, (29 ≤ k ∧ k ≤ 40) ∨ k = 54 ∨ k = 57 ∨ k = 58 ∨ k = 60 ∨ k = 61 → M' k = M k) : Cas M' n H L := ⟨h.1.mv e (f 54 (by omega)), h.2.1.mv e (f 57 (by omega)) (f 58 (by omega)), h.2.2.1.mv e (f 60 (by omega)) (f 61 (by omega)), h.2.2.2.1.mv e (fun k k1 k2 => f k (by omega)), by rw [f 32 (by omega)]; exact h.2.2.2.2⟩
theorem Cas.no {M : zMem} {n H L : Nat} (h54 : M 54 0 = 0) (h58 : ∀ q, q < 120 → M 58 q = 0) (h60 : M 60 0 = 0) (h29 : M 29 2 = 0) (h32 : ztc (M 32 0) = 1) (H5 : H ≤ 5) : Cas M n H L := ⟨Or.inl h54, fun q hq => Or.inl (h58 q (by have := so_f_le H (by omega); omega)), Or.inl h60, Or.inl h29, h32⟩
theorem pst.mv {W W' M M' : zMem} {n H L : Nat} (st : pst W M n H L) (vt : sp_vt M 1 n H L) (eM : ∀ c, (1 ≤ c ∧ c ≤ 5) ∨ (18 ≤ c ∧ c ≤ 26) → M' c = M c) (e24 : W' 0 24 = W 0 24) (e6 : ∀ j, j < 96 → W' 6 j = W 6 j) : pst W' M' n H L := by
  have H5 : H ≤ 5 := vt.1.2.2.2.1
  have n8 : n ≤ 8 := vt.1.2.1
  rcases st with ⟨a, p⟩ | ⟨a, z, M0, Mc, hc, ok, eq⟩
  · exact Or.inl ⟨e24.trans a, pr_cong H5 n8 (p.moved H5 n8 e6) (bsl.of (fun c c1 c2 => eM c (by omega)))⟩
  · refine Or.inr ⟨e24.trans a, fun j hj => (e6 j hj).trans (z j hj), ?_⟩
    have A1 : ∀ (X : zMem) (c : Nat), (1 ≤ c ∧ c ≤ 5) ∨ (18 ≤ c ∧ c ≤ 26) → (fun c => if (1 ≤ c ∧ c ≤ 5) ∨ (18 ≤ c ∧ c ≤ 26) then X c else M' c) c = X c := fun X c hc => if_pos hc
    have A0 : ∀ (X : zMem) (c : Nat), ¬ ((1 ≤ c ∧ c ≤ 5) ∨ (18 ≤ c ∧ c ≤ 26)) → (fun c => if (1 ≤ c ∧ c ≤ 5) ∨ (18 ≤ c ∧ c ≤ 26) then X c else M' c) c = M' c := fun X c hc => if_neg hc
    have c1 := A1 M0
    have c0 := A0 M0
    have d1 := A1 Mc
    have d0 := A0 Mc
    generalize (fun c => if (1 ≤ c ∧ c ≤ 5) ∨ (18 ≤ c ∧ c ≤ 26) then M0 c else M' c) = N0 at c1 c0
    generalize (fun c => if (1 ≤ c ∧ c ≤ 5) ∨ (18 ≤ c ∧ c ≤ 26) then Mc c else M' c) = Nc at d1 d0
    obtain ⟨q1, q2, q3, q4, q5, q6, q7, q8, q9, q10⟩ := id hc
    have hc' : sp_clear 18 N0 Nc := by
      unfold sp_clear
      rw [d1 18 (by omega), d1 (18 + 1) (by omega), d1 (18 + 2) (by omega), d1 (18 + 3) (by omega), d1 (18 + 6) (by omega), d1 (18 + 7) (by omega), d1 (18 + 8) (by omega), c1 18 (by omega)]
      refine ⟨q1, q2, q3, q4, q5, q6, q7, q8, q9, fun k hk => ?_⟩
      by_cases w : (1 ≤ k ∧ k ≤ 5) ∨ (18 ≤ k ∧ k ≤ 26)
      · rw [d1 k w, c1 k w]; exact q10 k hk
      · rw [d0 k w, c0 k w]
    have vt0 : sp_vt N0 1 n H L := ok.2.2.2.1.moved (fun i hi => by rw [c1 _ (by omega), q10 _ (by omega)])
    have ok' : sp_ok Nc 1 18 n H L := sp_ok_clear hc' (by rw [c1 18 (by omega), ← q5]; exact ok.1) (by omega) (by omega) vt0 (fun g hg => by rw [zlg_18] at hg; cases hg)
    refine ⟨N0, Nc, hc', ok', ?_⟩
    have fr := (sp_all_ok ok).2.1
    have fr' := (sp_all_ok ok').2.1
    have ev : vw 1 18 (sp_all 1 18 H Nc) = vw 1 18 (sp_all 1 18 H Mc) := by
      rw [vw_all (by omega) (by omega), vw_all (by omega) (by omega), vw_ext (t := 1) (b := 18) (M := Mc) (fun i hi => d1 _ (by omega)) (fun j _ => by rw [d1 18 (by omega)]) (fun i _ _ => d1 _ (by omega))]
    funext c
    by_cases w : 18 ≤ c ∧ c ≤ 26
    · rw [eM c (by omega), eq]
      by_cases w18 : c = 18
      · rw [w18]
        funext j
        by_cases j0 : j = 0
        · rw [j0, fr.2, fr'.2, d1 18 (by omega)]
        · rw [← vw_0 (t := 1) (b := 18) (M := sp_all 1 18 H Mc) j0, ← vw_0 (t := 1) (b := 18) (M := sp_all 1 18 H Nc) j0, ev]
      · obtain ⟨i, rfl⟩ : ∃ i, c = 18 + i := ⟨c - 18, by omega⟩
        rw [← vw_b (t := 1) (b := 18) (i := i) (M := sp_all 1 18 H Mc) (by omega) (by omega), ← vw_b (t := 1) (b := 18) (i := i) (M := sp_all 1 18 H Nc) (by omega) (by omega), ev]
    · rw [fr'.1 c (by omega) (fun q => absurd q (by omega))]
      by_cases w2 : (1 ≤ c ∧ c ≤ 5) ∨ (18 ≤ c ∧ c ≤ 26)
      · rw [d1 c w2, eM c w2, eq, fr.1 c (by omega) (fun q => absurd q (by omega))]
      · rw [d0 c w2]
/-- a memory whose bench is what image i holds -/
def imv (i : Nat) (M N : zMem) : Prop := (∀ c, 1 ≤ c → c ≤ 5 → N c = M c) ∧ ztc (N 18 0) = 1 ∧ (∀ j, 2 ≤ j → j ≤ 5 → N 18 j = M (63 + 9 * i) j) ∧ (∀ a x, 1 ≤ a → a ≤ 6 → x < 5 → N (18 + a) x = M (63 + 9 * i + a) x) ∧ (∀ x, x < 40 → N 25 x = M (63 + 9 * i + 7) x)
def img (M W : zMem) (n H L : Nat) : Prop := ∀ i, i < 2 → M 28 i = W 7 i ∧ (M 28 i ≠ 0 → W 0 24 = 1 ∧ ∀ N V, imv i M N → (∀ j, j < 96 → V 6 j = W 6 (96 * (2 + i) + j)) → bst N n H L ∧ pr V N n H)
def Res (M W : zMem) : Prop := (∃ z, z ≤ 400 ∧ M 11 5 = nI z ∧ W 0 1 = nI z ∧ tpe (M 17) (W 1) z) ∧ wtb W ∧ M 11 1 = W 0 2 ∧ M 0 13 = W 0 39 ∧ shs M W
/-- what the reference keeps -/
def wkf (W W' : zMem) : Prop := (∀ c, c = 1 ∨ c = 2 ∨ c = 3 ∨ c = 7 ∨ c = 16 ∨ c = 17 ∨ c = 18 → W' c = W c) ∧ (∀ j, j = 1 ∨ j = 2 ∨ j = 39 → W' 0 j = W 0 j) ∧ ∀ j, 192 ≤ j → W' 6 j = W 6 j
theorem mfy.wkf {W W' : zMem} (f : mfy W W') : wkf W W' := ⟨fun c hc => f.1 c (by omega) (by omega) (by omega) (by omega) (by omega) (by omega) (by omega) (by omega) (by omega) (by omega), fun j hj => f.2.2 j (by omega) (by omega) (by omega), fun j hj => f.2.1 j (by omega)⟩
theorem awf.wkf {W W' : zMem} (f : awf W W') : wkf W W' := ⟨fun c hc => f.1 c (by omega) (by omega) (by omega) (by omega), fun j hj => f.2.1 j (by omega) (by omega) (by omega), fun j hj => f.2.2 j (by omega)⟩
theorem shs.mv {M M' W W' : zMem} (h : shs M W) (e : ∀ c, 81 ≤ c → M' c = M c) (f : ∀ c, c = 16 ∨ c = 17 ∨ c = 18 → W' c = W c) : shs M' W' := fun i hi => by
  have := h i hi
  unfold sht at this ⊢
  rw [e (81 + 2 * i) (by omega), e (81 + 2 * i + 1) (by omega), f 16 (by omega), f 17 (by omega), f 18 (by omega)]
  exact this
theorem wtb.mv {W W' : zMem} (h : wtb W) (e2 : W' 2 = W 2) (e3 : W' 3 = W 3) : wtb W' := by
  unfold wtb at h ⊢
  rw [e2, e3]; exact h
theorem Res.mv {M M' W W' : zMem} (h : Res M W) (e0 : M' 0 13 = M 0 13) (e11 : M' 11 = M 11) (e17 : M' 17 = M 17) (e : ∀ c, 81 ≤ c → M' c = M c) (f : wkf W W') : Res M' W' := by
  obtain ⟨⟨z, a, b, c, d⟩, g, i, j, k⟩ := h
  exact ⟨⟨z, a, by rw [e11]; exact b, by rw [f.2.1 1 (by omega)]; exact c, by rw [e17, f.1 1 (by omega)]; exact d⟩, g.mv (f.1 2 (by omega)) (f.1 3 (by omega)), by rw [e11, f.2.1 2 (by omega)]; exact i, by rw [e0, f.2.1 39 (by omega)]; exact j, k.mv e (fun c hc => f.1 c (by omega))⟩
theorem img.mv {M M' W W' : zMem} {n H L : Nat} (h : img M W n H L) (e : ∀ c, (1 ≤ c ∧ c ≤ 5) ∨ (63 ≤ c ∧ c ≤ 80) → M' c = M c) (e28 : ∀ i, i < 2 → M' 28 i = M 28 i) (e7 : W' 7 = W 7) (e24 : W 0 24 = 1 → W' 0 24 = 1) (e6 : ∀ j, 192 ≤ j → W' 6 j = W 6 j) : img M' W' n H L := fun i hi => by
  obtain ⟨a, b⟩ := h i hi
  refine ⟨by rw [e28 i hi, e7]; exact a, fun w => ?_⟩
  rw [e28 i hi] at w
  obtain ⟨b1, b2⟩ := b w
  refine ⟨e24 b1, fun N V iv hv => b2 N V ?_ (fun j hj => by rw [hv j hj]; exact e6 _ (by omega))⟩
  obtain ⟨v1, v2, v3, v4, v5⟩ := iv
  exact ⟨fun c c1 c2 => (v1 c c1 c2).trans (e c (by omega)), v2, fun j j1 j2 => by rw [v3 j j1 j2, e _ (by omega)], fun a x a1 a2 hx => by rw [v4 a x a1 a2 hx, e _ (by omega)], fun x hx => by rw [v5 x hx, e _ (by omega)]⟩
def Cor (M W : zMem) (n H L : Nat) : Prop := sp_vt M 1 n H L ∧ rt0 W M n H L ∧ pst W M n H L ∧ bst M n H L ∧ ztc (M 18 0) = 1 ∧ img M W n H L ∧ Res M W
def Inv (M W : zMem) : Prop := ∃ n H L, Cor M W n H L ∧ Cas M n H L
/-- a question changes nothing of the core -/
theorem Cor.q {M M' W W' : zMem} {n H L : Nat} (h : Cor M W n H L) (e : ∀ c, c < 6 ∨ (11 ≤ c ∧ c < 29) ∨ 62 ≤ c → M' c = M c) (f : mfy W W') : Cor M' W' n H L := by
  obtain ⟨vt, r, st, bs, e18, im, rs⟩ := h
  have told : ∀ i, i ≤ 4 → M' (1 + i) = M (1 + i) := fun i hi => e _ (by omega)
  have vt' := vt.moved told
  refine ⟨vt', r.moved (f.1 4 (by omega) (by omega) (by omega) (by omega) (by omega) (by omega) (by omega) (by omega) (by omega) (by omega)) told, st.mv vt (fun c hc => e c (by omega)) (f.2.2 24 (by omega) (by omega) (by omega)) (fun j hj => f.2.1 j (by omega)), bst_cong bs vt' (told 0 (by omega)) (told 2 (by omega)) (told 4 (by omega)) (by rw [e 18 (by omega)]; exact e18) (bsl.of (fun c c1 c2 => e c (by omega))), by rw [e 18 (by omega)]; exact e18, im.mv (fun c hc => e c (by omega)) (fun i _ => by rw [e 28 (by omega)]) (f.wkf.1 7 (by omega)) (fun w => (f.2.2 24 (by omega) (by omega) (by omega)).trans w) f.wkf.2.2, rs.mv (by rw [e 0 (by omega)]) (e 11 (by omega)) (e 17 (by omega)) (fun c hc => e c (by omega)) f.wkf⟩
/-- a step of the bench -/
theorem Cor.b {M M' W W' : zMem} {n H L : Nat} (h : Cor M W n H L) (bs : bst M' n H L) (h24 : W' 0 24 = 1) (hp : pr W' M' n H) (e18 : M' 18 0 = M 18 0) (e : ∀ k, (k < 18 ∨ 27 ≤ k) → M' k = M k) (f : awf W W') : Cor M' W' n H L := by
  obtain ⟨vt, r, st, -, t18, im, rs⟩ := h
  have told : ∀ i, i ≤ 4 → M' (1 + i) = M (1 + i) := fun i hi => e _ (by omega)
  exact ⟨vt.moved told, r.moved (f.1 4 (by omega) (by omega) (by omega) (by omega)) told, Or.inl ⟨h24, hp⟩, bs, by rw [e18]; exact t18, im.mv (fun c hc => e c (by omega)) (fun i _ => by rw [e 28 (by omega)]) (f.wkf.1 7 (by omega)) (fun _ => h24) f.wkf.2.2, rs.mv (by rw [e 0 (by omega)]) (e 11 (by omega)) (e 17 (by omega)) (fun c hc => e c (by omega)) f.wkf⟩
theorem Cor.aw {M W W' : zMem} {n H L : Nat} (h : Cor M W n H L) (h24 : W' 0 24 = 1) (hp : pr W' M n H) (f : awf W W') : Cor M W' n H L := h.b h.2.2.2.1 h24 hp rfl (fun _ _ => rfl) f
theorem Cas.b {M M' : zMem} {n H L : Nat} (h : Cas M n H L) (e : ∀ k, (k < 18 ∨ 27 ≤ k) → M' k = M k) : Cas M' n H L := h.mv (fun i hi => e _ (by omega)) (fun k hk => e k (by omega))
theorem low8 (x : Int32) : x.toInt8.toInt32 &&& 255 = x &&& 255 := by
  refine Int32.toBitVec_inj.1 (BitVec.eq_of_toNat_eq ?_)
  show (((x.toBitVec.signExtend 8).signExtend 32) &&& 255#32).toNat = (x.toBitVec &&& 255#32).toNat
  have h1 : ((x.toBitVec.signExtend 8).signExtend 32).toInt = x.toBitVec.toInt.bmod (2 ^ min 8 32) := by rw [BitVec.toInt_signExtend_of_le (by omega), BitVec.toInt_signExtend]
  rw [BitVec.toInt_eq_toNat_bmod, BitVec.toInt_eq_toNat_bmod] at h1
  rw [BitVec.toNat_and, BitVec.toNat_and, show (255#32 : BitVec 32).toNat = 2 ^ 8 - 1 from rfl, Nat.and_two_pow_sub_one_eq_mod, Nat.and_two_pow_sub_one_eq_mod]
  generalize ((x.toBitVec.signExtend 8).signExtend 32).toNat = a at h1 ⊢
  generalize x.toBitVec.toNat = b at h1 ⊢
  unfold Int.bmod at h1
  simp only [Nat.reducePow, Nat.reduceLeDiff, Nat.min_eq_left] at h1 ⊢
  omega
/-- the tape and the fault move, nothing else -/
theorem Cor.t {M M' W W' : zMem} {n H L : Nat} (h : Cor M W n H L) (e : ∀ c, c < 11 ∨ 18 ≤ c → M' c = M c) (f : ∀ c, c ≠ 0 → c ≠ 1 → c ≠ 5 → W' c = W c) (f0 : ∀ j, j = 24 ∨ j = 39 → W' 0 j = W 0 j) (tp : ∃ z, z ≤ 400 ∧ M' 11 5 = nI z ∧ W' 0 1 = nI z ∧ tpe (M' 17) (W' 1) z) (fl : M' 11 1 = W' 0 2) : Cor M' W' n H L := by
  obtain ⟨vt, r, st, bs, e18, im, ⟨-, wt, -, tn, sh⟩⟩ := h
  have told : ∀ i, i ≤ 4 → M' (1 + i) = M (1 + i) := fun i hi => e _ (by omega)
  have vt' := vt.moved told
  refine ⟨vt', r.moved (f 4 (by omega) (by omega) (by omega)) told, st.mv vt (fun c hc => e c (by omega)) (f0 24 (by omega)) (fun j _ => by rw [f 6 (by omega) (by omega) (by omega)]), bst_cong bs vt' (told 0 (by omega)) (told 2 (by omega)) (told 4 (by omega)) (by rw [e 18 (by omega)]; exact e18) (bsl.of (fun c c1 c2 => e c (by omega))), by rw [e 18 (by omega)]; exact e18, im.mv (fun c hc => e c (by omega)) (fun i _ => by rw [e 28 (by omega)]) (f 7 (by omega) (by omega) (by omega)) (fun w => (f0 24 (by omega)).trans w) (fun j _ => by rw [f 6 (by omega) (by omega) (by omega)]), tp, wt.mv (f 2 (by omega) (by omega) (by omega)) (f 3 (by omega) (by omega) (by omega)), fl, by rw [e 0 (by omega), f0 39 (by omega)]; exact tn, sh.mv (fun c hc => e c (by omega)) (fun c hc => f c (by omega) (by omega) (by omega))⟩
theorem Cas.t {M M' : zMem} {n H L : Nat} (h : Cas M n H L) (e : ∀ c, c < 11 ∨ 18 ≤ c → M' c = M c) : Cas M' n H L := h.mv (fun i hi => e _ (by omega)) (fun k hk => e k (by omega))
theorem i_feed {M W : zMem} {a : Int64} (h : Inv M W) : wp_Main_feed a M (fun x M' => wp_Model_feed a W (fun y W' => x = y ∧ Inv M' W')) := by
  obtain ⟨n, H, L, co, ca⟩ := id h
  obtain ⟨z, z4, e5, w1, tp⟩ := co.2.2.2.2.2.2.1
  refine p_feed e5 w1 z4 h (fun M' W' hz m11 w0 hc hk em ew => ⟨n, H, L, co.t (fun c hc => em c (by omega) (by omega)) (fun c c0 c1 _ => ew c c0 c1) (fun j hj => by rw [w0, upd_ne (by omega)]) ⟨z + 8, hz, by rw [m11, upd_eq], by rw [w0, upd_eq], fun j hj => ?_⟩ ?_, ca.t (fun c hc => em c (by omega) (by omega))⟩)
  · by_cases w : j < z
    · obtain ⟨y, y1, y2⟩ := tp j w
      exact ⟨y, (hk j (Or.inl w)).1.trans y1, (hk j (Or.inl w)).2.trans y2⟩
    · obtain ⟨i, rfl⟩ : ∃ i, j = z + i := ⟨j - z, by omega⟩
      obtain ⟨u1, u2⟩ := hc i (by omega)
      refine ⟨_, u1.trans (pk_vb _), ?_⟩
      rw [u2, low8]
  · rw [m11, upd_ne (by omega), w0, upd_ne (by omega)]
    exact co.2.2.2.2.2.2.2.2.1
theorem i_end {M W : zMem} {a : Int32} (h : Inv M W) : wp_Main_end a M (fun x M' => wp_Model_end a W (fun y W' => x = y ∧ Inv M' W')) := by
  obtain ⟨n, H, L, co, ca⟩ := id h
  obtain ⟨z, z4, e5, w1, tp⟩ := co.2.2.2.2.2.2.1
  refine p_end e5 w1 z4 h (fun j hj _ => ⟨n, H, L, co.t (fun c hc => zup_ne (by omega)) (fun c c0 _ _ => zup_ne c0) (fun i hi => by rw [zup_eq, upd_ne (by omega)]) ⟨j, by omega, by rw [zup_eq, upd_eq], by rw [zup_eq, upd_eq], ?_⟩ ?_, ca.t (fun c hc => zup_ne (by omega))⟩)
  · rw [zup_ne (by omega), zup_ne (by omega)]
    exact fun i hi => tp i (by omega)
  · rw [zup_eq, upd_ne (by omega), zup_eq, upd_ne (by omega)]
    exact co.2.2.2.2.2.2.2.2.1
theorem i_text {M W : zMem} (h : Inv M W) : wp_Main_text M (fun x M' => wp_Model_text W (fun y W' => x = y ∧ Inv M' W')) := by
  obtain ⟨n, H, L, co, ca⟩ := id h
  obtain ⟨z, z4, e5, w1, tp⟩ := co.2.2.2.2.2.2.1
  obtain ⟨wt, fl, tn, sh⟩ := co.2.2.2.2.2.2.2
  refine p_text e5 z4 w1 tp wt co.2.2.2.2.1 (fun M' W' em m5 w2 t => ⟨n, H, L, co.t (fun c hc => em c (by omega)) (fun c c0 _ c5 => t.1 c c0 c5) (fun j hj => t.2.2 j (by omega)) ⟨0, by omega, m5, t.2.1, fun j hj => absurd hj (by omega)⟩ w2.symm, ca.t (fun c hc => em c (by omega))⟩) (fun n H L M' W' vt r bs h24 hp e18 tg t29 m5 m1 w1 wc w70 w71 w6 w0 => ⟨n, H, L, ⟨vt, r, Or.inl ⟨h24, hp⟩, bs, by rw [e18]; exact co.2.2.2.2.1, fun i hi => ?_, ⟨0, by omega, m5, w1, fun j hj => absurd hj (by omega)⟩, wt.mv (wc 2 (by omega) (by omega) (by omega) (by omega) (by omega) (by omega) (by omega)) (wc 3 (by omega) (by omega) (by omega) (by omega) (by omega) (by omega) (by omega)), m1, by rw [tg.1 0 (by omega), w0 39 (by omega)]; exact tn, sh.mv (fun c hc => tg.1 c (by omega)) (fun c hc => wc c (by omega) (by omega) (by omega) (by omega) (by omega) (by omega) (by omega))⟩, Cas.no tg.2.2.1 tg.2.2.2.2.1 tg.2.2.2.1 tg.2.1 (by rw [tg.1 32 (by omega)]; exact ca.2.2.2.2) vt.1.2.2.2.1⟩)
  rcases (show i = 0 ∨ i = 1 by omega) with rfl | rfl
  · exact ⟨tg.2.2.2.2.2.1.trans w70.symm, fun w => absurd tg.2.2.2.2.2.1 w⟩
  · exact ⟨tg.2.2.2.2.2.2.trans w71.symm, fun w => absurd tg.2.2.2.2.2.2 w⟩
theorem i_setPace {M W : zMem} {a1 a2 a3 : Int32} (h : Inv M W) : wp_Main_setPace a1 a2 a3 M (fun x M' => wp_Model_setPace a1 a2 a3 W (fun y W' => x = y ∧ Inv M' W')) := by
  obtain ⟨n, H, L, co, ca⟩ := id h
  obtain ⟨vt, r, st, bs, e18, im, rs⟩ := id co
  obtain ⟨⟨n1, n8, H1, H5, L1, L6⟩, -⟩ := id vt
  refine p_setPace vt r st h (fun h0 p0 c0 M' W1 hh hp c1 c9 m4 m29 m54 m60 m58 em h24 hpr f => ?_)
  have mc : ∀ c, c ≠ 4 → c < 29 ∨ 61 ≤ c → M' c = M c := fun c c4 hc => em c c4 (by omega) (by omega) (by omega) (by omega)
  have vp : ∀ X X' : zMem, sp_vt X 1 n H L → (∀ c, c = 1 ∨ c = 2 ∨ c = 3 ∨ c = 5 → X' c = X c) → X' 4 = upd (X 4) (h0 * 8 + p0) (nI c0) → sp_vt X' 1 n H L := fun X X' v ec e4 => by
    obtain ⟨b0, i1, i2, i3, i4, i5, i6, i7, i8, i9, i10, i11, i12, i13, i14⟩ := v
    have e1 : X' 1 = X 1 := ec 1 (by omega)
    have e2 : X' (1 + 1) = X (1 + 1) := ec 2 (by omega)
    have e3 : X' (1 + 2) = X (1 + 2) := ec 3 (by omega)
    have e5 : X' (1 + 4) = X (1 + 4) := ec 5 (by omega)
    refine ⟨b0, by rw [e1]; exact i1, by rw [e1]; exact i2, by rw [e1]; exact i3, by rw [e1]; exact i4, by rw [e1]; exact i5, by rw [e1]; exact i6, by rw [e1]; exact i7, by rw [e2]; exact i8, by rw [e3]; exact i9, by rw [e3]; exact i10, fun h p hh hp => ?_, by rw [e5]; exact i12, by rw [e5]; exact i13, by rw [e1, e5]; exact i14⟩
    show ∃ c, 1 ≤ c ∧ c ≤ 9 ∧ X' 4 (h * 8 + p) = nI c
    rw [e4]
    by_cases w : h * 8 + p = h0 * 8 + p0
    · exact ⟨c0, c1, c9, by rw [w, upd_eq]⟩
    · rw [upd_ne w]; exact i11 h p hh hp
  have vt' : sp_vt M' 1 n H L := vp M M' vt (fun c hc => mc c (by omega) (by omega)) m4
  have b18 : bsl M' M := bsl.of (fun c c1 c2 => mc c (by omega) (by omega))
  have W14 : W1 4 = W 4 := f.1 4 (by omega) (by omega) (by omega) (by omega)
  refine ⟨n, H, L, ⟨vt', ?_, Or.inl ⟨by rw [zup_ne (by omega)]; exact h24, pr_cong H5 n8 (hpr.moved H5 n8 (fun j _ => by rw [zup_ne (by omega)])) b18⟩, bst_cong bs vt' (mc 1 (by omega) (by omega)) (mc 3 (by omega) (by omega)) (mc 5 (by omega) (by omega)) (by rw [mc 18 (by omega) (by omega)]; exact e18) b18, by rw [mc 18 (by omega) (by omega)]; exact e18, fun i hi => ?_, rs.mv (by rw [mc 0 (by omega) (by omega)]) (mc 11 (by omega) (by omega)) (mc 17 (by omega) (by omega)) (fun c hc => mc c (by omega) (by omega)) ?_⟩, Cas.no m54 m58 m60 m29 (by rw [em 32 (by omega) (by omega) (by omega) (by omega) (by omega)]; exact ca.2.2.2.2) H5⟩
  · obtain ⟨r0, r1, r2, r3, r4, r5, r6, rrow, run, rpa, ren⟩ := id r
    have y4 : ∀ j, j < 60 → zup W1 4 (60 + 8 * h0 + p0) (nI c0) 4 j = W 4 j := fun j hj => by rw [zup_eq, upd_ne (by omega), W14]
    have k1 := mc 1 (by omega) (by omega)
    refine ⟨by rw [y4 0 (by omega)]; exact r0, by rw [y4 1 (by omega)]; exact r1, by rw [y4 2 (by omega), k1]; exact r2, by rw [y4 3 (by omega), k1]; exact r3, by rw [y4 4 (by omega), k1]; exact r4, by rw [y4 5 (by omega), k1]; exact r5, by rw [y4 6 (by omega)]; exact r6, fun j hj => by rw [y4 _ (by omega), mc 2 (by omega) (by omega)]; exact rrow j hj, fun s p hs' hp' => by rw [y4 _ (by omega), mc 3 (by omega) (by omega)]; exact run s p hs' hp', fun h p hh' hp' => ?_, fun h hh => by rw [y4 _ (by omega), k1, mc 5 (by omega) (by omega)]; exact ren h hh⟩
    rw [m4, zup_eq]
    by_cases w : h = h0 ∧ p = p0
    · rw [w.1, w.2, upd_eq, upd_eq]
    · rw [upd_ne (by omega), upd_ne (by omega), W14]; exact rpa h p hh' hp'
  · obtain ⟨a, b⟩ := im i hi
    have fw := f.wkf
    refine ⟨by rw [mc 28 (by omega) (by omega), zup_ne (by omega), fw.1 7 (by omega)]; exact a, fun w => ?_⟩
    rw [mc 28 (by omega) (by omega)] at w
    obtain ⟨b1, b2⟩ := b w
    refine ⟨by rw [zup_ne (by omega)]; exact h24, fun N V iv hv => ?_⟩
    obtain ⟨v1, v2, v3, v4, v5⟩ := iv
    -- the same, with the pace as it was
    have N4 : ∀ c, c ≠ 4 → (fun c => if c = 4 then M 4 else N c) c = N c := fun c hc => if_neg hc
    have N44 : (fun c => if c = 4 then M 4 else N c) 4 = M 4 := if_pos rfl
    generalize (fun c => if c = 4 then M 4 else N c) = X at N4 N44
    obtain ⟨bX, pX⟩ := b2 X V ⟨fun c c1 c2 => by
        by_cases w : c = 4
        · rw [w]; exact N44
        · rw [N4 c w, v1 c c1 c2]; exact mc c w (by omega), by rw [N4 18 (by omega)]; exact v2, fun j j1 j2 => by rw [N4 18 (by omega), v3 j j1 j2, mc _ (by omega) (by omega)], fun a x a1 a2 hx => by rw [N4 _ (by omega), v4 a x a1 a2 hx, mc _ (by omega) (by omega)], fun x hx => by rw [N4 25 (by omega), v5 x hx, mc _ (by omega) (by omega)]⟩ (fun j hj => by rw [hv j hj, zup_ne (by omega)]; exact fw.2.2 _ (by omega))
    have bs2 : bsl N X := bsl.of (fun c c1 c2 => (N4 c (by omega)).symm)
    exact ⟨bst_cong bX (vp X N bX.1.2.2.2.1 (fun c hc => (N4 c (by omega)).symm) (by rw [N44, v1 4 (by omega) (by omega)]; exact m4)) (N4 1 (by omega)).symm (N4 3 (by omega)).symm (N4 5 (by omega)).symm v2 bs2, pr_cong H5 n8 pX bs2⟩
  · have fw := f.wkf
    exact ⟨fun c hc => by rw [zup_ne (by omega)]; exact fw.1 c hc, fun j hj => by rw [zup_ne (by omega)]; exact fw.2.1 j hj, fun j hj => by rw [zup_ne (by omega)]; exact fw.2.2 j hj⟩
theorem Res.mv2 {M M' W W' : zMem} (h : Res M W) (e0 : M' 0 13 = M 0 13) (e11 : M' 11 = M 11) (e17 : M' 17 = M 17) (e : ∀ c, 81 ≤ c → M' c = M c) (f : ∀ c, c = 1 ∨ c = 2 ∨ c = 3 ∨ c = 16 ∨ c = 17 ∨ c = 18 → W' c = W c) (g : ∀ j, j = 1 ∨ j = 2 ∨ j = 39 → W' 0 j = W 0 j) : Res M' W' := by
  obtain ⟨⟨z, a, b, c, d⟩, wt, i, j, k⟩ := h
  exact ⟨⟨z, a, by rw [e11]; exact b, by rw [g 1 (by omega)]; exact c, by rw [e17, f 1 (by omega)]; exact d⟩, wt.mv (f 2 (by omega)) (f 3 (by omega)), by rw [e11, g 2 (by omega)]; exact i, by rw [e0, g 39 (by omega)]; exact j, k.mv e (fun c hc => f c (by omega))⟩
theorem img.pc {M M' W W' : zMem} {n H L : Nat} (h : img M W n H L) (vt' : sp_vt M' 1 n H L) (e : ∀ c, c = 1 ∨ c = 2 ∨ c = 3 ∨ c = 5 ∨ c = 28 ∨ (63 ≤ c ∧ c ≤ 80) → M' c = M c) (e7 : W' 7 = W 7) (e24 : W' 0 24 = 1) (e6 : ∀ j, 192 ≤ j → W' 6 j = W 6 j) : img M' W' n H L := fun i hi => by
  have H5 : H ≤ 5 := vt'.1.2.2.2.1
  have n8 : n ≤ 8 := vt'.1.2.1
  obtain ⟨a, b⟩ := h i hi
  refine ⟨by rw [e 28 (by omega), e7]; exact a, fun w => ?_⟩
  rw [e 28 (by omega)] at w
  obtain ⟨b1, b2⟩ := b w
  refine ⟨e24, fun N V iv hv => ?_⟩
  obtain ⟨v1, v2, v3, v4, v5⟩ := iv
  have N4 : ∀ c, c ≠ 4 → (fun c => if c = 4 then M 4 else N c) c = N c := fun c hc => if_neg hc
  have N44 : (fun c => if c = 4 then M 4 else N c) 4 = M 4 := if_pos rfl
  generalize (fun c => if c = 4 then M 4 else N c) = X at N4 N44
  obtain ⟨bX, pX⟩ := b2 X V ⟨fun c c1 c2 => by
      by_cases w : c = 4
      · rw [w]; exact N44
      · rw [N4 c w, v1 c c1 c2]; exact e c (by omega), by rw [N4 18 (by omega)]; exact v2, fun j j1 j2 => by rw [N4 18 (by omega), v3 j j1 j2, e _ (by omega)], fun a x a1 a2 hx => by rw [N4 _ (by omega), v4 a x a1 a2 hx, e _ (by omega)], fun x hx => by rw [N4 25 (by omega), v5 x hx, e _ (by omega)]⟩ (fun j hj => by rw [hv j hj]; exact e6 _ (by omega))
  have bs2 : bsl N X := bsl.of (fun c c1 c2 => (N4 c (by omega)).symm)
  exact ⟨bst_cong bX (vt'.moved (fun i hi => v1 _ (by omega) (by omega))) (N4 1 (by omega)).symm (N4 3 (by omega)).symm (N4 5 (by omega)).symm v2 bs2, pr_cong H5 n8 pX bs2⟩
theorem i_keep {M W : zMem} {a : Int32} (h : Inv M W) : wp_Main_keep a M (fun x M' => wp_Model_keep a W (fun y W' => x = y ∧ Inv M' W')) := by
  obtain ⟨n, H, L, co, ca⟩ := id h
  obtain ⟨vt, r, st, bs, e18, im, rs⟩ := id co
  have H5 : H ≤ 5 := vt.1.2.2.2.1
  have n8 : n ≤ 8 := vt.1.2.1
  refine p_keep vt r st (fun i hi => (im i hi).1) h (fun i M' W1 W' hi bd h24 hp f w6 w6o wk => ?_)
  obtain ⟨d1, -, d3, d4, d5⟩ := bd
  generalize hA : zup M' 28 i 1 = A
  generalize hB : zup W' 7 i 1 = B
  have Ac : ∀ c, c ≠ 28 → A c = M' c := fun c hc => by rw [← hA, zup_ne hc]
  have Am : ∀ c, c ≠ 28 → c < 63 + 9 * i ∨ 63 + 9 * i + 8 ≤ c → A c = M c := fun c c28 hc => by rw [Ac c c28]; exact d5 c hc
  have Bc : ∀ c, c ≠ 7 → B c = W' c := fun c hc => by rw [← hB, zup_ne hc]
  have told : ∀ i, i ≤ 4 → A (1 + i) = M (1 + i) := fun i hi => Am _ (by omega) (by omega)
  have vt' := vt.moved told
  have b18 : bsl A M := bsl.of (fun c c1 c2 => Am c (by omega) (by omega))
  have e18' : ztc (A 18 0) = 1 := by rw [Am 18 (by omega) (by omega)]; exact e18
  have B6 : ∀ j, j < 96 → B 6 j = W1 6 j := fun j hj => by rw [Bc 6 (by omega)]; exact w6o j (by omega)
  have h24' : B 0 24 = 1 := by rw [Bc 0 (by omega), wk 0 (by omega)]; exact h24
  have fw := f.wkf
  refine ⟨n, H, L, ⟨vt', r.moved (by rw [Bc 4 (by omega), wk 4 (by omega)]; exact f.1 4 (by omega) (by omega) (by omega) (by omega)) told, Or.inl ⟨h24', pr_cong H5 n8 (hp.moved H5 n8 B6) b18⟩, bst_cong bs vt' (told 0 (by omega)) (told 2 (by omega)) (told 4 (by omega)) e18' b18, e18', fun i' hi' => ?_, rs.mv2 (by rw [Am 0 (by omega) (by omega)]) (Am 11 (by omega) (by omega)) (Am 17 (by omega) (by omega)) (fun c hc => Am c (by omega) (by omega)) (fun c hc => by rw [Bc c (by omega), wk c (by omega)]; exact fw.1 c (by omega)) (fun j hj => by rw [Bc 0 (by omega), wk 0 (by omega)]; exact fw.2.1 j hj)⟩, ca.mv told (fun k hk => Am k (by omega) (by omega))⟩
  by_cases w : i' = i
  · subst w
    refine ⟨by rw [← hA, ← hB, zup_eq, zup_eq, upd_eq, upd_eq], fun _ => ⟨h24', fun N V iv hv => ?_⟩⟩
    obtain ⟨v1, v2, v3, v4, v5⟩ := iv
    have bN : bsl N M := ⟨fun j j1 j2 => by rw [v3 j j1 j2, Ac _ (by omega)]; exact d1 j j1 j2, fun a x a1 a2 hx => by rw [v4 a x a1 a2 hx, Ac _ (by omega)]; exact d3 a x a1 a2 hx, fun x hx => by rw [v5 x hx, Ac _ (by omega)]; exact d4 x hx⟩
    have toldN : ∀ i, i ≤ 4 → N (1 + i) = M (1 + i) := fun i hi => (v1 _ (by omega) (by omega)).trans (told i hi)
    refine ⟨bst_cong bs (vt.moved toldN) (toldN 0 (by omega)) (toldN 2 (by omega)) (toldN 4 (by omega)) v2 bN, pr_cong H5 n8 (hp.moved H5 n8 (fun j hj => ?_)) bN⟩
    rw [hv j hj, Bc 6 (by omega)]
    exact w6 j hj
  · obtain ⟨a, b⟩ := im i' hi'
    have a28 : A 28 i' = M 28 i' := by rw [← hA, zup_eq, upd_ne w, d5 28 (by omega)]
    have b7 : B 7 i' = W 7 i' := by rw [← hB, zup_eq, upd_ne w, wk 7 (by omega), fw.1 7 (by omega)]
    refine ⟨by rw [a28, b7]; exact a, fun w2 => ?_⟩
    rw [a28] at w2
    obtain ⟨-, b2⟩ := b w2
    refine ⟨h24', fun N V iv hv => b2 N V ?_ (fun j hj => ?_)⟩
    · obtain ⟨v1, v2, v3, v4, v5⟩ := iv
      exact ⟨fun c c1 c2 => by rw [v1 c c1 c2]; exact Am c (by omega) (by omega), v2, fun j j1 j2 => by rw [v3 j j1 j2, Am _ (by omega) (by omega)], fun a x a1 a2 hx => by rw [v4 a x a1 a2 hx, Am _ (by omega) (by omega)], fun x hx => by rw [v5 x hx, Am _ (by omega) (by omega)]⟩
    · rw [hv j hj, Bc 6 (by omega), w6o _ (by omega)]
      exact fw.2.2 _ (by omega)
theorem i_back {M W : zMem} {a : Int32} (h : Inv M W) : wp_Main_back a M (fun x M' => wp_Model_back a W (fun y W' => x = y ∧ Inv M' W')) := by
  obtain ⟨n, H, L, co, ca⟩ := id h
  obtain ⟨vt, r, st, bs, e18, im, rs⟩ := id co
  refine p_back (fun i hi => (im i hi).1) h (fun i M' W' hi hk bd w6 w6o wk => ?_)
  obtain ⟨d1, d2, d3, d4, d5⟩ := bd
  obtain ⟨h24, b2⟩ := (im i hi).2 hk
  have e18' : ztc (M' 18 0) = 1 := by rw [d2 0 (by omega)]; exact e18
  have told : ∀ i, i ≤ 4 → M' (1 + i) = M (1 + i) := fun i hi => d5 _ (by omega)
  obtain ⟨bs', hp⟩ := b2 M' W' ⟨fun c c1 c2 => d5 c (by omega), e18', d1, d3, d4⟩ w6
  have h24' : W' 0 24 = 1 := by rw [wk 0 (by omega)]; exact h24
  refine ⟨hp.1.1.symm, n, H, L, ⟨vt.moved told, r.moved (wk 4 (by omega)) told, Or.inl ⟨h24', hp⟩, bs', e18', im.mv (fun c hc => d5 c (by omega)) (fun i _ => by rw [d5 28 (by omega)]) (wk 7 (by omega)) (fun _ => h24') (fun j hj => w6o j (by omega)), rs.mv2 (by rw [d5 0 (by omega)]) (d5 11 (by omega)) (d5 17 (by omega)) (fun c hc => d5 c (by omega)) (fun c hc => wk c (by omega)) (fun j _ => by rw [wk 0 (by omega)])⟩, ca.mv told (fun k hk => d5 k (by omega))⟩
/-- the sheets move, nothing else -/
theorem Cor.s {M M' W W' : zMem} {n H L : Nat} (h : Cor M W n H L) (e : ∀ c, c < 81 → M' c = M c) (f : ∀ c, c < 16 → W' c = W c) (sh : shs M' W') : Cor M' W' n H L := by
  obtain ⟨vt, r, st, bs, e18, im, ⟨⟨z, a, b, c, d⟩, wt, i, j, -⟩⟩ := h
  have told : ∀ i, i ≤ 4 → M' (1 + i) = M (1 + i) := fun i hi => e _ (by omega)
  have vt' := vt.moved told
  exact ⟨vt', r.moved (f 4 (by omega)) told, st.mv vt (fun c hc => e c (by omega)) (by rw [f 0 (by omega)]) (fun j _ => by rw [f 6 (by omega)]), bst_cong bs vt' (told 0 (by omega)) (told 2 (by omega)) (told 4 (by omega)) (by rw [e 18 (by omega)]; exact e18) (bsl.of (fun c c1 c2 => e c (by omega))), by rw [e 18 (by omega)]; exact e18, im.mv (fun c hc => e c (by omega)) (fun i _ => by rw [e 28 (by omega)]) (f 7 (by omega)) (fun w => by rw [f 0 (by omega)]; exact w) (fun j _ => by rw [f 6 (by omega)]), ⟨z, a, by rw [e 11 (by omega)]; exact b, by rw [f 0 (by omega)]; exact c, by rw [e 17 (by omega), f 1 (by omega)]; exact d⟩, wt.mv (f 2 (by omega)) (f 3 (by omega)), by rw [e 11 (by omega), f 0 (by omega)]; exact i, by rw [e 0 (by omega), f 0 (by omega)]; exact j, sh⟩
theorem i_sheet {M W : zMem} {a1 a2 a3 : Int32} (h : Inv M W) : wp_Main_sheet a1 a2 a3 M (fun x M' => wp_Model_sheet a1 a2 a3 W (fun y W' => x = y ∧ Inv M' W')) := by
  obtain ⟨n, H, L, co, ca⟩ := id h
  have sh : shs M W := co.2.2.2.2.2.2.2.2.2.2
  refine p_sheet h (fun i l z M' W' hi hl hz m1 m2 mo w16 w17 w18 w18o wo => ⟨n, H, L, co.s (fun c hc => mo c (by omega) (by omega)) (fun c hc => wo c (by omega) (by omega) (by omega)) (fun i' hi' => ?_), ca.mv (fun k hk => mo _ (by omega) (by omega)) (fun k hk => mo k (by omega) (by omega))⟩)
  by_cases w : i' = i
  · subst w
    refine Or.inr ⟨l, z, hl, hz, ?_, ?_, ?_, ?_, fun j hj => ?_⟩
    · rw [m1, upd_ne (by omega), upd_eq]
    · rw [w16, upd_eq]
    · rw [m1, upd_eq]
    · rw [w17, upd_eq]
    · rw [w18 j (by omega), m2 j (by omega)]
  · have k1 := mo (81 + 2 * i') (by omega) (by omega)
    have k2 := mo (81 + 2 * i' + 1) (by omega) (by omega)
    rcases sh i' hi' with ⟨a, b, c⟩ | ⟨l', z', a, b, c, d, e, f, g⟩
    · exact Or.inl ⟨by rw [k1]; exact a, by rw [k1]; exact b, by rw [w16, upd_ne w]; exact c⟩
    · exact Or.inr ⟨l', z', a, b, by rw [k1]; exact c, by rw [w16, upd_ne w]; exact d, by rw [k1]; exact e, by rw [w17, upd_ne w]; exact f, fun j hj => by rw [w18o _ (by omega), k2]; exact g j hj⟩
theorem i_lay {M W : zMem} {a1 a2 a3 : Int32} (h : Inv M W) : wp_Main_lay a1 a2 a3 M (fun x M' => wp_Model_lay a1 a2 a3 W (fun y W' => x = y ∧ Inv M' W')) := by
  obtain ⟨n, H, L, co, ca⟩ := id h
  have sh : shs M W := co.2.2.2.2.2.2.2.2.2.2
  refine p_lay sh h (fun i j v hi hj => ⟨n, H, L, co.s (fun c hc => zup_ne (by omega)) (fun c hc => zup_ne (by omega)) (fun i' hi' => ?_), ca.mv (fun k hk => zup_ne (by omega)) (fun k hk => zup_ne (by omega))⟩)
  have k1 : zup M (81 + 2 * i + 1) j v (81 + 2 * i') = M (81 + 2 * i') := zup_ne (by omega)
  have k16 : zup W 18 (40 * i + j) v 16 = W 16 := zup_ne (by omega)
  have k17 : zup W 18 (40 * i + j) v 17 = W 17 := zup_ne (by omega)
  rcases sh i' hi' with ⟨a, b, c⟩ | ⟨l', z', a, b, c, d, e, f, g⟩
  · exact Or.inl ⟨by rw [k1]; exact a, by rw [k1]; exact b, by rw [k16]; exact c⟩
  · refine Or.inr ⟨l', z', a, b, by rw [k1]; exact c, by rw [k16]; exact d, by rw [k1]; exact e, by rw [k17]; exact f, fun j' hj' => ?_⟩
    by_cases w : i' = i ∧ j' = j
    · rw [w.1, w.2, zup_eq, zup_eq, upd_eq, upd_eq]
    · rw [zup_eq, upd_ne (by omega)]
      by_cases w2 : i' = i
      · have : j' ≠ j := fun q => w ⟨w2, q⟩
        rw [w2, zup_eq, upd_ne this, ← w2]; exact g j' hj'
      · rw [zup_ne (by omega)]; exact g j' hj'
theorem i_read {M W : zMem} {a1 a2 a3 a4 a5 : Int32} (h : Inv M W) : wp_Main_read a1 a2 a3 a4 a5 M (fun x M' => wp_Model_read a1 a2 a3 a4 a5 W (fun y W' => x = y ∧ Inv M' W')) := by
  obtain ⟨n, H, L, co, ca⟩ := id h
  obtain ⟨vt, r, st, bs, e18, im, rs⟩ := id co
  have H5 : H ≤ 5 := vt.1.2.2.2.1
  have n8 : n ≤ 8 := vt.1.2.1
  have sh : shs M W := co.2.2.2.2.2.2.2.2.2.2
  refine p_read vt r st sh h (fun W1 h24 hp f => ⟨n, H, L, co.aw h24 hp f, ca⟩) (fun R g M' W1 W' h24 hp f vt' r' m13 w39 m0 mR0 mR mo wo w0 => ?_)
  have fw := f.wkf
  have b18 : bsl M' M := bsl.of (fun c c1 c2 => mo c (by omega) (by omega) (by omega) (by omega) (by omega) (by omega))
  have mk : ∀ c, c ≠ 0 → c ≠ 4 → c < 29 ∨ 61 ≤ c → M' c = M c := fun c c0 c4 hc => mo c c0 c4 (by omega) (by omega) (by omega) (by omega)
  have e18' : ztc (M' 18 0) = 1 := by rw [mk 18 (by omega) (by omega) (by omega)]; exact e18
  have h24' : W' 0 24 = 1 := by rw [w0 24 (by omega)]; exact h24
  obtain ⟨⟨z, q1, q2, q3, q4⟩, wt, fl, -, -⟩ := rs
  refine ⟨n, H, L, ⟨vt', r', Or.inl ⟨h24', pr_cong H5 n8 (hp.moved H5 n8 (fun j _ => by rw [wo 6 (by omega) (by omega)])) b18⟩, bst_cong bs vt' (mk 1 (by omega) (by omega) (by omega)) (mk 3 (by omega) (by omega) (by omega)) (mk 5 (by omega) (by omega) (by omega)) e18' b18, e18', im.pc vt' (fun c hc => mk c (by omega) (by omega) (by omega)) (by rw [wo 7 (by omega) (by omega)]; exact fw.1 7 (by omega)) h24' (fun j hj => by rw [wo 6 (by omega) (by omega)]; exact fw.2.2 j hj), ⟨z, q1, by rw [mk 11 (by omega) (by omega) (by omega)]; exact q2, by rw [w0 1 (by omega), fw.2.1 1 (by omega)]; exact q3, by rw [mk 17 (by omega) (by omega) (by omega), wo 1 (by omega) (by omega), fw.1 1 (by omega)]; exact q4⟩, wt.mv (by rw [wo 2 (by omega) (by omega)]; exact fw.1 2 (by omega)) (by rw [wo 3 (by omega) (by omega)]; exact fw.1 3 (by omega)), by rw [mk 11 (by omega) (by omega) (by omega), w0 2 (by omega), fw.2.1 2 (by omega)]; exact fl, by rw [m13, w39], sh.mv (fun c hc => mk c (by omega) (by omega) (by omega)) (fun c hc => by rw [wo c (by omega) (by omega)]; exact fw.1 c (by omega))⟩, ?_⟩
  rcases Nat.eq_zero_or_pos R with w | w
  · exact ca.mv (fun i hi => mR0 w _ (by omega)) (fun k hk => mR0 w k (by omega))
  · obtain ⟨s1, s2, s3, s4⟩ := mR w
    exact Cas.no s2 s4 s3 s1 (by rw [mo 32 (by omega) (by omega) (by omega) (by omega) (by omega) (by omega)]; exact ca.2.2.2.2) H5
set_option maxHeartbeats 4000000 in
theorem Inv_law {M W : zMem} {op : Int32} {a : Nat → Int32} (h : Inv M W) : zLaw op a M W (fun M' W' => Inv M' W') := by
  obtain ⟨n, H, L, cor, ca⟩ := id h
  obtain ⟨vt, r, st, bs, e18, im, rs⟩ := id cor
  obtain ⟨hcr, hco, hcp, hcc, h32⟩ := id ca
  obtain ⟨⟨z, z4, e5, w1, tp⟩, wt, fl, tn, sh⟩ := id rs
  have e28 : ∀ i, i < 2 → M 28 i = W 7 i := fun i hi => (im i hi).1
  have q : ∀ M' W', (∀ c, c < 6 ∨ (11 ≤ c ∧ c < 29) ∨ 62 ≤ c → M' c = M c) → mfy W W' → Cas M' n H L → Inv M' W' := fun M' W' e f c => ⟨n, H, L, cor.q e f, c⟩
  have bn : ∀ M' W', bst M' n H L → W' 0 24 = 1 → pr W' M' n H → M' 18 0 = M 18 0 → (∀ k, (k < 18 ∨ 27 ≤ k) → M' k = M k) → awf W W' → Inv M' W' := fun M' W' b h24 hp e8 e f => ⟨n, H, L, cor.b b h24 hp e8 e f, ca.b e⟩
  have aw : ∀ W', W' 0 24 = 1 → pr W' M n H → awf W W' → Inv M W' := fun W' h24 hp f => ⟨n, H, L, cor.aw h24 hp f, ca⟩
  have run : ∀ M' W', cc M' n H L → cfc M M' → mfy W W' → Inv M' W' := fun M' W' c f g => q M' W' (fun c hc => f.2 c (by omega)) g ⟨hcr.mv (fun i hi => f.2 _ (by omega)) (f.2 54 (by omega)), hco.mv (fun i hi => f.2 _ (by omega)) (f.2 57 (by omega)) (f.2 58 (by omega)), hcp.mv (fun i hi => f.2 _ (by omega)) (f.2 60 (by omega)) (f.2 61 (by omega)), c, by rw [f.1]; exact h32⟩
  have ring : ∀ M' W', cfr 54 M M' → mfy W W' → cr M' n H L → Inv M' W' := fun M' W' f g c => q M' W' (fun c hc => f c (by omega) (by omega)) g ⟨c, hco.mv (fun i hi => f _ (by omega) (by omega)) (f 57 (by omega) (by omega)) (f 58 (by omega) (by omega)), hcp.mv (fun i hi => f _ (by omega) (by omega)) (f 60 (by omega) (by omega)) (f 61 (by omega) (by omega)), hcc.mv (fun i hi => f _ (by omega) (by omega)) (fun k k1 k2 => f k (by omega) (by omega)), by rw [f 32 (by omega) (by omega)]; exact h32⟩
  have ord : ∀ M' W', ofr M M' → mfy W W' → co M' n H L → Inv M' W' := fun M' W' f g c => q M' W' (fun c hc => f c (by omega)) g ⟨hcr.mv (fun i hi => f _ (by omega)) (f 54 (by omega)), c, hcp.mv (fun i hi => f _ (by omega)) (f 60 (by omega)) (f 61 (by omega)), hcc.mv (fun i hi => f _ (by omega)) (fun k k1 k2 => f k (by omega)), by rw [f 32 (by omega)]; exact h32⟩
  have es : (M 81 0 = -1 ∧ W 16 0 = -4) ∨ (M 81 0 ≠ -1 ∧ W 16 0 ≠ -4 ∧ M 81 1 = W 17 0) := by
    rcases sh 0 (by omega) with ⟨a, b, c⟩ | ⟨l, z, hl, hz, c, d, e, f, -⟩
    · exact Or.inl ⟨a, c⟩
    · have c' : M 81 0 = nI l := c
      have e' : M 81 1 = nI z := e
      refine Or.inr ⟨fun w => ?_, fun w => ?_, e'.trans f.symm⟩
      · rw [c'] at w
        exact absurd w (by rcases (show l = 0 ∨ l = 1 ∨ l = 2 by omega) with rfl | rfl | rfl <;> decide)
      · rw [d] at w
        exact absurd w (by rcases (show l = 0 ∨ l = 1 ∨ l = 2 by omega) with rfl | rfl | rfl <;> decide)
  refine ⟨fun _ => i_feed h, fun _ => i_end h, fun _ => i_text h, fun _ => p_fault fl h, fun _ => p_rule vt r h, fun _ => p_units vt r h, fun _ => p_pace vt r h, fun _ => i_setPace h, fun _ => p_begin vt r st e18 bn, fun _ => p_go vt r st bs h bn, fun _ => p_night vt r st bs bn, fun _ => p_now vt r st bs aw, fun _ => p_hand vt r st aw, fun _ => p_learnt vt r st h, fun _ => p_takes vt r st h, fun _ => i_keep h, fun _ => i_back h, fun _ => p_run vt r h32 hcc h run, fun _ => p_waits vt r h32 hcc h run, fun _ => p_over vt r h32 hcc h run (fun M' c f => run M' W c f mfy.rf), fun _ => p_judge vt r h32 hcc run, fun _ => p_settles vt r hcr ring, fun _ => p_where vt r hcr h32 hcc h (fun M' W' c1 c2 e f g => ?_), fun _ => p_makes vt r hcr ring, fun _ => p_could vt r h, fun _ => p_order vt r hco ord, fun _ => p_best vt r hco ord, fun _ => p_stands vt r (fun M' W' f g => q M' W' (fun c hc => f c (by omega)) g (ca.mv (fun i hi => f _ (by omega)) (fun k hk => f k (by omega)))), fun _ => p_parts vt r hcp (fun M' W' f g c => ?_), fun _ => p_less vt r (fun M' W' f g => q M' W' (fun c hc => f c (by omega)) g (ca.mv (fun i hi => f _ (by omega)) (fun k hk => f k (by omega)))), fun _ => i_sheet h, fun _ => i_lay h, fun _ => i_read h, fun _ => p_torn tn h, fun _ => p_count vt r e28 (e5.trans w1.symm) es h, fun _ => h⟩
  · exact q M' W' (fun c hc => f c (by omega)) g ⟨c1, hco.mv (fun i hi => f _ (by omega)) (f 57 (by omega)) (f 58 (by omega)), hcp.mv (fun i hi => f _ (by omega)) (f 60 (by omega)) (f 61 (by omega)), c2, by rw [e]; exact h32⟩
  · exact q M' W' (fun c hc => f c (by omega)) g ⟨hcr.mv (fun i hi => f _ (by omega)) (f 54 (by omega)), hco.mv (fun i hi => f _ (by omega)) (f 57 (by omega)) (f 58 (by omega)), c, hcc.mv (fun i hi => f _ (by omega)) (fun k k1 k2 => f k (by omega)), by rw [f 32 (by omega)]; exact h32⟩
theorem wtb_0 : wtb zW0 := by
  have h1 : ((List.range 11).all fun i => decide (zW0 2 i = nI (sp_sum (fun j => zsL.getD j 0) i))) = true := by decide +kernel
  have h2 : ((List.range 10).all fun i => (List.range (zsL.getD i 0)).all fun j => decide (zW0 3 (sp_sum (fun j => zsL.getD j 0) i + j) = zsc i j)) = true := by decide +kernel
  exact ⟨fun i hi => of_decide_eq_true (List.all_eq_true.mp h1 i (List.mem_range.mpr (by omega))), fun i hi j hj => of_decide_eq_true (List.all_eq_true.mp (List.all_eq_true.mp h2 i (List.mem_range.mpr hi)) j (List.mem_range.mpr hj))⟩
theorem Inv_0 : wp_Told_tellAsAtFirst 1 zM0 (fun zm1 => (∀ c, 6 ≤ c → zm1 c = zM0 c) ∧ wp_Bench_clear 18 zm1 (fun zm2 => wp_Bench_doAll 18 zm2 (fun M => Inv M zW0))) := by
  refine xt_tell (fun M1 t1 => ?_)
  have kk := t1.2.2.2.2.2.2.2.2.2.2.2
  refine ⟨fun c hc => kk c (by omega), xt_clear (fun Mc hc => ?_)⟩
  have ck := hc.2.2.2.2.2.2.2.2.2
  have vt1 := tf_vt t1
  have e18 : M1 18 0 = 0 := by rw [kk 18 (by omega)]; rfl
  have ok := sp_ok_clear hc (by rw [e18]; rfl) (by omega) (by omega) vt1 (fun g hg => by rw [zlg_18] at hg; cases hg)
  refine xt_doAll ok ?_
  obtain ⟨ok2, fr2, hs2⟩ := sp_all_ok ok
  have ek : ∀ k, (k < 18 ∨ 27 ≤ k) → sp_all 1 18 3 Mc k = M1 k := fun k hk => by
    rw [fr2.1 k (by omega) (fun q => absurd q (by omega))]
    exact ck k (by omega)
  have ez : ∀ c, (c = 0 ∨ 6 ≤ c ∧ c < 18 ∨ 27 ≤ c) → sp_all 1 18 3 Mc c = zM0 c := fun c hc => by
    rw [ek c (by omega)]; exact kk c (by omega)
  have z : ∀ c j, (c = 0 ∨ 6 ≤ c ∧ c < 18 ∨ 27 ≤ c) → zM0 c j = 0 → sp_all 1 18 3 Mc c j = 0 := fun c j h1 h2 => by rw [ez c h1]; exact h2
  refine ⟨3, 3, 1, ⟨ok2.2.2.2.1, (tf_rt t1).moved rfl (fun i hi => ek _ (by omega)), Or.inr ⟨rfl, fun j _ => rfl, M1, Mc, hc, ok, rfl⟩, ⟨ok2, hs2⟩, ok2.1, fun i hi => ⟨by rw [z 28 i (by omega) rfl]; rfl, fun w => absurd (z 28 i (by omega) rfl) w⟩, ⟨0, by omega, z 11 5 (by omega) rfl, rfl, fun j hj => absurd hj (by omega)⟩, wtb_0, z 11 1 (by omega) rfl, z 0 13 (by omega) rfl, fun i hi => Or.inl ?_⟩, Cas.no (z 54 0 (by omega) rfl) (fun q _ => z 58 q (by omega) rfl) (z 60 0 (by omega) rfl) (z 29 2 (by omega) rfl) (by rw [z 32 0 (by omega) rfl]; rfl) (by omega)⟩
  rw [ez (81 + 2 * i) (by omega)]
  rcases (show i = 0 ∨ i = 1 ∨ i = 2 ∨ i = 3 by omega) with rfl | rfl | rfl | rfl <;> exact ⟨rfl, rfl, rfl⟩
theorem whole_start {p : Program} {e : Env} {s : State} {m : MethodId} {below : List Frame} {meth : Method} {c : Code} (l : Launch) (hflags : l.flags = flags0) {b L : Nat} {xs : Nat → Int32} (hL : L ≤ 384) (C0 : lw_At p s m meth c b L xs) : W p l e room_1 s m #[Value.ref b] below meth c s.heap [] 0 0 (lw_Z below #[Value.ref b] s) (entryFrame m ([Value.ref b] : List Value).toArray 4) := start_of l hL C0 (fun _ M W => Inv M W) Inv_0 (fun i M W' hi hin => Inv_law hin)
