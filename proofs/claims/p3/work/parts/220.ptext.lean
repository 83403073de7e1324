theorem pf_some {f : Nat → Int32} : ∀ m p i, p ≤ i → i < p + m → 0 < f i → sp_pf f m p < p + m := by
  intro m
  induction m with
  | zero => intro p i h1 h2; omega
  | succ m ih =>
    intro p i h1 h2 h3
    unfold sp_pf
    split
    · omega
    · rename_i w
      have : p ≠ i := fun e => w (by rw [e]; exact h3)
      have := ih (p + 1) i (by omega) (by omega) h3
      omega
/-- what a text does to the class's memory when it is taken over, the bench apart -/
def tgd (M M' : zMem) : Prop := (∀ c, (c = 0 ∨ (6 ≤ c ∧ c < 11) ∨ c = 17 ∨ c = 27 ∨ (30 ≤ c ∧ c < 54) ∨ c = 55 ∨ c = 56 ∨ c = 57 ∨ c = 59 ∨ 61 ≤ c) → M' c = M c) ∧ M' 29 2 = 0 ∧ M' 54 0 = 0 ∧ M' 60 0 = 0 ∧ (∀ q, q < 120 → M' 58 q = 0) ∧ M' 28 0 = 0 ∧ M' 28 1 = 0
theorem DW_vt {n H L : Nat} {t1 t2 : Bool} {M' X : zMem} (d : DW 11 M' n H L t1 t2) (n0 : 0 < n) (H0 : 0 < H) (hu : ∀ s, s < 3 → ∃ p, p < n ∧ us 11 M' t1 t2 s p ≠ 0) (x1 : X 12 = M' 12) (x2 : X 13 = M' 13) (x4 : X 15 = M' 15) (x3 : ∀ s p, s < 3 → p < n → X 14 (s * 8 + p) = us 11 M' t1 t2 s p) (x5 : ∀ h, h < H → X 16 h = if M' 12 4 = 0 ∨ h = H - 1 then nI n else M' 16 h) : sp_vt X 12 n H L := by
  obtain ⟨⟨b1, b2, b3, b4⟩, en, eH, eL, w2, w3, w4, w5, hr, hU, hp, he, -⟩ := id d
  have y1 : X (12 + 1) = M' (11 + 2) := x2
  have y3 : X (12 + 3) = M' (11 + 4) := x4
  have y0 : X 12 = M' (11 + 1) := x1
  refine ⟨⟨n0, b1, H0, b2, b3, b4⟩, by rw [y0]; exact en, by rw [y0]; exact eH, by rw [y0]; exact eL, by rw [y0]; exact w2, by rw [y0]; exact w3, by rw [y0]; exact w4, by rw [y0]; exact w5, by rw [y1]; exact hr, fun s p hs hp => ?_, fun s hs => ?_, by rw [y3]; exact hp, fun h hh => ?_, ?_, fun w h hh => ?_⟩
  · obtain ⟨u, u6, eu⟩ := us_nI d hs hp
    exact ⟨u, u6, (x3 s p hs hp).trans eu⟩
  · obtain ⟨p, hp, hne⟩ := hu s hs
    obtain ⟨u, u6, eu⟩ := us_nI d hs hp
    have := pf_some (f := fun i => X (12 + 2) (s * 8 + i)) n 0 p (by omega) (by omega) (by
      show 0 < X 14 (s * 8 + p)
      rw [x3 s p hs hp, eu]
      rw [eu] at hne
      exact (nI_0lt (by omega)).mpr (Nat.pos_of_ne_zero (fun w => hne (by rw [w]; rfl))))
    omega
  · show ∃ e, e ≤ n ∧ X 16 h = nI e
    rw [x5 h hh]
    by_cases w : M' 12 4 = 0 ∨ h = H - 1
    · rw [if_pos w]; exact ⟨n, Nat.le_refl _, rfl⟩
    · rw [if_neg w]
      obtain ⟨e, e1, e2, e3⟩ := he (fun v => w (Or.inl v)) h (by omega)
      exact ⟨e, e2, e3⟩
  · show X 16 (H - 1) = nI n
    rw [x5 _ (by omega), if_pos (Or.inr rfl)]
  · show X 16 h = nI n
    rw [x5 h hh, if_pos (Or.inl (by rw [← x1]; exact w))]
theorem p_text {z : Nat} {M W : zMem} {P : zMem → zMem → Prop} (e5 : M 11 5 = nI z) (hz4 : z ≤ 400) (hz : W 0 1 = nI z) (ht : tpe (M 17) (W 1) z) (wt : wtb W) (h18 : ztc (M 18 0) = 1)
    (hA : ∀ M' W', (∀ c, (c < 11 ∨ 17 ≤ c) → M' c = M c) → M' 11 5 = 0 → W' 0 2 = M' 11 1 → tfr W W' → P M' W')
    (hB : ∀ n H L M' W', sp_vt M' 1 n H L → rt0 W' M' n H L → bst M' n H L → W' 0 24 = 1 → pr W' M' n H → M' 18 0 = M 18 0 → tgd M M' → (∀ j, j ≠ 2 → M' 29 j = M 29 j) → M' 11 5 = 0 → M' 11 1 = W' 0 2 → W' 0 1 = 0 → (∀ c, c ≠ 0 → c ≠ 4 → c ≠ 5 → c ≠ 6 → c ≠ 7 → c ≠ 8 → c ≠ 9 → W' c = W c) → W' 7 0 = 0 → W' 7 1 = 0 → (∀ j, 96 ≤ j → W' 6 j = W 6 j) → (∀ j, (20 ≤ j ∧ j ≠ 24) → W' 0 j = W 0 j) → P M' W') : wp_Main_text M (fun x M' => wp_Model_text W (fun y W' => x = y ∧ P M' W')) := by
  intro m1 f1 m2 f2 m3 f3 m4 f4 m5 f5 m6 f6 m7 f7 m8 f8 n1 g1 n2 g2 n3 g3 n4 g4 n5 g5 n6 g6 n7 g7
  refine ⟨vp_in_nI (n := 0) (by omega) (by omega), fun A gA => ?_⟩
  have gA' : A = zup n7 13 0 0 := gA
  have o8 : ∀ c, c ≠ 11 → m8 c = M c := fun c hc => by rw [f8, zup_ne hc, f7, zup_ne hc, f6, zup_ne hc, f5, zup_ne hc, f4, zup_ne hc, f3, zup_ne hc, f2, zup_ne hc, f1, zup_ne hc]
  have o7 : ∀ c, c ≠ 12 → n7 c = m8 c := fun c hc => by
    have g1' : n1 = zup m8 12 0 0 := g1
    have g2' : n2 = zup n1 12 1 0 := g2
    have g3' : n3 = zup n2 12 2 0 := g3
    have g4' : n4 = zup n3 12 3 0 := g4
    have g5' : n5 = zup n4 12 4 0 := g5
    have g6' : n6 = zup n5 12 5 0 := g6
    have g7' : n7 = zup n6 12 6 1 := g7
    rw [g7', zup_ne hc, g6', zup_ne hc, g5', zup_ne hc, g4', zup_ne hc, g3', zup_ne hc, g2', zup_ne hc, g1', zup_ne hc]
  have A12 : ∀ j, j ≤ 6 → A 12 j = if j = 6 then 1 else 0 := fun j hj => by
    have g1' : n1 = zup m8 12 0 0 := g1
    have g2' : n2 = zup n1 12 1 0 := g2
    have g3' : n3 = zup n2 12 2 0 := g3
    have g4' : n4 = zup n3 12 3 0 := g4
    have g5' : n5 = zup n4 12 4 0 := g5
    have g6' : n6 = zup n5 12 5 0 := g6
    have g7' : n7 = zup n6 12 6 1 := g7
    rw [gA', zup_ne (by omega), g7', zup_eq, g6', zup_eq, g5', zup_eq, g4', zup_eq, g3', zup_eq, g2', zup_eq, g1', zup_eq]
    rcases (show j = 0 ∨ j = 1 ∨ j = 2 ∨ j = 3 ∨ j = 4 ∨ j = 5 ∨ j = 6 by omega) with rfl | rfl | rfl | rfl | rfl | rfl | rfl <;> rfl
  have oA : ∀ c, c ≠ 11 → c ≠ 12 → c ≠ 13 → A c = M c := fun c c1 c2 c3 => by rw [gA', zup_ne c3, o7 c c2, o8 c c1]
  have A11 : A 11 = m8 11 := by rw [gA', zup_ne (by omega), o7 11 (by omega)]
  have s11 : ∀ j, j = 1 ∨ j = 2 ∨ j = 3 ∨ j = 6 ∨ j = 10 ∨ j = 11 ∨ j = 12 ∨ j = 13 → A 11 j = 0 := fun j hj => by
    rw [A11, f8, zup_eq, f7, zup_eq, f6, zup_eq, f5, zup_eq, f4, zup_eq, f3, zup_eq, f2, zup_eq, f1, zup_eq]
    rcases hj with rfl | rfl | rfl | rfl | rfl | rfl | rfl | rfl <;> rfl
  have s5 : A 11 5 = nI z := by
    rw [A11, f8, zup_eq, upd_ne (by omega), f7, zup_eq, upd_ne (by omega), f6, zup_eq, upd_ne (by omega), f5, zup_eq, upd_ne (by omega), f4, zup_eq, upd_ne (by omega), f3, zup_eq, upd_ne (by omega), f2, zup_eq, upd_ne (by omega), f1, zup_eq, upd_ne (by omega)]
    exact e5
  have A13 : A 13 0 = 0 := by rw [gA', zup_eq, upd_eq]
  have d0 : DA 11 z 0 A 0 0 1 false false := by
    refine ⟨⟨s5, hz4, 0, by omega, s11 6 (by omega)⟩, ⟨by omega, A12 0 (by omega), A12 1 (by omega), A12 6 (by omega), ⟨0, by omega, A12 2 (by omega)⟩, ⟨0, by omega, A12 3 (by omega)⟩, ⟨0, by omega, A12 4 (by omega)⟩, ⟨0, by omega, A12 5 (by omega)⟩, fun i hi => ⟨0, by omega, by rw [show i = 0 by omega]; exact A13⟩, fun s p _ hp => absurd hp (by omega), fun h p hh => absurd hh (by omega), fun _ h hh => absurd hh (by omega), s11 11 (by omega), fun _ => ⟨rfl, rfl, rfl, s11 13 (by omega)⟩, fun w => absurd (s11 12 (by omega)) w, fun _ => A12 4 (by omega)⟩, ⟨false, false, false, false, s11 10 (by omega), fun _ => rfl⟩⟩
  have fA : ∀ X : zMem, lf 11 A X → ∀ c, (c < 11 ∨ 17 ≤ c) → X c = M c := fun X f c hc => by
    rw [f c (by omega)]; exact oA c (by omega) (by omega) (by omega)
  have lfA : ∀ X, rAl 11 z 401 A X → lf 11 A X := by
    have go : ∀ f Y X, rAl 11 z f Y X → lf 11 Y X := by
      intro f
      induction f with
      | zero => intro Y X h; exact absurd h (fun h => h)
      | succ f ih =>
        rintro Y X ⟨b1, M1, t, h⟩
        have g1 := (gd_tkn _ _ _ t).1
        rcases h with ⟨-, rfl⟩ | ⟨-, -, rfl⟩ | ⟨-, -, n', H', b2, M2, -, -, -, -, hL, h2⟩
        · exact g1
        · exact g1
        · have g2 := (gd_rLi _ _ _ hL).1
          rcases h2 with ⟨-, rfl⟩ | ⟨-, h2⟩
          · exact g1.tr g2
          · exact (g1.tr g2).tr (ih _ _ h2)
    intro X h
    exact go _ _ _ h
  have tA : tpe (A 17) (W 1) z := by rw [oA 17 (by omega) (by omega) (by omega)]; exact ht
  refine xt_lines d0 (fun X hR => ?_)
  have lX := lfA X hR
  -- a fault is answered the same
  have bad : ∀ (Y : zMem) (c : Int32) (v : Int32), lf 11 A Y → Y 11 1 = c → Y 11 2 = v → ∀ M3, M3 = zup Y 11 5 0 → ∀ W', tfr W W' → W' 0 2 = c → ((-10) - M3 11 2 = -10 - v) ∧ P M3 W' := fun Y c v lY y1 y2 M3 e3 W' t w2 => by
    refine ⟨by rw [e3, zup_eq, upd_ne (by omega), y2], hA M3 W' (fun c hc => by rw [e3, zup_ne (by omega)]; exact fA Y lY c hc) (by rw [e3, zup_eq, upd_eq]) (by rw [e3, zup_eq, upd_ne (by omega), y1, w2]) t⟩
  refine ⟨fun x1 M3 e3 => ⟨fun w => absurd rfl w, fun _ => ?_⟩, fun x1 => ?_⟩
  · refine mt_text d0 (s11 3 (by omega)) (s11 1 (by omega)) (s11 6 (by omega)) (s11 10 (by omega)) (s11 11 (by omega)) (s11 13 (by omega)) A12 A13 hz hz4 tA wt hR (fun _ W' t w2 => bad X _ _ lX rfl rfl M3 e3 W' t w2) (fun w => absurd w x1) (fun w => absurd w x1) (fun w => absurd w x1)
  · obtain ⟨n, H, L, t1, t2, dX⟩ := DA_al _ _ _ _ _ _ _ _ hR d0 x1
    have un : ∀ {n' H' L' u1 u2}, DW 11 X n' H' L' u1 u2 → n = n' ∧ H = H' ∧ L = L' ∧ t1 = u1 ∧ t2 = u2 := fun d' => DW_un dX.2.1 d'
    refine xt_complete dX.2.1 dX.1.1 (fun c6 => ⟨fun _ M3 e3 => ⟨fun w => absurd rfl w, fun _ => ?_⟩, fun w => absurd rfl w⟩) (fun n0 H0 c7 Y lY y1 y2 yo => ⟨fun _ M3 e3 => ⟨fun w => absurd rfl w, fun _ => ?_⟩, fun w => absurd rfl w⟩) (fun n0 H0 hu Y lY yk yk1 yk2 yk4 yu ye => ⟨fun w => absurd w (by decide), fun _ M3 e3 => ⟨fun _ => ?_, fun w => absurd w (by decide)⟩⟩)
    · refine mt_text d0 (s11 3 (by omega)) (s11 1 (by omega)) (s11 6 (by omega)) (s11 10 (by omega)) (s11 11 (by omega)) (s11 13 (by omega)) A12 A13 hz hz4 tA wt hR (fun w => absurd x1 w) (fun _ n' H' L' u1 u2 d' c W' t w2 => bad _ 6 (nI z) (lX.tr ((lf.up (by omega) (by omega)).tr (lf.up (by omega) (by omega)))) (by rw [zup_eq, upd_ne (by omega), zup_eq, upd_eq]) (by rw [zup_eq, upd_eq]) M3 e3 W' t w2) (fun _ n' H' L' u1 u2 d' n0 H0 _ => ?_) (fun _ n' H' L' u1 u2 d' n0 H0 _ => ?_)
      · obtain ⟨i1, i2, -⟩ := un d'
        omega
      · obtain ⟨i1, i2, -⟩ := un d'
        omega
    · refine mt_text d0 (s11 3 (by omega)) (s11 1 (by omega)) (s11 6 (by omega)) (s11 10 (by omega)) (s11 11 (by omega)) (s11 13 (by omega)) A12 A13 hz hz4 tA wt hR (fun w => absurd x1 w) (fun _ n' H' L' u1 u2 d' c => ?_) (fun _ n' H' L' u1 u2 d' _ _ _ W' t w2 => bad Y 7 (nI z) (lX.tr lY) y1 y2 M3 e3 W' t w2) (fun _ n' H' L' u1 u2 d' _ _ hu => ?_)
      · obtain ⟨i1, i2, -⟩ := un d'
        omega
      · obtain ⟨i1, i2, i3, i4, i5⟩ := un d'
        subst i1 i2 i3 i4 i5
        obtain ⟨s, hs, hs2⟩ := c7
        obtain ⟨p, hp, hp2⟩ := hu s hs
        exact absurd (hs2 p hp) hp2
    · -- taken over
      have M3c : ∀ c, c ≠ 11 → M3 c = Y c := fun c hc => by rw [e3, zup_ne hc]
      have vt12 : sp_vt M3 12 n H L := DW_vt (X := M3) dX.2.1 n0 H0 hu (by rw [M3c 12 (by omega)]; exact yk1) (by rw [M3c 13 (by omega)]; exact yk2) (by rw [M3c 15 (by omega)]; exact yk4) (fun s p hs hp => by rw [M3c 14 (by omega)]; exact yu s p hs hp) (fun h hh => by rw [M3c 16 (by omega)]; exact ye h hh)
      refine xt_copyFrom (k := 1) (t := 12) (by omega) (fun M4 td4 o4 => ?_)
      have vt1 : sp_vt M4 1 n H L := vt12.copy td4
      have fM4 : ∀ c, (c = 0 ∨ (6 ≤ c ∧ c < 11) ∨ 17 ≤ c) → M4 c = M c := fun c hc => by rw [o4 c (by omega), M3c c (by omega)]; exact fA Y (lX.tr lY) c (by omega)
      have h18' : M4 18 0 = M 18 0 := by rw [fM4 18 (by omega)]
      refine xt_clear (fun Mc hc => ?_)
      have ok := sp_ok_clear hc (by rw [h18']; exact h18) (by omega) (by omega) vt1 (fun g hg => by rw [zlg_18] at hg; cases hg)
      refine xt_doAll ok ?_
      obtain ⟨ok2, fr2, hs2⟩ := sp_all_ok ok
      have ek : ∀ k, (k < 18 ∨ 27 ≤ k) → sp_all 1 18 H Mc k = M4 k := fun k hk => by
        rw [fr2.1 k (by omega) (fun q => absurd q (by omega))]
        exact hc.2.2.2.2.2.2.2.2.2 k (by omega)
      have e180 : sp_all 1 18 H Mc 18 0 = M 18 0 := by rw [fr2.2, hc.2.2.2.2.1, h18']
      generalize hN : sp_all 1 18 H Mc = N at ok2 hs2 ek e180
      refine zlp1_r (fun m x N' => ∃ i, x = nI i ∧ i ≤ 2 ∧ m = 2 - i ∧ (∀ c, c ≠ 28 → N' c = N c) ∧ ∀ j, j < i → N' 28 j = 0) ?_ (n := 2) ⟨0, rfl, by omega, rfl, fun _ _ => rfl, fun j hj => absurd hj (by omega)⟩
      rintro m x N' ⟨i, rfl, hi, rfl, u1, u2⟩ J hJ
      unfold wpB_Main_text_61
      refine ⟨fun c => ?_, fun c => ?_⟩
      · have i2 : 2 ≤ i := (nI_leI (a := 2) (by omega) (by omega)).mp c
        unfold wp_Main_forgetAnswers
        intro A2 b2 A3 b3 A4 b4
        refine xt_forget (fun A5 q1 q2 => ?_)
        have cA : ∀ c, c ≠ 28 → c ≠ 29 → c ≠ 54 → c ≠ 58 → c ≠ 60 → A5 c = N c := fun c c1 c2 c3 c4 c5 => by rw [q2 c c4, b4, zup_ne c5, b3, zup_ne c3, b2, zup_ne c2]; exact u1 c c1
        have A511 : ∀ j, j ≠ 5 → A5 11 j = X 11 j := fun j hj => by rw [cA 11 (by omega) (by omega) (by omega) (by omega) (by omega), ek 11 (by omega), o4 11 (by omega), e3, zup_eq, upd_ne hj]; exact congrFun yk j
        have tg : tgd M A5 := by
          refine ⟨fun c hc => ?_, ?_, ?_, ?_, q1, ?_, ?_⟩
          · rw [cA c (by omega) (by omega) (by omega) (by omega) (by omega), ek c (by omega)]; exact fM4 c (by omega)
          · rw [q2 29 (by omega), b4, zup_ne (by omega), b3, zup_ne (by omega), b2, zup_eq, upd_eq]
          · rw [q2 54 (by omega), b4, zup_ne (by omega), b3, zup_eq, upd_eq]
          · rw [q2 60 (by omega), b4, zup_eq, upd_eq]
          · rw [q2 28 (by omega), b4, zup_ne (by omega), b3, zup_ne (by omega), b2, zup_ne (by omega)]; exact u2 0 (by omega)
          · rw [q2 28 (by omega), b4, zup_ne (by omega), b3, zup_ne (by omega), b2, zup_ne (by omega)]; exact u2 1 (by omega)
        have t29 : ∀ j, j ≠ 2 → A5 29 j = M 29 j := fun j hj => by
          rw [q2 29 (by omega), b4, zup_ne (by omega), b3, zup_ne (by omega), b2, zup_eq, upd_ne hj, u1 29 (by omega), ek 29 (by omega), fM4 29 (by omega)]
        have told : ∀ i, i ≤ 4 → A5 (1 + i) = N (1 + i) := fun i hi => cA _ (by omega) (by omega) (by omega) (by omega) (by omega)
        have vtN : sp_vt N 1 n H L := ok2.2.2.2.1
        have vtA : sp_vt A5 1 n H L := vtN.moved told
        have bs : bsl A5 N := bsl.of (fun c c1 c2 => cA c (by omega) (by omega) (by omega) (by omega) (by omega))
        have bA : bst A5 n H L := bst_cong ⟨ok2, hs2⟩ vtA (told 0 (by omega)) (told 2 (by omega)) (told 4 (by omega)) (by rw [cA 18 (by omega) (by omega) (by omega) (by omega) (by omega), e180]; exact h18) bs
        have e511 : A5 11 5 = 0 := by rw [cA 11 (by omega) (by omega) (by omega) (by omega) (by omega), ek 11 (by omega), o4 11 (by omega), e3, zup_eq, upd_eq]
        refine mt_text d0 (s11 3 (by omega)) (s11 1 (by omega)) (s11 6 (by omega)) (s11 10 (by omega)) (s11 11 (by omega)) (s11 13 (by omega)) A12 A13 hz hz4 tA wt hR (fun w => absurd x1 w) (fun _ n' H' L' u1 u2 d' c => ?_) (fun _ n' H' L' u1 u2 d' _ _ c7 => ?_) (fun _ n' H' L' u1' u2' d' _ _ _ W1 w1 w2 w3 w4 v0 v1 v2 v3 v4 => ?_)
        · obtain ⟨i1, i2, -⟩ := un d'
          omega
        · obtain ⟨i1, i2, i3, i4, i5⟩ := un d'
          subst i1 i2 i3 i4 i5
          obtain ⟨s, hs, hs2⟩ := c7
          obtain ⟨p, hp, hp2⟩ := hu s hs
          exact absurd (hs2 p hp) hp2
        · obtain ⟨i1, i2, i3, i4, i5⟩ := un d'
          subst i1 i2 i3 i4 i5
          have H5 : H ≤ 5 := vtA.1.2.2.2.1
          have n8 : n ≤ 8 := vtA.1.2.1
          have L6 : L ≤ 6 := vtA.1.2.2.2.2.2
          obtain ⟨d0', d1', d2', d3', d4'⟩ := td4
          -- what is told, on both sides
          have m12 : ∀ j, j ≤ 6 → M4 1 j = X 12 j := fun j hj => by rw [d0' j hj, M3c 12 (by omega)]; exact congrFun yk1 j
          have rN4 : rt0 W1 M4 n H L := by
            refine ⟨by rw [v0 0 (by omega)]; exact dX.2.1.2.1, by rw [v0 1 (by omega)]; exact dX.2.1.2.2.1, by rw [v0 2 (by omega), m12 2 (by omega)], by rw [v0 3 (by omega), m12 3 (by omega)], by rw [v0 4 (by omega), m12 4 (by omega)], by rw [v0 5 (by omega), m12 5 (by omega)], by rw [v0 6 (by omega)]; exact dX.2.1.2.2.2.1, fun i hi => ?_, fun s p hs hp => ?_, fun h p hh hp => ?_, fun h hh => ?_⟩
            · have e : M4 2 i = M3 13 i := d1' i (by omega)
              rw [v1 i hi, e, M3c 13 (by omega)]; exact (congrFun yk2 i).symm
            · have e : M4 3 (s * 8 + p) = M3 14 (s * 8 + p) := d2' _ (by omega)
              rw [v2 s p hs hp, e, M3c 14 (by omega)]; exact (yu s p hs hp).symm
            · have e : M4 4 (h * 8 + p) = M3 15 (h * 8 + p) := d3' _ (by omega)
              rw [v3 h p hh hp, e, M3c 15 (by omega)]; exact (congrFun yk4 _).symm
            · have e : M4 5 h = M3 16 h := d4' h (by omega)
              have y := ye h hh
              have y' : Y 16 h = if X 12 4 = 0 ∨ h = H - 1 then nI n else X 16 h := y
              rw [e, M3c 16 (by omega), y', m12 4 (by omega)]
              by_cases w : X 12 4 = 0 ∨ h = H - 1
              · rw [if_pos w, if_pos (Or.symm w)]
              · rw [if_neg w, if_neg (fun v => w (Or.symm v))]
                exact (v4 (fun v => w (Or.inl v)) h (by omega)).symm
          have rN : rt0 W1 N n H L := rN4.moved rfl (fun i hi => ek _ (by omega))
          show wp_Model_clear (nI 0) W1 _
          refine mt_clear (by omega) (fun W2 a1 a2 a3 => ?_)
          intro W3 e3'
          have x4 : W3 4 = W1 4 := by rw [e3', zup_ne (by omega), a3 4 (by omega)]
          have x6 : W3 6 = W2 6 := by rw [e3', zup_ne (by omega)]
          refine mt_awake (M := N) (n := n) (H := H) (L := L) vtN (rN.moved x4 (fun _ _ => rfl)) (Or.inr ⟨by rw [e3', zup_eq, upd_eq], fun j hj => ?_, M4, Mc, hc, ok, hN.symm⟩) (fun W4 h24 hp f4 => ⟨vp_in_nI (n := 0) (by omega) (by omega), fun W5 e5' => ⟨vp_in_nI (n := 1) (by omega) (by omega), fun W6 e6' => ⟨?_, ?_⟩⟩⟩)
          · rw [x6, ← a1 j hj]; congr 1; omega
          · exact A511 3 (by omega)
          · have e5'' : W5 = zup W4 7 0 0 := e5'
            have e6'' : W6 = zup W5 7 1 0 := e6'
            have c6 : ∀ c, c ≠ 7 → W6 c = W4 c := fun c hc => by rw [e6'', zup_ne hc, e5'', zup_ne hc]
            have j0 : ∀ j, j ≠ 18 → j ≠ 19 → j ≠ 24 → W6 0 j = W1 0 j := fun j q1 q2 q3 => by rw [c6 0 (by omega), f4.2.1 j q1 q2 q3, e3', zup_eq, upd_ne q3, a3 0 (by omega)]
            refine hB n H L A5 W6 vtA ((rN.moved (W' := W6) ?_ told)) bA (by rw [c6 0 (by omega)]; exact h24) (pr_cong H5 n8 (hp.moved H5 n8 (fun j _ => by rw [c6 6 (by omega)])) bs) (by rw [cA 18 (by omega) (by omega) (by omega) (by omega) (by omega), e180]) tg t29 e511 ?_ ?_ (fun c c0 c4 c5 c6' c7 c8 c9 => ?_) (by rw [e6'', zup_eq, upd_ne (by omega), e5'', zup_eq, upd_eq]) (by rw [e6'', zup_eq, upd_eq]) (fun j hj => ?_) (fun j hj => ?_)
            · rw [c6 4 (by omega), f4.1 4 (by omega) (by omega) (by omega) (by omega)]; exact x4
            · rw [A511 1 (by omega), j0 2 (by omega) (by omega) (by omega), x1, w3]
            · rw [j0 1 (by omega) (by omega) (by omega)]; exact w2
            · rw [c6 c c7, f4.1 c c0 c6' c8 c9, e3', zup_ne c0, a3 c c6']; exact w1 c c0 c4 c5
            · rw [c6 6 (by omega), f4.2.2 j hj, x6, a2 j (by omega)]
              exact congrFun (w1 6 (by omega) (by omega) (by omega)) j
            · rw [j0 j (by omega) (by omega) (by omega)]; exact w4 j (by omega)
      · have i2 : i < 2 := by
          rcases Nat.lt_or_ge i 2 with w | w
          · exact w
          · exact absurd ((nI_leI (a := 2) (by omega) (by omega)).mpr w) c
        refine ⟨vp_in_nI i2 (by omega), fun N2 e2 y ey => ?_⟩
        rw [ey, nI_1]
        rw [q_ix (by omega)] at e2
        have e2' : N2 = zup N' 28 i 0 := e2
        refine hJ (2 - (i + 1)) _ _ (by omega) ⟨i + 1, rfl, by omega, rfl, fun c hc => by rw [e2', zup_ne hc]; exact u1 c hc, fun j hj => ?_⟩
        rw [e2', zup_eq]
        by_cases w : j = i
        · rw [w, upd_eq]
        · rw [upd_ne w]; exact u2 j (by omega)
