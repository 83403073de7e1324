theorem cr.mv {M M' : zMem} {n H L : Nat} (h : cr M n H L) (e : ∀ i, i ≤ 4 → M' (1 + i) = M (1 + i)) (e54 : M' 54 = M 54) : cr M' n H L := by
  rcases h with h | ⟨M0, Mc, a, b, c, d, f⟩
  · exact Or.inl (by rw [e54]; exact h)
  · refine Or.inr ⟨M0, Mc, a, b, fun i hi => (c i hi).trans (e i hi).symm, d, ?_⟩
    unfold sp_ro at f ⊢
    rw [e54]; exact f
theorem co.mv {M M' : zMem} {n H L : Nat} (h : co M n H L) (e : ∀ i, i ≤ 4 → M' (1 + i) = M (1 + i)) (e57 : M' 57 = M 57) (e58 : M' 58 = M 58) : co M' n H L := fun q hq => by
  rcases h q hq with h | ⟨o, h⟩
  · exact Or.inl (by rw [e58]; exact h)
  · exact Or.inr ⟨o, h.moved e (by rw [e57]) (by rw [e58])⟩
theorem cp.mv {M M' : zMem} {n H L : Nat} (h : cp M n H L) (e : ∀ i, i ≤ 4 → M' (1 + i) = M (1 + i)) (e60 : M' 60 = M 60) (e61 : M' 61 = M 61) : cp M' n H L := by
  rcases h with h | ⟨o, b, h1, h2, h3⟩
  · exact Or.inl (by rw [e60]; exact h)
  · refine Or.inr ⟨o, b, fun k hk => (h1 k hk).moved (fun i hi => e i (by omega)), h2, ?_⟩
    unfold pbk at h3 ⊢
    rw [e60, e61]; exact h3
theorem cc.mv {M M' : zMem} {n H L : Nat} (h : cc M n H L) (e : ∀ i, i ≤ 4 → M' (1 + i) = M (1 + i)) (f : ∀ k, 29 ≤ k → k ≤ 40 → M' k = M k) : cc M' n H L := by
  rcases h with h | ⟨m, R, m1, m2, e2, e3, ⟨M0, Mc, a, b, c, d, g⟩, hk⟩
  · exact Or.inl (by rw [f 29 (by omega) (by omega)]; exact h)
  · exact Or.inr ⟨m, R, m1, m2, by rw [f 29 (by omega) (by omega)]; exact e2, by rw [f 29 (by omega) (by omega)]; exact e3, ⟨M0, Mc, a, b, fun i hi => (c i hi).trans (e i hi).symm, d, g⟩, fun k k1 k2 => (f k (by omega) (by omega)).trans (hk k k1 k2)⟩
def Cas (M : zMem) (n H L : Nat) : Prop := cr M n H L ∧ co M n H L ∧ cp M n H L ∧ cc M n H L ∧ ztc (M 32 0) = 1
theorem Cas.mv {M M' : zMem} {n H L : Nat} (h : Cas M n H L) (e : ∀ i, i ≤ 4 → M' (1 + i) = M (1 + i)) (f : ∀ k, (29 ≤ k ∧ k ≤ 40) ∨ k = 54 ∨ k = 57 ∨ k = 58 ∨ k = 60 ∨ k = 61 → M' k = M k) : Cas M' n H L := ⟨h.1.mv e (f 54 (by omega)), h.2.1.mv e (f 57 (by omega)) (f 58 (by omega)), h.2.2.1.mv e (f 60 (by omega)) (f 61 (by omega)), h.2.2.2.1.mv e (fun k k1 k2 => f k (by omega)), by rw [f 32 (by omega)]; exact h.2.2.2.2⟩
theorem Cas.no {M : zMem} {n H L : Nat} (h54 : M 54 0 = 0) (h58 : ∀ q, q < 120 → M 58 q = 0) (h60 : M 60 0 = 0) (h29 : M 29 2 = 0) (h32 : ztc (M 32 0) = 1) (H5 : H ≤ 5) : Cas M n H L := ⟨Or.inl h54, fun q hq => Or.inl (h58 q (by have := so_f_le H (by omega); omega)), Or.inl h60, Or.inl h29, h32⟩
theorem pst.mv {W W' M M' : zMem} {n H L : Nat} (st : pst W M n H L) (vt : sp_vt M 1 n H L) (eM : ∀ c, (1 ≤ c ∧ c ≤ 5) ∨ (18 ≤ c ∧ c ≤ 26) → M' c = M c) (e24 : W' 0 24 = W 0 24) (e6 : ∀ j, j < 96 → W' 6 j = W 6 j) : pst W' M' n H L := by
  have H5 : H ≤ 5 := vt.1.2.2.2.1
  have n8 : n ≤ 8 := vt.1.2.1
  rcases st with ⟨a, p⟩ | ⟨a, z, M0, Mc, hc, ok, eq⟩
  · exact Or.inl ⟨e24.trans a, pr_cong H5 n8 (p.moved H5 n8 e6) (bsl.of (fun c c1 c2 => eM c (by omega)))⟩
  · refine Or.inr ⟨e24.trans a, fun j hj => (e6 j hj).trans (z j hj), ?_⟩
    have A1 : ∀ (X : zMem) (c : Nat), (1 ≤ c ∧ c ≤ 5) ∨ (18 ≤ c ∧ c ≤ 26) → (fun c => if (1 ≤ c ∧ c ≤ 5) ∨ (18 ≤ c ∧ c ≤ 26) then X c else M' c) c = X c := fun X c hc => if_pos hc
    have A0 : ∀ (X : zMem) (c : Nat), ¬ ((1 ≤ c ∧ c ≤ 5) ∨ (18 ≤ c ∧ c ≤ 26)) → (fun c => if (1 ≤ c ∧ c ≤ 5) ∨ (18 ≤ c ∧ c ≤ 26) then X c else M' c) c = M' c := fun X c hc => if_neg hc
    have c1 := A1 M0
    have c0 := A0 M0
    have d1 := A1 Mc
    have d0 := A0 Mc
    generalize (fun c => if (1 ≤ c ∧ c ≤ 5) ∨ (18 ≤ c ∧ c ≤ 26) then M0 c else M' c) = N0 at c1 c0
    generalize (fun c => if (1 ≤ c ∧ c ≤ 5) ∨ (18 ≤ c ∧ c ≤ 26) then Mc c else M' c) = Nc at d1 d0
    obtain ⟨q1, q2, q3, q4, q5, q6, q7, q8, q9, q10⟩ := id hc
    have hc' : sp_clear 18 N0 Nc := by
      unfold sp_clear
      rw [d1 18 (by omega), d1 (18 + 1) (by omega), d1 (18 + 2) (by omega), d1 (18 + 3) (by omega), d1 (18 + 6) (by omega), d1 (18 + 7) (by omega), d1 (18 + 8) (by omega), c1 18 (by omega)]
      refine ⟨q1, q2, q3, q4, q5, q6, q7, q8, q9, fun k hk => ?_⟩
      by_cases w : (1 ≤ k ∧ k ≤ 5) ∨ (18 ≤ k ∧ k ≤ 26)
      · rw [d1 k w, c1 k w]; exact q10 k hk
      · rw [d0 k w, c0 k w]
    have vt0 : sp_vt N0 1 n H L := ok.2.2.2.1.moved (fun i hi => by rw [c1 _ (by omega), q10 _ (by omega)])
    have ok' : sp_ok Nc 1 18 n H L := sp_ok_clear hc' (by rw [c1 18 (by omega), ← q5]; exact ok.1) (by omega) (by omega) vt0 (fun g hg => by rw [zlg_18] at hg; cases hg)
    refine ⟨N0, Nc, hc', ok', ?_⟩
    have fr := (sp_all_ok ok).2.1
    have fr' := (sp_all_ok ok').2.1
    have ev : vw 1 18 (sp_all 1 18 H Nc) = vw 1 18 (sp_all 1 18 H Mc) := by
      rw [vw_all (by omega) (by omega), vw_all (by omega) (by omega), vw_ext (t := 1) (b := 18) (M := Mc) (fun i hi => d1 _ (by omega)) (fun j _ => by rw [d1 18 (by omega)]) (fun i _ _ => d1 _ (by omega))]
    funext c
    by_cases w : 18 ≤ c ∧ c ≤ 26
    · rw [eM c (by omega), eq]
      by_cases w18 : c = 18
      · rw [w18]
        funext j
        by_cases j0 : j = 0
        · rw [j0, fr.2, fr'.2, d1 18 (by omega)]
        · rw [← vw_0 (t := 1) (b := 18) (M := sp_all 1 18 H Mc) j0, ← vw_0 (t := 1) (b := 18) (M := sp_all 1 18 H Nc) j0, ev]
      · obtain ⟨i, rfl⟩ : ∃ i, c = 18 + i := ⟨c - 18, by omega⟩
        rw [← vw_b (t := 1) (b := 18) (i := i) (M := sp_all 1 18 H Mc) (by omega) (by omega), ← vw_b (t := 1) (b := 18) (i := i) (M := sp_all 1 18 H Nc) (by omega) (by omega), ev]
    · rw [fr'.1 c (by omega) (fun q => absurd q (by omega))]
      by_cases w2 : (1 ≤ c ∧ c ≤ 5) ∨ (18 ≤ c ∧ c ≤ 26)
      · rw [d1 c w2, eM c w2, eq, fr.1 c (by omega) (fun q => absurd q (by omega))]
      · rw [d0 c w2]
/-- a memory whose bench is what image i holds -/
def imv (i : Nat) (M N : zMem) : Prop := (∀ c, 1 ≤ c → c ≤ 5 → N c = M c) ∧ ztc (N 18 0) = 1 ∧ (∀ j, 2 ≤ j → j ≤ 5 → N 18 j = M (63 + 9 * i) j) ∧ (∀ a x, 1 ≤ a → a ≤ 6 → x < 5 → N (18 + a) x = M (63 + 9 * i + a) x) ∧ (∀ x, x < 40 → N 25 x = M (63 + 9 * i + 7) x)
def img (M W : zMem) (n H L : Nat) : Prop := ∀ i, i < 2 → M 28 i = W 7 i ∧ (M 28 i ≠ 0 → W 0 24 = 1 ∧ ∀ N V, imv i M N → (∀ j, j < 96 → V 6 j = W 6 (96 * (2 + i) + j)) → bst N n H L ∧ pr V N n H)
def Res (M W : zMem) : Prop := (∃ z, z ≤ 400 ∧ M 11 5 = nI z ∧ W 0 1 = nI z ∧ tpe (M 17) (W 1) z) ∧ wtb W ∧ M 11 1 = W 0 2 ∧ M 0 13 = W 0 39 ∧ shs M W
/-- what the reference keeps -/
def wkf (W W' : zMem) : Prop := (∀ c, c = 1 ∨ c = 2 ∨ c = 3 ∨ c = 7 ∨ c = 16 ∨ c = 17 ∨ c = 18 → W' c = W c) ∧ (∀ j, j = 1 ∨ j = 2 ∨ j = 39 → W' 0 j = W 0 j) ∧ ∀ j, 192 ≤ j → W' 6 j = W 6 j
theorem mfy.wkf {W W' : zMem} (f : mfy W W') : wkf W W' := ⟨fun c hc => f.1 c (by omega) (by omega) (by omega) (by omega) (by omega) (by omega) (by omega) (by omega) (by omega) (by omega), fun j hj => f.2.2 j (by omega) (by omega) (by omega), fun j hj => f.2.1 j (by omega)⟩
theorem awf.wkf {W W' : zMem} (f : awf W W') : wkf W W' := ⟨fun c hc => f.1 c (by omega) (by omega) (by omega) (by omega), fun j hj => f.2.1 j (by omega) (by omega) (by omega), fun j hj => f.2.2 j (by omega)⟩
theorem shs.mv {M M' W W' : zMem} (h : shs M W) (e : ∀ c, 81 ≤ c → M' c = M c) (f : ∀ c, c = 16 ∨ c = 17 ∨ c = 18 → W' c = W c) : shs M' W' := fun i hi => by
  have := h i hi
  unfold sht at this ⊢
  rw [e (81 + 2 * i) (by omega), e (81 + 2 * i + 1) (by omega), f 16 (by omega), f 17 (by omega), f 18 (by omega)]
  exact this
theorem wtb.mv {W W' : zMem} (h : wtb W) (e2 : W' 2 = W 2) (e3 : W' 3 = W 3) : wtb W' := by
  unfold wtb at h ⊢
  rw [e2, e3]; exact h
theorem Res.mv {M M' W W' : zMem} (h : Res M W) (e0 : M' 0 13 = M 0 13) (e11 : M' 11 = M 11) (e17 : M' 17 = M 17) (e : ∀ c, 81 ≤ c → M' c = M c) (f : wkf W W') : Res M' W' := by
  obtain ⟨⟨z, a, b, c, d⟩, g, i, j, k⟩ := h
  exact ⟨⟨z, a, by rw [e11]; exact b, by rw [f.2.1 1 (by omega)]; exact c, by rw [e17, f.1 1 (by omega)]; exact d⟩, g.mv (f.1 2 (by omega)) (f.1 3 (by omega)), by rw [e11, f.2.1 2 (by omega)]; exact i, by rw [e0, f.2.1 39 (by omega)]; exact j, k.mv e (fun c hc => f.1 c (by omega))⟩
theorem img.mv {M M' W W' : zMem} {n H L : Nat} (h : img M W n H L) (e : ∀ c, (1 ≤ c ∧ c ≤ 5) ∨ (63 ≤ c ∧ c ≤ 80) → M' c = M c) (e28 : ∀ i, i < 2 → M' 28 i = M 28 i) (e7 : W' 7 = W 7) (e24 : W 0 24 = 1 → W' 0 24 = 1) (e6 : ∀ j, 192 ≤ j → W' 6 j = W 6 j) : img M' W' n H L := fun i hi => by
  obtain ⟨a, b⟩ := h i hi
  refine ⟨by rw [e28 i hi, e7]; exact a, fun w => ?_⟩
  rw [e28 i hi] at w
  obtain ⟨b1, b2⟩ := b w
  refine ⟨e24 b1, fun N V iv hv => b2 N V ?_ (fun j hj => by rw [hv j hj]; exact e6 _ (by omega))⟩
  obtain ⟨v1, v2, v3, v4, v5⟩ := iv
  exact ⟨fun c c1 c2 => (v1 c c1 c2).trans (e c (by omega)), v2, fun j j1 j2 => by rw [v3 j j1 j2, e _ (by omega)], fun a x a1 a2 hx => by rw [v4 a x a1 a2 hx, e _ (by omega)], fun x hx => by rw [v5 x hx, e _ (by omega)]⟩
def Cor (M W : zMem) (n H L : Nat) : Prop := sp_vt M 1 n H L ∧ rt0 W M n H L ∧ pst W M n H L ∧ bst M n H L ∧ ztc (M 18 0) = 1 ∧ img M W n H L ∧ Res M W
def Inv (M W : zMem) : Prop := ∃ n H L, Cor M W n H L ∧ Cas M n H L
/-- a question changes nothing of the core -/
theorem Cor.q {M M' W W' : zMem} {n H L : Nat} (h : Cor M W n H L) (e : ∀ c, c < 6 ∨ (11 ≤ c ∧ c < 29) ∨ 62 ≤ c → M' c = M c) (f : mfy W W') : Cor M' W' n H L := by
  obtain ⟨vt, r, st, bs, e18, im, rs⟩ := h
  have told : ∀ i, i ≤ 4 → M' (1 + i) = M (1 + i) := fun i hi => e _ (by omega)
  have vt' := vt.moved told
  refine ⟨vt', r.moved (f.1 4 (by omega) (by omega) (by omega) (by omega) (by omega) (by omega) (by omega) (by omega) (by omega) (by omega)) told, st.mv vt (fun c hc => e c (by omega)) (f.2.2 24 (by omega) (by omega) (by omega)) (fun j hj => f.2.1 j (by omega)), bst_cong bs vt' (told 0 (by omega)) (told 2 (by omega)) (told 4 (by omega)) (by rw [e 18 (by omega)]; exact e18) (bsl.of (fun c c1 c2 => e c (by omega))), by rw [e 18 (by omega)]; exact e18, im.mv (fun c hc => e c (by omega)) (fun i _ => by rw [e 28 (by omega)]) (f.wkf.1 7 (by omega)) (fun w => (f.2.2 24 (by omega) (by omega) (by omega)).trans w) f.wkf.2.2, rs.mv (by rw [e 0 (by omega)]) (e 11 (by omega)) (e 17 (by omega)) (fun c hc => e c (by omega)) f.wkf⟩
/-- a step of the bench -/
theorem Cor.b {M M' W W' : zMem} {n H L : Nat} (h : Cor M W n H L) (bs : bst M' n H L) (h24 : W' 0 24 = 1) (hp : pr W' M' n H) (e18 : M' 18 0 = M 18 0) (e : ∀ k, (k < 18 ∨ 27 ≤ k) → M' k = M k) (f : awf W W') : Cor M' W' n H L := by
  obtain ⟨vt, r, st, -, t18, im, rs⟩ := h
  have told : ∀ i, i ≤ 4 → M' (1 + i) = M (1 + i) := fun i hi => e _ (by omega)
  exact ⟨vt.moved told, r.moved (f.1 4 (by omega) (by omega) (by omega) (by omega)) told, Or.inl ⟨h24, hp⟩, bs, by rw [e18]; exact t18, im.mv (fun c hc => e c (by omega)) (fun i _ => by rw [e 28 (by omega)]) (f.wkf.1 7 (by omega)) (fun _ => h24) f.wkf.2.2, rs.mv (by rw [e 0 (by omega)]) (e 11 (by omega)) (e 17 (by omega)) (fun c hc => e c (by omega)) f.wkf⟩
theorem Cor.aw {M W W' : zMem} {n H L : Nat} (h : Cor M W n H L) (h24 : W' 0 24 = 1) (hp : pr W' M n H) (f : awf W W') : Cor M W' n H L := h.b h.2.2.2.1 h24 hp rfl (fun _ _ => rfl) f
theorem Cas.b {M M' : zMem} {n H L : Nat} (h : Cas M n H L) (e : ∀ k, (k < 18 ∨ 27 ≤ k) → M' k = M k) : Cas M' n H L := h.mv (fun i hi => e _ (by omega)) (fun k hk => e k (by omega))
