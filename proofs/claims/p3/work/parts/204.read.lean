/-- the reader is well -/
def rin (k z p0 : Nat) (M : zMem) : Prop := M k 5 = nI z ∧ z ≤ 400 ∧ ∃ p, (p0 ≤ p ∧ p ≤ z) ∧ M k 6 = nI p
def tkn (k z : Nat) (M : zMem) (b : Bool) (M' : zMem) : Prop := ∃ p, p ≤ z ∧ M k 6 = nI p ∧ rT k z p M b M'
theorem tkn_in {k z p0 : Nat} {M M' : zMem} (r : rin k z p0 M) (h : tkn k z M true M') : rin k z p0 M' ∧ tkf k M M' := by
  obtain ⟨p, hp, e6, h⟩ := h
  obtain ⟨r5, rz, p', ⟨hp0, hpz⟩, e6'⟩ := r
  have ep : p' = p := (nI_eq (by omega) (by omega)).mp (e6'.symm.trans e6)
  subst ep
  rcases h with ⟨-, -, f, a6, -⟩ | ⟨h, -⟩
  · have hq := tk_q_b (T := M (k + 6)) hp
    have hb := tk_e_b (T := M (k + 6)) hq.2
    exact ⟨⟨(f.2 5 (by omega) (by omega) (by omega) (by omega)).trans r5, rz, _, ⟨by omega, hb.2⟩, a6⟩, f⟩
  · cases h
theorem xt_tkn {k z p0 : Nat} {M : zMem} {Q : Int32 → zMem → Prop} (r : rin k z p0 M) (hQ : ∀ b M', tkn k z M b M' → Q (b2i b) M') : wp_Reader_readToken k M Q := by
  obtain ⟨h5, hz, p, ⟨-, hp⟩, h6⟩ := r
  exact xt_token h5 hz h6 hp (fun b M' h => hQ b M' ⟨p, hp, h6, h⟩)
/-- one thing behind the other, if it was well -/
def bnd (A B : zMem → Bool → zMem → Prop) (M : zMem) (b : Bool) (M' : zMem) : Prop := ∃ b1 M1, A M b1 M1 ∧ ((b1 = false ∧ b = false ∧ M' = M1) ∨ (b1 = true ∧ B M1 b M'))
def rWi (k : Nat) (lo hi : Int32) (M : zMem) (b : Bool) (M' : zMem) : Prop := ((M k 9 < lo ∨ ¬ M k 9 ≤ hi) ∧ b = false ∧ M' = rfs k 3 M) ∨ (¬ M k 9 < lo ∧ M k 9 ≤ hi ∧ b = true ∧ M' = M)
def rNu (k : Nat) (lo hi : Int32) (M : zMem) (b : Bool) (M' : zMem) : Prop := (¬ M k 7 = 2 ∧ b = false ∧ M' = rfs k 2 M) ∨ (M k 7 = 2 ∧ rWi k lo hi M b M')
def rSi (k : Nat) (M : zMem) (b : Bool) (M' : zMem) : Prop := (¬ M k 7 = 3 ∧ b = false ∧ M' = rfs k 2 M) ∨ (M k 7 = 3 ∧ b = true ∧ M' = M)
def rN (k z : Nat) (lo hi : Int32) : zMem → Bool → zMem → Prop := bnd (tkn k z) (rNu k lo hi)
def rS (k z : Nat) : zMem → Bool → zMem → Prop := bnd (tkn k z) (rSi k)
theorem xt_within {k : Nat} {lo hi : Int32} {M : zMem} {Q : Int32 → zMem → Prop} (hQ : ∀ b M', rWi k lo hi M b M' → Q (b2i b) M') : wp_Reader_isWithin k lo hi M Q :=
  ⟨fun c => e_refuse ⟨zbo_0, hQ false _ (Or.inl ⟨Or.inl c, rfl, rfl⟩)⟩, fun c => ⟨fun d => hQ true _ (Or.inr ⟨c, d, rfl, rfl⟩), fun d => e_refuse ⟨zbo_0, hQ false _ (Or.inl ⟨Or.inr d, rfl, rfl⟩)⟩⟩⟩
theorem b2i_bo (b : Bool) : zbo (b2i b) := by cases b <;> simp [b2i, zbo]
theorem xt_number {k z p0 : Nat} {lo hi : Int32} {M : zMem} {Q : Int32 → zMem → Prop} (r : rin k z p0 M) (hQ : ∀ b M', rN k z lo hi M b M' → Q (b2i b) M') : wp_Reader_readNumber k lo hi M Q := by
  refine xt_tkn r (fun b1 M1 r1 => ?_)
  cases b1 with
  | false => exact ⟨fun w => absurd rfl w, fun _ => hQ false M1 ⟨false, M1, r1, Or.inl ⟨rfl, rfl, rfl⟩⟩⟩
  | true => exact ⟨fun _ => ⟨fun c => xt_within (fun b M' h => ⟨b2i_bo b, hQ b M' ⟨true, M1, r1, Or.inr ⟨rfl, Or.inr ⟨c, h⟩⟩⟩⟩), fun c => e_refuse ⟨zbo_0, hQ false _ ⟨true, M1, r1, Or.inr ⟨rfl, Or.inl ⟨c, rfl, rfl⟩⟩⟩⟩⟩, fun w => absurd w (by decide)⟩
theorem xt_isSign {k : Nat} {M : zMem} {Q : Int32 → zMem → Prop} (hQ : ∀ b M', rSi k M b M' → Q (b2i b) M') : wp_Reader_isSign k M Q :=
  ⟨fun c => hQ true _ (Or.inr ⟨c, rfl, rfl⟩), fun c => e_refuse ⟨fun _ => hQ false _ (Or.inl ⟨c, rfl, rfl⟩), fun w => absurd rfl w⟩⟩
theorem xt_sign {k z p0 : Nat} {M : zMem} {Q : Int32 → zMem → Prop} (r : rin k z p0 M) (hQ : ∀ b M', rS k z M b M' → Q (b2i b) M') : wp_Reader_readSign k M Q := by
  refine xt_tkn r (fun b1 M1 r1 => ?_)
  cases b1 with
  | false => exact ⟨fun _ => hQ false M1 ⟨false, M1, r1, Or.inl ⟨rfl, rfl, rfl⟩⟩, fun w => absurd rfl w⟩
  | true =>
    refine ⟨fun w => absurd w (by decide), fun _ => xt_isSign (fun b M' h => ?_)⟩
    have q := hQ b M' ⟨true, M1, r1, Or.inr ⟨rfl, h⟩⟩
    cases b with
    | false => exact ⟨fun _ => q, fun w => absurd rfl w⟩
    | true => exact ⟨fun w => absurd w (by decide), fun _ => q⟩
theorem rN_in {k z p0 : Nat} {lo hi : Int32} {M M' : zMem} (r : rin k z p0 M) (h : rN k z lo hi M true M') : rin k z p0 M' ∧ tkf k M M' ∧ M' k 7 = 2 ∧ ¬ M' k 9 < lo ∧ M' k 9 ≤ hi := by
  obtain ⟨b1, M1, h1, h⟩ := h
  rcases h with ⟨-, h, -⟩ | ⟨rfl, h⟩
  · cases h
  · obtain ⟨r1, f1⟩ := tkn_in r h1
    rcases h with ⟨-, h, -⟩ | ⟨c, h⟩
    · cases h
    · rcases h with ⟨-, h, -⟩ | ⟨c1, c2, -, rfl⟩
      · cases h
      · exact ⟨r1, f1, c, c1, c2⟩
/-- lines -/
def rPi (k z : Nat) (M : zMem) (b : Bool) (M' : zMem) : Prop := ((¬ M k 12 = 0 ∨ ¬ M (k + 1) 0 < 8) ∧ b = false ∧ M' = rfs k 5 M) ∨ (M k 12 = 0 ∧ M (k + 1) 0 < 8 ∧ bnd (rN k z 0 6) (fun M1 => rS k z (zup (zup M1 (k + 3) (ix (M1 (k + 1) 0)) (M1 k 9)) (k + 1) 0 (M1 (k + 1) 0 + 1))) M b M')
theorem xt_piece {k z p0 n : Nat} {M : zMem} {Q : Int32 → zMem → Prop} (r : rin k z p0 M) (hn : M (k + 1) 0 = nI n) (n8 : n ≤ 8) (hQ : ∀ b M', rPi k z M b M' → Q (b2i b) M') : wp_Reader_readPiece k M Q := by
  refine ⟨fun c => e_refuse ⟨zbo_0, hQ false _ (Or.inl ⟨Or.inl c, rfl, rfl⟩)⟩, fun c => ⟨fun d => xt_number r (fun b1 M1 r1 => ?_), fun d => e_refuse ⟨zbo_0, hQ false _ (Or.inl ⟨Or.inr d, rfl, rfl⟩)⟩⟩⟩
  cases b1 with
  | false => exact ⟨fun w => absurd rfl w, fun _ => hQ false M1 (Or.inr ⟨c, d, false, M1, r1, Or.inl ⟨rfl, rfl, rfl⟩⟩)⟩
  | true =>
    obtain ⟨s1, f1, -⟩ := rN_in r r1
    have e0 : M1 (k + 1) 0 = nI n := by rw [f1.1 (k + 1) (by omega)]; exact hn
    refine ⟨fun _ => ⟨by rw [e0]; exact vp_in_nI (by omega) (by omega), fun M2 e2 M3 e3 => ?_⟩, fun w => absurd w (by decide)⟩
    have e3' : M3 = zup (zup M1 (k + 3) (ix (M1 (k + 1) 0)) (M1 k 9)) (k + 1) 0 (M1 (k + 1) 0 + 1) := by
      rw [e3, e2, zup_ne (by omega)]
    have s3 : rin k z p0 M3 := by
      unfold rin
      rw [e3', zup_ne (by omega), zup_ne (by omega)]; exact s1
    refine xt_sign s3 (fun b M' h => ⟨b2i_bo b, hQ b M' (Or.inr ⟨c, d, true, M1, r1, Or.inr ⟨rfl, ?_⟩⟩)⟩)
    rw [e3'] at h; exact h
def rWh (k z : Nat) (M : zMem) (b : Bool) (M' : zMem) : Prop := bnd (rN k z 0 (M (k + 1) 0 - 1)) (fun M1 b M' => ((((M1 (k + 1) 5) >>> ((M1 k 9) &&& 31)) &&& 1) = 1 ∧ b = false ∧ M' = rfs k 4 M1) ∨ (¬ (((M1 (k + 1) 5) >>> ((M1 k 9) &&& 31)) &&& 1) = 1 ∧ rS k z (zup M1 (k + 1) 5 ((M1 (k + 1) 5) ||| (1 <<< ((M1 k 9) &&& 31)))) b M')) M b M'
theorem xt_whole {k z p0 : Nat} {M : zMem} {Q : Int32 → zMem → Prop} (r : rin k z p0 M) (hQ : ∀ b M', rWh k z M b M' → Q (b2i b) M') : wp_Reader_readWhole k M Q := by
  refine xt_number r (fun b1 M1 r1 => ?_)
  cases b1 with
  | false => exact ⟨fun w => absurd rfl w, fun _ => hQ false M1 ⟨false, M1, r1, Or.inl ⟨rfl, rfl, rfl⟩⟩⟩
  | true =>
    obtain ⟨s1, f1, -⟩ := rN_in r r1
    refine ⟨fun _ => ⟨fun c M3 e3 => ?_, fun c => e_refuse ⟨zbo_0, hQ false _ ⟨true, M1, r1, Or.inr ⟨rfl, Or.inl ⟨c, rfl, rfl⟩⟩⟩⟩⟩, fun w => absurd w (by decide)⟩
    have s3 : rin k z p0 M3 := by
      unfold rin
      rw [e3, zup_ne (by omega)]; exact s1
    refine xt_sign s3 (fun b M' h => ⟨b2i_bo b, hQ b M' ⟨true, M1, r1, Or.inr ⟨rfl, Or.inr ⟨c, ?_⟩⟩⟩⟩)
    rw [e3] at h; exact h
/-- m numbers into a cell, from slot i on; then what comes -/
def rNs (k z c : Nat) (lo hi : Int32) (C : zMem → Bool → zMem → Prop) : Nat → Nat → zMem → Bool → zMem → Prop
  | 0, _ => C
  | m + 1, i => bnd (rN k z lo hi) (fun M1 => rNs k z c lo hi C m (i + 1) (zup M1 c i (M1 k 9)))
def rSo (k z n : Nat) (M : zMem) (b : Bool) (M' : zMem) : Prop := bnd (rN k z 1 2) (fun M2 b M' => ((((M2 k 11) >>> ((M2 k 9) &&& 31)) &&& 1) = 1 ∧ b = false ∧ M' = rfs k 4 M2) ∨ (¬ (((M2 k 11) >>> ((M2 k 9) &&& 31)) &&& 1) = 1 ∧ rNs k z (k + 3) 0 6 (rS k z) n (ix (M2 k 9) * 8) (zup M2 k 11 ((M2 k 11) ||| (1 <<< ((M2 k 9) &&& 31)))) b M')) (zup M k 12 1) b M'
theorem xt_sort {k z p0 n : Nat} {M : zMem} {Q : Int32 → zMem → Prop} (r : rin k z p0 M) (hn : M (k + 1) 0 = nI n) (n8 : n ≤ 8) (hQ : ∀ b M', rSo k z n M b M' → Q (b2i b) M') : wp_Reader_readSort k M Q := by
  intro M1 e1
  have s1 : rin k z p0 M1 := by
    unfold rin
    rw [e1, zup_eq, upd_ne (by omega), upd_ne (by omega)]; exact r
  unfold rSo at hQ
  rw [← e1] at hQ
  refine xt_number s1 (fun b1 M2 r1 => ?_)
  cases b1 with
  | false => exact ⟨fun w => absurd rfl w, fun _ => hQ false M2 ⟨false, M2, r1, Or.inl ⟨rfl, rfl, rfl⟩⟩⟩
  | true =>
    obtain ⟨s2, f2, -, lo, hi⟩ := rN_in s1 r1
    refine ⟨fun _ x ex => ?_, fun w => absurd w (by decide)⟩
    subst ex
    refine ⟨fun c M5 e5 => ?_, fun c => e_refuse ⟨zbo_0, hQ false _ ⟨true, M2, r1, Or.inr ⟨rfl, Or.inl ⟨c, rfl, rfl⟩⟩⟩⟩⟩
    obtain ⟨s, hs, es⟩ := nI_of2 (x := M2 k 9) (M := 2) (n := 2) rfl (fun q => lo (Int32.lt_trans q (by decide))) hi
    have e12 : M5 (k + 1) 0 = nI n := by rw [e5, zup_ne (by omega), f2.1 (k + 1) (by omega), e1, zup_ne (by omega)]; exact hn
    have s5 : rin k z p0 M5 := by
      unfold rin
      rw [e5, zup_eq, upd_ne (by omega), upd_ne (by omega)]; exact s2
    have hQ5 : ∀ b M', rNs k z (k + 3) 0 6 (rS k z) n (s * 8) M5 b M' → Q (b2i b) M' := fun b M' h => hQ b M' ⟨true, M2, r1, Or.inr ⟨rfl, Or.inr ⟨c, by rw [es, q_ix (by omega), ← es, ← e5]; exact h⟩⟩⟩
    rw [es]
    refine zlp1_r (fun m x M' => ∃ i, x = nI i ∧ i ≤ n ∧ m = n - i ∧ rin k z p0 M' ∧ M' (k + 1) 0 = nI n ∧ ∀ b M'', rNs k z (k + 3) 0 6 (rS k z) (n - i) (s * 8 + i) M' b M'' → Q (b2i b) M'') ?_ (n := n) ⟨0, rfl, by omega, rfl, s5, e12, hQ5⟩
    rintro m x M' ⟨i, rfl, hi, rfl, ri, rn, rQ⟩ J hJ
    unfold wpB_Reader_readSort_57
    rw [rn]
    refine ⟨fun c => ?_, fun c => ?_⟩
    · have := (nI_leI (by omega) (by omega)).mp c
      rw [show n - i = 0 by omega] at rQ
      exact xt_sign ri (fun b M'' h => ⟨b2i_bo b, rQ b M'' h⟩)
    · have hi2 : i < n := (nI_ltI (by omega) (by omega)).mp (Int32.not_le.mp c)
      obtain ⟨m, em⟩ : ∃ m, n - i = m + 1 := ⟨n - i - 1, by omega⟩
      rw [em] at rQ
      refine xt_number ri (fun b1 M8 r8 => ?_)
      cases b1 with
      | false => exact ⟨fun w => absurd rfl w, fun _ => rQ false M8 ⟨false, M8, r8, Or.inl ⟨rfl, rfl, rfl⟩⟩⟩
      | true =>
        obtain ⟨s8, f8, -⟩ := rN_in ri r8
        have e8 : nI s * 8 + nI i = nI (s * 8 + i) := by rw [show (8 : Int32) = nI 8 from rfl, q_mul, q_add]
        rw [e8, q_ix (by omega)]
        refine ⟨fun _ => ⟨vp_in_nI (by omega) (by omega), fun Ma ea y ey => ?_⟩, fun w => absurd w (by decide)⟩
        rw [ey, nI_1]
        refine hJ (n - (i + 1)) _ _ (by omega) ⟨i + 1, rfl, by omega, rfl, ?_, ?_, fun b M'' h => rQ b M'' ⟨true, M8, r8, Or.inr ⟨rfl, ?_⟩⟩⟩
        · unfold rin
          rw [ea, zup_ne (by omega)]; exact s8
        · rw [ea, zup_ne (by omega), f8.1 (k + 1) (by omega)]; exact rn
        · show rNs k z (k + 3) 0 6 (rS k z) m (s * 8 + i + 1) (zup M8 (k + 3) (s * 8 + i) (M8 k 9)) b M''
          rw [← ea, show m = n - (i + 1) by omega]; exact h
def rHa (k z n H : Nat) (M : zMem) (b : Bool) (M' : zMem) : Prop := ((¬ M k 13 = 0 ∨ ¬ M (k + 1) 1 < 5) ∧ b = false ∧ M' = rfs k 5 M) ∨ (M k 13 = 0 ∧ M (k + 1) 1 < 5 ∧ rNs k z (k + 4) 1 9 (fun M1 => rS k z (zup M1 (k + 1) 1 (M1 (k + 1) 1 + 1))) n (H * 8) (zup M k 12 1) b M')
theorem xt_handL {k z p0 n H : Nat} {M : zMem} {Q : Int32 → zMem → Prop} (r : rin k z p0 M) (hn : M (k + 1) 0 = nI n) (n8 : n ≤ 8) (hH : M (k + 1) 1 = nI H) (H5 : H ≤ 5) (hQ : ∀ b M', rHa k z n H M b M' → Q (b2i b) M') : wp_Reader_readHand k M Q := by
  refine ⟨fun c => e_refuse ⟨zbo_0, hQ false _ (Or.inl ⟨Or.inl c, rfl, rfl⟩)⟩, fun c => ⟨fun d M3 e3 => ?_, fun d => e_refuse ⟨zbo_0, hQ false _ (Or.inl ⟨Or.inr d, rfl, rfl⟩)⟩⟩⟩
  have hH2 : H < 5 := by
    rw [hH] at d
    exact (nI_ltI (b := 5) (by omega) (by omega)).mp d
  have s3 : rin k z p0 M3 := by
    unfold rin
    rw [e3, zup_eq, upd_ne (by omega), upd_ne (by omega)]; exact r
  have hQ3 : ∀ b M', rNs k z (k + 4) 1 9 (fun M1 => rS k z (zup M1 (k + 1) 1 (M1 (k + 1) 1 + 1))) n (H * 8) M3 b M' → Q (b2i b) M' := fun b M' h => hQ b M' (Or.inr ⟨c, d, by rw [← e3]; exact h⟩)
  have a3 : M3 (k + 1) = M (k + 1) := by rw [e3, zup_ne (by omega)]
  refine zlp1_r (fun m x M' => ∃ i, x = nI i ∧ i ≤ n ∧ m = n - i ∧ rin k z p0 M' ∧ M' (k + 1) 0 = nI n ∧ M' (k + 1) 1 = nI H ∧ ∀ b M'', rNs k z (k + 4) 1 9 (fun M1 => rS k z (zup M1 (k + 1) 1 (M1 (k + 1) 1 + 1))) (n - i) (H * 8 + i) M' b M'' → Q (b2i b) M'') ?_ (n := n) ⟨0, rfl, by omega, rfl, s3, by rw [a3]; exact hn, by rw [a3]; exact hH, hQ3⟩
  rintro m x M' ⟨i, rfl, hi, rfl, ri, rn, rH, rQ⟩ J hJ
  unfold wpB_Reader_readHand_35
  rw [rn]
  refine ⟨fun c M4 e4 => ?_, fun c => ?_⟩
  · have := (nI_leI (by omega) (by omega)).mp c
    rw [show n - i = 0 by omega] at rQ
    have s4 : rin k z p0 M4 := by
      unfold rin
      rw [e4, zup_ne (by omega)]; exact ri
    exact xt_sign s4 (fun b M'' h => ⟨b2i_bo b, rQ b M'' (by rw [e4] at h; exact h)⟩)
  · have hi2 : i < n := (nI_ltI (by omega) (by omega)).mp (Int32.not_le.mp c)
    obtain ⟨m, em⟩ : ∃ m, n - i = m + 1 := ⟨n - i - 1, by omega⟩
    rw [em] at rQ
    refine xt_number ri (fun b1 M8 r8 => ?_)
    cases b1 with
    | false => exact ⟨fun w => absurd rfl w, fun _ => rQ false M8 ⟨false, M8, r8, Or.inl ⟨rfl, rfl, rfl⟩⟩⟩
    | true =>
      obtain ⟨s8, f8, -⟩ := rN_in ri r8
      have e1 : M8 (k + 1) 1 = nI H := by rw [f8.1 (k + 1) (by omega)]; exact rH
      have e8 : M8 (k + 1) 1 * 8 + nI i = nI (H * 8 + i) := by rw [e1, show (8 : Int32) = nI 8 from rfl, q_mul, q_add]
      rw [e8, q_ix (by omega)]
      refine ⟨fun _ => ⟨vp_in_nI (by omega) (by omega), fun Ma ea y ey => ?_⟩, fun w => absurd w (by decide)⟩
      rw [ey, nI_1]
      refine hJ (n - (i + 1)) _ _ (by omega) ⟨i + 1, rfl, by omega, rfl, ?_, ?_, ?_, fun b M'' h => rQ b M'' ⟨true, M8, r8, Or.inr ⟨rfl, ?_⟩⟩⟩
      · unfold rin
        rw [ea, zup_ne (by omega)]; exact s8
      · rw [ea, zup_ne (by omega), f8.1 (k + 1) (by omega)]; exact rn
      · rw [ea, zup_ne (by omega)]; exact e1
      · show rNs k z (k + 4) 1 9 (fun M1 => rS k z (zup M1 (k + 1) 1 (M1 (k + 1) 1 + 1))) m (H * 8 + i + 1) (zup M8 (k + 4) (H * 8 + i) (M8 k 9)) b M''
        rw [← ea, show m = n - (i + 1) by omega]; exact h
/-- walk, learn: one number into slot j of what is told -/
def rOn (k z j : Nat) (hi : Int32) : zMem → Bool → zMem → Prop := bnd (rN k z 0 hi) (fun M1 => rS k z (zup M1 (k + 1) j (M1 k 9)))
theorem xt_walk {k z p0 : Nat} {M : zMem} {Q : Int32 → zMem → Prop} (r : rin k z p0 M) (hQ : ∀ b M', rOn k z 2 5 M b M' → Q (b2i b) M') : wp_Reader_readWalk k M Q := by
  refine xt_number r (fun b1 M1 r1 => ?_)
  cases b1 with
  | false => exact ⟨fun w => absurd rfl w, fun _ => hQ false M1 ⟨false, M1, r1, Or.inl ⟨rfl, rfl, rfl⟩⟩⟩
  | true =>
    obtain ⟨s1, f1, -⟩ := rN_in r r1
    refine ⟨fun _ M3 e3 => ?_, fun w => absurd w (by decide)⟩
    have s3 : rin k z p0 M3 := by
      unfold rin
      rw [e3, zup_ne (by omega)]; exact s1
    exact xt_sign s3 (fun b M' h => ⟨b2i_bo b, hQ b M' ⟨true, M1, r1, Or.inr ⟨rfl, by rw [e3] at h; exact h⟩⟩⟩)
theorem xt_learn {k z p0 : Nat} {M : zMem} {Q : Int32 → zMem → Prop} (r : rin k z p0 M) (hQ : ∀ b M', rOn k z 3 99 M b M' → Q (b2i b) M') : wp_Reader_readLearn k M Q := by
  refine xt_number r (fun b1 M1 r1 => ?_)
  cases b1 with
  | false => exact ⟨fun w => absurd rfl w, fun _ => hQ false M1 ⟨false, M1, r1, Or.inl ⟨rfl, rfl, rfl⟩⟩⟩
  | true =>
    obtain ⟨s1, f1, -⟩ := rN_in r r1
    refine ⟨fun _ M3 e3 => ?_, fun w => absurd w (by decide)⟩
    have s3 : rin k z p0 M3 := by
      unfold rin
      rw [e3, zup_ne (by omega)]; exact s1
    exact xt_sign s3 (fun b M' h => ⟨b2i_bo b, hQ b M' ⟨true, M1, r1, Or.inr ⟨rfl, by rw [e3] at h; exact h⟩⟩⟩)
/-- once -/
def rOc (k : Nat) (a : Int32) (M : zMem) (b : Bool) (M' : zMem) : Prop := ((((M k 10) >>> (a &&& 31)) &&& 1) = 1 ∧ b = false ∧ M' = rfs k 4 M) ∨ (¬ (((M k 10) >>> (a &&& 31)) &&& 1) = 1 ∧ b = true ∧ M' = zup M k 10 ((M k 10) ||| (1 <<< (a &&& 31))))
theorem xt_once {k : Nat} {a : Int32} {M : zMem} {Q : Int32 → zMem → Prop} (hQ : ∀ b M', rOc k a M b M' → Q (b2i b) M') : wp_Reader_readOnce k a M Q := by
  refine ⟨fun c M1 e1 => ?_, fun c => e_refuse ⟨zbo_0, hQ false _ (Or.inl ⟨c, rfl, rfl⟩)⟩⟩
  rw [e1]
  exact hQ true _ (Or.inr ⟨c, rfl, rfl⟩)
theorem rOc_in {k z p0 : Nat} {a : Int32} {M M' : zMem} (r : rin k z p0 M) (h : rOc k a M true M') : rin k z p0 M' ∧ M' = zup M k 10 ((M k 10) ||| (1 <<< (a &&& 31))) := by
  rcases h with ⟨-, h, -⟩ | ⟨-, -, e⟩
  · cases h
  · refine ⟨?_, e⟩
    unfold rin
    rw [e, zup_eq, upd_ne (by omega), upd_ne (by omega)]; exact r
