noncomputable def zdr (l : List UInt8) : Nat → List UInt8 := List.rec (motive := fun _ => Nat → List UInt8) (fun _ => []) (fun x t ih p => Nat.casesOn (motive := fun _ => List UInt8) p (x :: t) (fun n => ih n)) l
theorem zdr_0 (l : List UInt8) : zdr l 0 = l := by cases l <;> rfl
theorem zdr_at : ∀ (l : List UInt8) (p : Nat) (x : UInt8) (t : List UInt8), zdr l p = x :: t → (∃ h : p < l.length, l[p] = x) ∧ zdr l (p + 1) = t := by
  intro l
  induction l with
  | nil =>
    intro p x t h
    have h' : ([] : List UInt8) = x :: t := h
    cases h'
  | cons y l ih =>
    intro p x t h
    cases p with
    | zero =>
      have h' : y :: l = x :: t := h
      cases h'
      exact ⟨⟨Nat.zero_lt_succ _, rfl⟩, zdr_0 _⟩
    | succ p =>
      have h' : zdr l p = x :: t := h
      obtain ⟨⟨h1, h2⟩, h3⟩ := ih p x t h'
      exact ⟨⟨Nat.succ_lt_succ h1, h2⟩, h3⟩
theorem zu1 (c : ByteArray) (p : Nat) (x : UInt8) (t : List UInt8) (h : zdr c.data.toList p = x :: t) : (Jvm.ClassFile.Reader.u1 : Jvm.ClassFile.Decoder Nat) c p = .ok (x.toNat, p + 1) := by
  obtain ⟨⟨h1, h2⟩, -⟩ := zdr_at _ _ _ _ h
  have hs : p < c.size := by simpa using h1
  have he : c[p] = x := by rw [← h2]; rfl
  show (do if h : p < c.size then do set (p + 1); pure c[p].toNat else MonadExcept.throw (Jvm.ClassFile.HasTruncated.truncated p) : Jvm.ClassFile.Decoder Nat) c p = _
  rw [dif_pos hs]
  show Except.ok (c[p].toNat, p + 1) = _
  rw [he]
theorem zbd {α β : Type} (r : Jvm.ClassFile.Decoder α) (f : α → Jvm.ClassFile.Decoder β) (c : ByteArray) (p q : Nat) (a : α) (h : r c p = .ok (a, q)) : (r >>= f) c p = f a c q := by
  show (do let (a, s) ← r c p; f a c s : Except Jvm.ClassFile.DecodeError (β × Nat)) = _
  rw [h]; rfl
theorem zmp {α β : Type} (g : α → β) (r : Jvm.ClassFile.Decoder α) (c : ByteArray) (p q : Nat) (a : α) (h : r c p = .ok (a, q)) : (g <$> r) c p = .ok (g a, q) := by
  show (do let (a, s) ← r c p; .ok (g a, s) : Except Jvm.ClassFile.DecodeError (β × Nat)) = _
  rw [h]; rfl
theorem zu2 (c : ByteArray) (p : Nat) (a b : Nat) (h1 : (Jvm.ClassFile.Reader.u1 : Jvm.ClassFile.Decoder Nat) c p = .ok (a, p + 1)) (h2 : (Jvm.ClassFile.Reader.u1 : Jvm.ClassFile.Decoder Nat) c (p + 1) = .ok (b, p + 1 + 1)) : (Jvm.ClassFile.Reader.u2 : Jvm.ClassFile.Decoder Nat) c p = .ok (a * 256 + b, p + 1 + 1) := by
  unfold Jvm.ClassFile.Reader.u2
  rw [zbd _ _ c p (p + 1) a h1]
  rw [zbd _ _ c (p + 1) (p + 1 + 1) b h2]
  rfl
theorem zdh (c : ByteArray) (p n : Nat) (i : Jvm.ClassFile.Instr) (h : Jvm.ClassFile.Decoder.instr p c p = .ok (i, p + n)) : decode c p = .ok (i, n) := by
  show (do let (i, s) ← Jvm.ClassFile.Decoder.instr p c p; pure (i, s - p) : Except Jvm.ClassFile.DecodeError (Jvm.ClassFile.Instr × Nat)) = _
  rw [h]
  show Except.ok (i, p + n - p) = _
  rw [Nat.add_sub_cancel_left]
def zk1 (a : Nat) : List UInt8 → Bool
  | x :: _ => Nat.beq x.toNat a
  | [] => false
def zk2 (a n : Nat) : List UInt8 → Bool
  | x :: y :: _ => Nat.beq x.toNat a && Nat.beq y.toNat n
  | _ => false
def zk2s (a : Nat) (n : Int) : List UInt8 → Bool
  | x :: y :: _ => Nat.beq x.toNat a && decide (Jvm.ClassFile.Reader.signed 8 y.toNat = n)
  | _ => false
def zk3 (a n : Nat) : List UInt8 → Bool
  | x :: y :: z :: _ => Nat.beq x.toNat a && Nat.beq (y.toNat * 256 + z.toNat) n
  | _ => false
def zk3s (a : Nat) (n : Int) : List UInt8 → Bool
  | x :: y :: z :: _ => Nat.beq x.toNat a && decide (Jvm.ClassFile.Reader.signed 16 (y.toNat * 256 + z.toNat) = n)
  | _ => false
def zki (a m : Nat) (n : Int) : List UInt8 → Bool
  | x :: y :: z :: _ => Nat.beq x.toNat a && (Nat.beq y.toNat m && decide (Jvm.ClassFile.Reader.signed 8 z.toNat = n))
  | _ => false
theorem zk1_ok (c : ByteArray) (p a : Nat) (h : zk1 a (zdr c.data.toList p) = true) : (Jvm.ClassFile.Reader.u1 : Jvm.ClassFile.Decoder Nat) c p = .ok (a, p + 1) := by
  cases e : zdr c.data.toList p with
  | nil => rw [e] at h; cases h
  | cons x t =>
    rw [e] at h
    have h' : x.toNat = a := Nat.eq_of_beq_eq_true h
    rw [zu1 c p x t e, h']
theorem zk_2 (c : ByteArray) (p : Nat) (x y : UInt8) (t : List UInt8) (e : zdr c.data.toList p = x :: y :: t) : (Jvm.ClassFile.Reader.u1 : Jvm.ClassFile.Decoder Nat) c p = .ok (x.toNat, p + 1) ∧ (Jvm.ClassFile.Reader.u1 : Jvm.ClassFile.Decoder Nat) c (p + 1) = .ok (y.toNat, p + 1 + 1) :=
  ⟨zu1 c p x _ e, zu1 c (p + 1) y t (zdr_at _ _ _ _ e).2⟩
theorem zk_3 (c : ByteArray) (p : Nat) (x y z : UInt8) (t : List UInt8) (e : zdr c.data.toList p = x :: y :: z :: t) : (Jvm.ClassFile.Reader.u1 : Jvm.ClassFile.Decoder Nat) c p = .ok (x.toNat, p + 1) ∧ (Jvm.ClassFile.Reader.u1 : Jvm.ClassFile.Decoder Nat) c (p + 1) = .ok (y.toNat, p + 1 + 1) ∧ (Jvm.ClassFile.Reader.u1 : Jvm.ClassFile.Decoder Nat) c (p + 1 + 1) = .ok (z.toNat, p + 1 + 1 + 1) :=
  ⟨zu1 c p x _ e, zk_2 c (p + 1) y z t (zdr_at _ _ _ _ e).2⟩
theorem zk2_ok (c : ByteArray) (p a n : Nat) (h : zk2 a n (zdr c.data.toList p) = true) : (Jvm.ClassFile.Reader.u1 : Jvm.ClassFile.Decoder Nat) c p = .ok (a, p + 1) ∧ (Jvm.ClassFile.Reader.u1 : Jvm.ClassFile.Decoder Nat) c (p + 1) = .ok (n, p + 1 + 1) := by
  cases e : zdr c.data.toList p with
  | nil => rw [e] at h; cases h
  | cons x t =>
    cases t with
    | nil => rw [e] at h; cases h
    | cons y t =>
      rw [e] at h
      have h0 : (Nat.beq x.toNat a && Nat.beq y.toNat n) = true := h
      rw [Bool.and_eq_true] at h0
      have h1 : x.toNat = a := Nat.eq_of_beq_eq_true h0.1
      have h2 : y.toNat = n := Nat.eq_of_beq_eq_true h0.2
      rw [← h1, ← h2]
      exact zk_2 c p x y t e
theorem zk2s_ok (c : ByteArray) (p a : Nat) (n : Int) (h : zk2s a n (zdr c.data.toList p) = true) : (Jvm.ClassFile.Reader.u1 : Jvm.ClassFile.Decoder Nat) c p = .ok (a, p + 1) ∧ (Jvm.ClassFile.Reader.s1 : Jvm.ClassFile.Decoder Int) c (p + 1) = .ok (n, p + 1 + 1) := by
  cases e : zdr c.data.toList p with
  | nil => rw [e] at h; cases h
  | cons x t =>
    cases t with
    | nil => rw [e] at h; cases h
    | cons y t =>
      rw [e] at h
      have h0 : (Nat.beq x.toNat a && decide (Jvm.ClassFile.Reader.signed 8 y.toNat = n)) = true := h
      rw [Bool.and_eq_true] at h0
      have h1 : x.toNat = a := Nat.eq_of_beq_eq_true h0.1
      have h2 : Jvm.ClassFile.Reader.signed 8 y.toNat = n := of_decide_eq_true h0.2
      rw [← h1, ← h2]
      exact ⟨(zk_2 c p x y t e).1, zmp _ _ c (p + 1) (p + 1 + 1) _ (zk_2 c p x y t e).2⟩
theorem zk3_ok (c : ByteArray) (p a n : Nat) (h : zk3 a n (zdr c.data.toList p) = true) : (Jvm.ClassFile.Reader.u1 : Jvm.ClassFile.Decoder Nat) c p = .ok (a, p + 1) ∧ (Jvm.ClassFile.Reader.u2 : Jvm.ClassFile.Decoder Nat) c (p + 1) = .ok (n, p + 1 + 1 + 1) := by
  cases e : zdr c.data.toList p with
  | nil => rw [e] at h; cases h
  | cons x t =>
    cases t with
    | nil => rw [e] at h; cases h
    | cons y t =>
      cases t with
      | nil => rw [e] at h; cases h
      | cons z t =>
        rw [e] at h
        have h0 : (Nat.beq x.toNat a && Nat.beq (y.toNat * 256 + z.toNat) n) = true := h
        rw [Bool.and_eq_true] at h0
        have h1 : x.toNat = a := Nat.eq_of_beq_eq_true h0.1
        have h2 : y.toNat * 256 + z.toNat = n := Nat.eq_of_beq_eq_true h0.2
        rw [← h1, ← h2]
        exact ⟨(zk_3 c p x y z t e).1, zu2 c (p + 1) _ _ (zk_3 c p x y z t e).2.1 (zk_3 c p x y z t e).2.2⟩
theorem zk3s_ok (c : ByteArray) (p a : Nat) (n : Int) (h : zk3s a n (zdr c.data.toList p) = true) : (Jvm.ClassFile.Reader.u1 : Jvm.ClassFile.Decoder Nat) c p = .ok (a, p + 1) ∧ (Jvm.ClassFile.Reader.s2 : Jvm.ClassFile.Decoder Int) c (p + 1) = .ok (n, p + 1 + 1 + 1) := by
  cases e : zdr c.data.toList p with
  | nil => rw [e] at h; cases h
  | cons x t =>
    cases t with
    | nil => rw [e] at h; cases h
    | cons y t =>
      cases t with
      | nil => rw [e] at h; cases h
      | cons z t =>
        rw [e] at h
        have h0 : (Nat.beq x.toNat a && decide (Jvm.ClassFile.Reader.signed 16 (y.toNat * 256 + z.toNat) = n)) = true := h
        rw [Bool.and_eq_true] at h0
        have h1 : x.toNat = a := Nat.eq_of_beq_eq_true h0.1
        have h2 : Jvm.ClassFile.Reader.signed 16 (y.toNat * 256 + z.toNat) = n := of_decide_eq_true h0.2
        rw [← h1, ← h2]
        exact ⟨(zk_3 c p x y z t e).1, zmp _ _ c (p + 1) (p + 1 + 1 + 1) _ (zu2 c (p + 1) _ _ (zk_3 c p x y z t e).2.1 (zk_3 c p x y z t e).2.2)⟩
theorem zki_ok (c : ByteArray) (p a m : Nat) (n : Int) (h : zki a m n (zdr c.data.toList p) = true) : (Jvm.ClassFile.Reader.u1 : Jvm.ClassFile.Decoder Nat) c p = .ok (a, p + 1) ∧ (Jvm.ClassFile.Reader.u1 : Jvm.ClassFile.Decoder Nat) c (p + 1) = .ok (m, p + 1 + 1) ∧ (Jvm.ClassFile.Reader.s1 : Jvm.ClassFile.Decoder Int) c (p + 1 + 1) = .ok (n, p + 1 + 1 + 1) := by
  cases e : zdr c.data.toList p with
  | nil => rw [e] at h; cases h
  | cons x t =>
    cases t with
    | nil => rw [e] at h; cases h
    | cons y t =>
      cases t with
      | nil => rw [e] at h; cases h
      | cons z t =>
        rw [e] at h
        have h0 : (Nat.beq x.toNat a && (Nat.beq y.toNat m && decide (Jvm.ClassFile.Reader.signed 8 z.toNat = n))) = true := h
        rw [Bool.and_eq_true, Bool.and_eq_true] at h0
        have h1 : x.toNat = a := Nat.eq_of_beq_eq_true h0.1
        have h2 : y.toNat = m := Nat.eq_of_beq_eq_true h0.2.1
        have h3 : Jvm.ClassFile.Reader.signed 8 z.toNat = n := of_decide_eq_true h0.2.2
        rw [← h1, ← h2, ← h3]
        exact ⟨(zk_3 c p x y z t e).1, (zk_3 c p x y z t e).2.1, zmp _ _ c (p + 1 + 1) (p + 1 + 1 + 1) _ (zk_3 c p x y z t e).2.2⟩
set_option maxRecDepth 40000 in
theorem zo1 (c : ByteArray) (p : Nat) (h : zk1 1 (zdr c.data.toList p) = true) : decode c p = .ok (.aconst_null, 1) := by
  apply zdh
  unfold Jvm.ClassFile.Decoder.instr
  rw [zbd _ _ c p (p + 1) 1 (zk1_ok c p 1 h)] <;> rfl
set_option maxRecDepth 40000 in
theorem zo2 (c : ByteArray) (p : Nat) (h : zk1 2 (zdr c.data.toList p) = true) : decode c p = .ok (.iconst (-1), 1) := by
  apply zdh
  unfold Jvm.ClassFile.Decoder.instr
  rw [zbd _ _ c p (p + 1) 2 (zk1_ok c p 2 h)] <;> rfl
set_option maxRecDepth 40000 in
theorem zo3 (c : ByteArray) (p : Nat) (h : zk1 3 (zdr c.data.toList p) = true) : decode c p = .ok (.iconst 0, 1) := by
  apply zdh
  unfold Jvm.ClassFile.Decoder.instr
  rw [zbd _ _ c p (p + 1) 3 (zk1_ok c p 3 h)] <;> rfl
set_option maxRecDepth 40000 in
theorem zo4 (c : ByteArray) (p : Nat) (h : zk1 4 (zdr c.data.toList p) = true) : decode c p = .ok (.iconst 1, 1) := by
  apply zdh
  unfold Jvm.ClassFile.Decoder.instr
  rw [zbd _ _ c p (p + 1) 4 (zk1_ok c p 4 h)] <;> rfl
set_option maxRecDepth 40000 in
theorem zo5 (c : ByteArray) (p : Nat) (h : zk1 5 (zdr c.data.toList p) = true) : decode c p = .ok (.iconst 2, 1) := by
  apply zdh
  unfold Jvm.ClassFile.Decoder.instr
  rw [zbd _ _ c p (p + 1) 5 (zk1_ok c p 5 h)] <;> rfl
set_option maxRecDepth 40000 in
theorem zo6 (c : ByteArray) (p : Nat) (h : zk1 6 (zdr c.data.toList p) = true) : decode c p = .ok (.iconst 3, 1) := by
  apply zdh
  unfold Jvm.ClassFile.Decoder.instr
  rw [zbd _ _ c p (p + 1) 6 (zk1_ok c p 6 h)] <;> rfl
set_option maxRecDepth 40000 in
theorem zo7 (c : ByteArray) (p : Nat) (h : zk1 7 (zdr c.data.toList p) = true) : decode c p = .ok (.iconst 4, 1) := by
  apply zdh
  unfold Jvm.ClassFile.Decoder.instr
  rw [zbd _ _ c p (p + 1) 7 (zk1_ok c p 7 h)] <;> rfl
set_option maxRecDepth 40000 in
theorem zo8 (c : ByteArray) (p : Nat) (h : zk1 8 (zdr c.data.toList p) = true) : decode c p = .ok (.iconst 5, 1) := by
  apply zdh
  unfold Jvm.ClassFile.Decoder.instr
  rw [zbd _ _ c p (p + 1) 8 (zk1_ok c p 8 h)] <;> rfl
set_option maxRecDepth 40000 in
theorem zo9 (c : ByteArray) (p : Nat) (h : zk1 9 (zdr c.data.toList p) = true) : decode c p = .ok (.lconst 0, 1) := by
  apply zdh
  unfold Jvm.ClassFile.Decoder.instr
  rw [zbd _ _ c p (p + 1) 9 (zk1_ok c p 9 h)] <;> rfl
set_option maxRecDepth 40000 in
theorem zo10 (c : ByteArray) (p : Nat) (h : zk1 10 (zdr c.data.toList p) = true) : decode c p = .ok (.lconst 1, 1) := by
  apply zdh
  unfold Jvm.ClassFile.Decoder.instr
  rw [zbd _ _ c p (p + 1) 10 (zk1_ok c p 10 h)] <;> rfl
set_option maxRecDepth 40000 in
theorem zo16 (c : ByteArray) (p : Nat) (n : Int) (h : zk2s 16 n (zdr c.data.toList p) = true) : decode c p = .ok (.bipush n, 2) := by
  apply zdh
  unfold Jvm.ClassFile.Decoder.instr
  rw [zbd _ _ c p (p + 1) 16 (zk2s_ok c p 16 n h).1]
  show ((Jvm.ClassFile.Reader.s1 : Jvm.ClassFile.Decoder Int) >>= fun n => (pure (.bipush n) : Jvm.ClassFile.Decoder Jvm.ClassFile.Instr)) c (p + 1) = _
  rw [zbd _ _ c (p + 1) (p + 1 + 1) n (zk2s_ok c p 16 n h).2] <;> rfl
set_option maxRecDepth 40000 in
theorem zo17 (c : ByteArray) (p : Nat) (n : Int) (h : zk3s 17 n (zdr c.data.toList p) = true) : decode c p = .ok (.sipush n, 3) := by
  apply zdh
  unfold Jvm.ClassFile.Decoder.instr
  rw [zbd _ _ c p (p + 1) 17 (zk3s_ok c p 17 n h).1]
  show ((Jvm.ClassFile.Reader.s2 : Jvm.ClassFile.Decoder Int) >>= fun n => (pure (.sipush n) : Jvm.ClassFile.Decoder Jvm.ClassFile.Instr)) c (p + 1) = _
  rw [zbd _ _ c (p + 1) (p + 1 + 1 + 1) n (zk3s_ok c p 17 n h).2] <;> rfl
set_option maxRecDepth 40000 in
theorem zo18 (c : ByteArray) (p : Nat) (n : Nat) (h : zk2 18 n (zdr c.data.toList p) = true) : decode c p = .ok (.ldc n, 2) := by
  apply zdh
  unfold Jvm.ClassFile.Decoder.instr
  rw [zbd _ _ c p (p + 1) 18 (zk2_ok c p 18 n h).1]
  show ((Jvm.ClassFile.Reader.u1 : Jvm.ClassFile.Decoder Nat) >>= fun n => (pure (.ldc n) : Jvm.ClassFile.Decoder Jvm.ClassFile.Instr)) c (p + 1) = _
  rw [zbd _ _ c (p + 1) (p + 1 + 1) n (zk2_ok c p 18 n h).2] <;> rfl
set_option maxRecDepth 40000 in
theorem zo19 (c : ByteArray) (p : Nat) (n : Nat) (h : zk3 19 n (zdr c.data.toList p) = true) : decode c p = .ok (.ldc_w n, 3) := by
  apply zdh
  unfold Jvm.ClassFile.Decoder.instr
  rw [zbd _ _ c p (p + 1) 19 (zk3_ok c p 19 n h).1]
  show ((Jvm.ClassFile.Reader.u2 : Jvm.ClassFile.Decoder Nat) >>= fun n => (pure (.ldc_w n) : Jvm.ClassFile.Decoder Jvm.ClassFile.Instr)) c (p + 1) = _
  rw [zbd _ _ c (p + 1) (p + 1 + 1 + 1) n (zk3_ok c p 19 n h).2] <;> rfl
set_option maxRecDepth 40000 in
theorem zo20 (c : ByteArray) (p : Nat) (n : Nat) (h : zk3 20 n (zdr c.data.toList p) = true) : decode c p = .ok (.ldc2_w n, 3) := by
  apply zdh
  unfold Jvm.ClassFile.Decoder.instr
  rw [zbd _ _ c p (p + 1) 20 (zk3_ok c p 20 n h).1]
  show ((Jvm.ClassFile.Reader.u2 : Jvm.ClassFile.Decoder Nat) >>= fun n => (pure (.ldc2_w n) : Jvm.ClassFile.Decoder Jvm.ClassFile.Instr)) c (p + 1) = _
  rw [zbd _ _ c (p + 1) (p + 1 + 1 + 1) n (zk3_ok c p 20 n h).2] <;> rfl
set_option maxRecDepth 40000 in
theorem zo21 (c : ByteArray) (p : Nat) (n : Nat) (h : zk2 21 n (zdr c.data.toList p) = true) : decode c p = .ok (.iload n, 2) := by
  apply zdh
  unfold Jvm.ClassFile.Decoder.instr
  rw [zbd _ _ c p (p + 1) 21 (zk2_ok c p 21 n h).1]
  show ((Jvm.ClassFile.Reader.u1 : Jvm.ClassFile.Decoder Nat) >>= fun n => (pure (.iload n) : Jvm.ClassFile.Decoder Jvm.ClassFile.Instr)) c (p + 1) = _
  rw [zbd _ _ c (p + 1) (p + 1 + 1) n (zk2_ok c p 21 n h).2] <;> rfl
set_option maxRecDepth 40000 in
theorem zo22 (c : ByteArray) (p : Nat) (n : Nat) (h : zk2 22 n (zdr c.data.toList p) = true) : decode c p = .ok (.lload n, 2) := by
  apply zdh
  unfold Jvm.ClassFile.Decoder.instr
  rw [zbd _ _ c p (p + 1) 22 (zk2_ok c p 22 n h).1]
  show ((Jvm.ClassFile.Reader.u1 : Jvm.ClassFile.Decoder Nat) >>= fun n => (pure (.lload n) : Jvm.ClassFile.Decoder Jvm.ClassFile.Instr)) c (p + 1) = _
  rw [zbd _ _ c (p + 1) (p + 1 + 1) n (zk2_ok c p 22 n h).2] <;> rfl
set_option maxRecDepth 40000 in
theorem zo25 (c : ByteArray) (p : Nat) (n : Nat) (h : zk2 25 n (zdr c.data.toList p) = true) : decode c p = .ok (.aload n, 2) := by
  apply zdh
  unfold Jvm.ClassFile.Decoder.instr
  rw [zbd _ _ c p (p + 1) 25 (zk2_ok c p 25 n h).1]
  show ((Jvm.ClassFile.Reader.u1 : Jvm.ClassFile.Decoder Nat) >>= fun n => (pure (.aload n) : Jvm.ClassFile.Decoder Jvm.ClassFile.Instr)) c (p + 1) = _
  rw [zbd _ _ c (p + 1) (p + 1 + 1) n (zk2_ok c p 25 n h).2] <;> rfl
set_option maxRecDepth 40000 in
theorem zo26 (c : ByteArray) (p : Nat) (h : zk1 26 (zdr c.data.toList p) = true) : decode c p = .ok (.iload_n 0, 1) := by
  apply zdh
  unfold Jvm.ClassFile.Decoder.instr
  rw [zbd _ _ c p (p + 1) 26 (zk1_ok c p 26 h)] <;> rfl
set_option maxRecDepth 40000 in
theorem zo27 (c : ByteArray) (p : Nat) (h : zk1 27 (zdr c.data.toList p) = true) : decode c p = .ok (.iload_n 1, 1) := by
  apply zdh
  unfold Jvm.ClassFile.Decoder.instr
  rw [zbd _ _ c p (p + 1) 27 (zk1_ok c p 27 h)] <;> rfl
set_option maxRecDepth 40000 in
theorem zo28 (c : ByteArray) (p : Nat) (h : zk1 28 (zdr c.data.toList p) = true) : decode c p = .ok (.iload_n 2, 1) := by
  apply zdh
  unfold Jvm.ClassFile.Decoder.instr
  rw [zbd _ _ c p (p + 1) 28 (zk1_ok c p 28 h)] <;> rfl
set_option maxRecDepth 40000 in
theorem zo29 (c : ByteArray) (p : Nat) (h : zk1 29 (zdr c.data.toList p) = true) : decode c p = .ok (.iload_n 3, 1) := by
  apply zdh
  unfold Jvm.ClassFile.Decoder.instr
  rw [zbd _ _ c p (p + 1) 29 (zk1_ok c p 29 h)] <;> rfl
set_option maxRecDepth 40000 in
theorem zo30 (c : ByteArray) (p : Nat) (h : zk1 30 (zdr c.data.toList p) = true) : decode c p = .ok (.lload_n 0, 1) := by
  apply zdh
  unfold Jvm.ClassFile.Decoder.instr
  rw [zbd _ _ c p (p + 1) 30 (zk1_ok c p 30 h)] <;> rfl
set_option maxRecDepth 40000 in
theorem zo31 (c : ByteArray) (p : Nat) (h : zk1 31 (zdr c.data.toList p) = true) : decode c p = .ok (.lload_n 1, 1) := by
  apply zdh
  unfold Jvm.ClassFile.Decoder.instr
  rw [zbd _ _ c p (p + 1) 31 (zk1_ok c p 31 h)] <;> rfl
set_option maxRecDepth 40000 in
theorem zo32 (c : ByteArray) (p : Nat) (h : zk1 32 (zdr c.data.toList p) = true) : decode c p = .ok (.lload_n 2, 1) := by
  apply zdh
  unfold Jvm.ClassFile.Decoder.instr
  rw [zbd _ _ c p (p + 1) 32 (zk1_ok c p 32 h)] <;> rfl
set_option maxRecDepth 40000 in
theorem zo42 (c : ByteArray) (p : Nat) (h : zk1 42 (zdr c.data.toList p) = true) : decode c p = .ok (.aload_n 0, 1) := by
  apply zdh
  unfold Jvm.ClassFile.Decoder.instr
  rw [zbd _ _ c p (p + 1) 42 (zk1_ok c p 42 h)] <;> rfl
set_option maxRecDepth 40000 in
theorem zo43 (c : ByteArray) (p : Nat) (h : zk1 43 (zdr c.data.toList p) = true) : decode c p = .ok (.aload_n 1, 1) := by
  apply zdh
  unfold Jvm.ClassFile.Decoder.instr
  rw [zbd _ _ c p (p + 1) 43 (zk1_ok c p 43 h)] <;> rfl
set_option maxRecDepth 40000 in
theorem zo44 (c : ByteArray) (p : Nat) (h : zk1 44 (zdr c.data.toList p) = true) : decode c p = .ok (.aload_n 2, 1) := by
  apply zdh
  unfold Jvm.ClassFile.Decoder.instr
  rw [zbd _ _ c p (p + 1) 44 (zk1_ok c p 44 h)] <;> rfl
set_option maxRecDepth 40000 in
theorem zo46 (c : ByteArray) (p : Nat) (h : zk1 46 (zdr c.data.toList p) = true) : decode c p = .ok (.iaload, 1) := by
  apply zdh
  unfold Jvm.ClassFile.Decoder.instr
  rw [zbd _ _ c p (p + 1) 46 (zk1_ok c p 46 h)] <;> rfl
set_option maxRecDepth 40000 in
theorem zo50 (c : ByteArray) (p : Nat) (h : zk1 50 (zdr c.data.toList p) = true) : decode c p = .ok (.aaload, 1) := by
  apply zdh
  unfold Jvm.ClassFile.Decoder.instr
  rw [zbd _ _ c p (p + 1) 50 (zk1_ok c p 50 h)] <;> rfl
set_option maxRecDepth 40000 in
theorem zo51 (c : ByteArray) (p : Nat) (h : zk1 51 (zdr c.data.toList p) = true) : decode c p = .ok (.baload, 1) := by
  apply zdh
  unfold Jvm.ClassFile.Decoder.instr
  rw [zbd _ _ c p (p + 1) 51 (zk1_ok c p 51 h)] <;> rfl
set_option maxRecDepth 40000 in
theorem zo54 (c : ByteArray) (p : Nat) (n : Nat) (h : zk2 54 n (zdr c.data.toList p) = true) : decode c p = .ok (.istore n, 2) := by
  apply zdh
  unfold Jvm.ClassFile.Decoder.instr
  rw [zbd _ _ c p (p + 1) 54 (zk2_ok c p 54 n h).1]
  show ((Jvm.ClassFile.Reader.u1 : Jvm.ClassFile.Decoder Nat) >>= fun n => (pure (.istore n) : Jvm.ClassFile.Decoder Jvm.ClassFile.Instr)) c (p + 1) = _
  rw [zbd _ _ c (p + 1) (p + 1 + 1) n (zk2_ok c p 54 n h).2] <;> rfl
set_option maxRecDepth 40000 in
theorem zo55 (c : ByteArray) (p : Nat) (n : Nat) (h : zk2 55 n (zdr c.data.toList p) = true) : decode c p = .ok (.lstore n, 2) := by
  apply zdh
  unfold Jvm.ClassFile.Decoder.instr
  rw [zbd _ _ c p (p + 1) 55 (zk2_ok c p 55 n h).1]
  show ((Jvm.ClassFile.Reader.u1 : Jvm.ClassFile.Decoder Nat) >>= fun n => (pure (.lstore n) : Jvm.ClassFile.Decoder Jvm.ClassFile.Instr)) c (p + 1) = _
  rw [zbd _ _ c (p + 1) (p + 1 + 1) n (zk2_ok c p 55 n h).2] <;> rfl
set_option maxRecDepth 40000 in
theorem zo58 (c : ByteArray) (p : Nat) (n : Nat) (h : zk2 58 n (zdr c.data.toList p) = true) : decode c p = .ok (.astore n, 2) := by
  apply zdh
  unfold Jvm.ClassFile.Decoder.instr
  rw [zbd _ _ c p (p + 1) 58 (zk2_ok c p 58 n h).1]
  show ((Jvm.ClassFile.Reader.u1 : Jvm.ClassFile.Decoder Nat) >>= fun n => (pure (.astore n) : Jvm.ClassFile.Decoder Jvm.ClassFile.Instr)) c (p + 1) = _
  rw [zbd _ _ c (p + 1) (p + 1 + 1) n (zk2_ok c p 58 n h).2] <;> rfl
set_option maxRecDepth 40000 in
theorem zo60 (c : ByteArray) (p : Nat) (h : zk1 60 (zdr c.data.toList p) = true) : decode c p = .ok (.istore_n 1, 1) := by
  apply zdh
  unfold Jvm.ClassFile.Decoder.instr
  rw [zbd _ _ c p (p + 1) 60 (zk1_ok c p 60 h)] <;> rfl
set_option maxRecDepth 40000 in
theorem zo61 (c : ByteArray) (p : Nat) (h : zk1 61 (zdr c.data.toList p) = true) : decode c p = .ok (.istore_n 2, 1) := by
  apply zdh
  unfold Jvm.ClassFile.Decoder.instr
  rw [zbd _ _ c p (p + 1) 61 (zk1_ok c p 61 h)] <;> rfl
set_option maxRecDepth 40000 in
theorem zo62 (c : ByteArray) (p : Nat) (h : zk1 62 (zdr c.data.toList p) = true) : decode c p = .ok (.istore_n 3, 1) := by
  apply zdh
  unfold Jvm.ClassFile.Decoder.instr
  rw [zbd _ _ c p (p + 1) 62 (zk1_ok c p 62 h)] <;> rfl
set_option maxRecDepth 40000 in
theorem zo63 (c : ByteArray) (p : Nat) (h : zk1 63 (zdr c.data.toList p) = true) : decode c p = .ok (.lstore_n 0, 1) := by
  apply zdh
  unfold Jvm.ClassFile.Decoder.instr
  rw [zbd _ _ c p (p + 1) 63 (zk1_ok c p 63 h)] <;> rfl
set_option maxRecDepth 40000 in
theorem zo65 (c : ByteArray) (p : Nat) (h : zk1 65 (zdr c.data.toList p) = true) : decode c p = .ok (.lstore_n 2, 1) := by
  apply zdh
  unfold Jvm.ClassFile.Decoder.instr
  rw [zbd _ _ c p (p + 1) 65 (zk1_ok c p 65 h)] <;> rfl
set_option maxRecDepth 40000 in
theorem zo76 (c : ByteArray) (p : Nat) (h : zk1 76 (zdr c.data.toList p) = true) : decode c p = .ok (.astore_n 1, 1) := by
  apply zdh
  unfold Jvm.ClassFile.Decoder.instr
  rw [zbd _ _ c p (p + 1) 76 (zk1_ok c p 76 h)] <;> rfl
set_option maxRecDepth 40000 in
theorem zo77 (c : ByteArray) (p : Nat) (h : zk1 77 (zdr c.data.toList p) = true) : decode c p = .ok (.astore_n 2, 1) := by
  apply zdh
  unfold Jvm.ClassFile.Decoder.instr
  rw [zbd _ _ c p (p + 1) 77 (zk1_ok c p 77 h)] <;> rfl
set_option maxRecDepth 40000 in
theorem zo79 (c : ByteArray) (p : Nat) (h : zk1 79 (zdr c.data.toList p) = true) : decode c p = .ok (.iastore, 1) := by
  apply zdh
  unfold Jvm.ClassFile.Decoder.instr
  rw [zbd _ _ c p (p + 1) 79 (zk1_ok c p 79 h)] <;> rfl
set_option maxRecDepth 40000 in
theorem zo83 (c : ByteArray) (p : Nat) (h : zk1 83 (zdr c.data.toList p) = true) : decode c p = .ok (.aastore, 1) := by
  apply zdh
  unfold Jvm.ClassFile.Decoder.instr
  rw [zbd _ _ c p (p + 1) 83 (zk1_ok c p 83 h)] <;> rfl
set_option maxRecDepth 40000 in
theorem zo84 (c : ByteArray) (p : Nat) (h : zk1 84 (zdr c.data.toList p) = true) : decode c p = .ok (.bastore, 1) := by
  apply zdh
  unfold Jvm.ClassFile.Decoder.instr
  rw [zbd _ _ c p (p + 1) 84 (zk1_ok c p 84 h)] <;> rfl
set_option maxRecDepth 40000 in
theorem zo87 (c : ByteArray) (p : Nat) (h : zk1 87 (zdr c.data.toList p) = true) : decode c p = .ok (.pop, 1) := by
  apply zdh
  unfold Jvm.ClassFile.Decoder.instr
  rw [zbd _ _ c p (p + 1) 87 (zk1_ok c p 87 h)] <;> rfl
set_option maxRecDepth 40000 in
theorem zo88 (c : ByteArray) (p : Nat) (h : zk1 88 (zdr c.data.toList p) = true) : decode c p = .ok (.pop2, 1) := by
  apply zdh
  unfold Jvm.ClassFile.Decoder.instr
  rw [zbd _ _ c p (p + 1) 88 (zk1_ok c p 88 h)] <;> rfl
set_option maxRecDepth 40000 in
theorem zo89 (c : ByteArray) (p : Nat) (h : zk1 89 (zdr c.data.toList p) = true) : decode c p = .ok (.dup, 1) := by
  apply zdh
  unfold Jvm.ClassFile.Decoder.instr
  rw [zbd _ _ c p (p + 1) 89 (zk1_ok c p 89 h)] <;> rfl
set_option maxRecDepth 40000 in
theorem zo92 (c : ByteArray) (p : Nat) (h : zk1 92 (zdr c.data.toList p) = true) : decode c p = .ok (.dup2, 1) := by
  apply zdh
  unfold Jvm.ClassFile.Decoder.instr
  rw [zbd _ _ c p (p + 1) 92 (zk1_ok c p 92 h)] <;> rfl
set_option maxRecDepth 40000 in
theorem zo96 (c : ByteArray) (p : Nat) (h : zk1 96 (zdr c.data.toList p) = true) : decode c p = .ok (.iadd, 1) := by
  apply zdh
  unfold Jvm.ClassFile.Decoder.instr
  rw [zbd _ _ c p (p + 1) 96 (zk1_ok c p 96 h)] <;> rfl
set_option maxRecDepth 40000 in
theorem zo97 (c : ByteArray) (p : Nat) (h : zk1 97 (zdr c.data.toList p) = true) : decode c p = .ok (.ladd, 1) := by
  apply zdh
  unfold Jvm.ClassFile.Decoder.instr
  rw [zbd _ _ c p (p + 1) 97 (zk1_ok c p 97 h)] <;> rfl
set_option maxRecDepth 40000 in
theorem zo100 (c : ByteArray) (p : Nat) (h : zk1 100 (zdr c.data.toList p) = true) : decode c p = .ok (.isub, 1) := by
  apply zdh
  unfold Jvm.ClassFile.Decoder.instr
  rw [zbd _ _ c p (p + 1) 100 (zk1_ok c p 100 h)] <;> rfl
set_option maxRecDepth 40000 in
theorem zo104 (c : ByteArray) (p : Nat) (h : zk1 104 (zdr c.data.toList p) = true) : decode c p = .ok (.imul, 1) := by
  apply zdh
  unfold Jvm.ClassFile.Decoder.instr
  rw [zbd _ _ c p (p + 1) 104 (zk1_ok c p 104 h)] <;> rfl
set_option maxRecDepth 40000 in
theorem zo105 (c : ByteArray) (p : Nat) (h : zk1 105 (zdr c.data.toList p) = true) : decode c p = .ok (.lmul, 1) := by
  apply zdh
  unfold Jvm.ClassFile.Decoder.instr
  rw [zbd _ _ c p (p + 1) 105 (zk1_ok c p 105 h)] <;> rfl
set_option maxRecDepth 40000 in
theorem zo108 (c : ByteArray) (p : Nat) (h : zk1 108 (zdr c.data.toList p) = true) : decode c p = .ok (.idiv, 1) := by
  apply zdh
  unfold Jvm.ClassFile.Decoder.instr
  rw [zbd _ _ c p (p + 1) 108 (zk1_ok c p 108 h)] <;> rfl
set_option maxRecDepth 40000 in
theorem zo109 (c : ByteArray) (p : Nat) (h : zk1 109 (zdr c.data.toList p) = true) : decode c p = .ok (.ldiv, 1) := by
  apply zdh
  unfold Jvm.ClassFile.Decoder.instr
  rw [zbd _ _ c p (p + 1) 109 (zk1_ok c p 109 h)] <;> rfl
set_option maxRecDepth 40000 in
theorem zo112 (c : ByteArray) (p : Nat) (h : zk1 112 (zdr c.data.toList p) = true) : decode c p = .ok (.irem, 1) := by
  apply zdh
  unfold Jvm.ClassFile.Decoder.instr
  rw [zbd _ _ c p (p + 1) 112 (zk1_ok c p 112 h)] <;> rfl
set_option maxRecDepth 40000 in
theorem zo113 (c : ByteArray) (p : Nat) (h : zk1 113 (zdr c.data.toList p) = true) : decode c p = .ok (.lrem, 1) := by
  apply zdh
  unfold Jvm.ClassFile.Decoder.instr
  rw [zbd _ _ c p (p + 1) 113 (zk1_ok c p 113 h)] <;> rfl
set_option maxRecDepth 40000 in
theorem zo120 (c : ByteArray) (p : Nat) (h : zk1 120 (zdr c.data.toList p) = true) : decode c p = .ok (.ishl, 1) := by
  apply zdh
  unfold Jvm.ClassFile.Decoder.instr
  rw [zbd _ _ c p (p + 1) 120 (zk1_ok c p 120 h)] <;> rfl
set_option maxRecDepth 40000 in
theorem zo121 (c : ByteArray) (p : Nat) (h : zk1 121 (zdr c.data.toList p) = true) : decode c p = .ok (.lshl, 1) := by
  apply zdh
  unfold Jvm.ClassFile.Decoder.instr
  rw [zbd _ _ c p (p + 1) 121 (zk1_ok c p 121 h)] <;> rfl
set_option maxRecDepth 40000 in
theorem zo122 (c : ByteArray) (p : Nat) (h : zk1 122 (zdr c.data.toList p) = true) : decode c p = .ok (.ishr, 1) := by
  apply zdh
  unfold Jvm.ClassFile.Decoder.instr
  rw [zbd _ _ c p (p + 1) 122 (zk1_ok c p 122 h)] <;> rfl
set_option maxRecDepth 40000 in
theorem zo123 (c : ByteArray) (p : Nat) (h : zk1 123 (zdr c.data.toList p) = true) : decode c p = .ok (.lshr, 1) := by
  apply zdh
  unfold Jvm.ClassFile.Decoder.instr
  rw [zbd _ _ c p (p + 1) 123 (zk1_ok c p 123 h)] <;> rfl
set_option maxRecDepth 40000 in
theorem zo126 (c : ByteArray) (p : Nat) (h : zk1 126 (zdr c.data.toList p) = true) : decode c p = .ok (.iand, 1) := by
  apply zdh
  unfold Jvm.ClassFile.Decoder.instr
  rw [zbd _ _ c p (p + 1) 126 (zk1_ok c p 126 h)] <;> rfl
set_option maxRecDepth 40000 in
theorem zo127 (c : ByteArray) (p : Nat) (h : zk1 127 (zdr c.data.toList p) = true) : decode c p = .ok (.land, 1) := by
  apply zdh
  unfold Jvm.ClassFile.Decoder.instr
  rw [zbd _ _ c p (p + 1) 127 (zk1_ok c p 127 h)] <;> rfl
set_option maxRecDepth 40000 in
theorem zo128 (c : ByteArray) (p : Nat) (h : zk1 128 (zdr c.data.toList p) = true) : decode c p = .ok (.ior, 1) := by
  apply zdh
  unfold Jvm.ClassFile.Decoder.instr
  rw [zbd _ _ c p (p + 1) 128 (zk1_ok c p 128 h)] <;> rfl
set_option maxRecDepth 40000 in
theorem zo129 (c : ByteArray) (p : Nat) (h : zk1 129 (zdr c.data.toList p) = true) : decode c p = .ok (.lor, 1) := by
  apply zdh
  unfold Jvm.ClassFile.Decoder.instr
  rw [zbd _ _ c p (p + 1) 129 (zk1_ok c p 129 h)] <;> rfl
set_option maxRecDepth 40000 in
theorem zo132 (c : ByteArray) (p m : Nat) (n : Int) (h : zki 132 m n (zdr c.data.toList p) = true) : decode c p = .ok (.iinc m n, 3) := by
  apply zdh
  unfold Jvm.ClassFile.Decoder.instr
  rw [zbd _ _ c p (p + 1) 132 (zki_ok c p 132 m n h).1]
  show ((Jvm.ClassFile.Reader.u1 : Jvm.ClassFile.Decoder Nat) >>= fun m => (Jvm.ClassFile.Reader.s1 : Jvm.ClassFile.Decoder Int) >>= fun n => (pure (.iinc m n) : Jvm.ClassFile.Decoder Jvm.ClassFile.Instr)) c (p + 1) = _
  rw [zbd _ _ c (p + 1) (p + 1 + 1) m (zki_ok c p 132 m n h).2.1]
  rw [zbd _ _ c (p + 1 + 1) (p + 1 + 1 + 1) n (zki_ok c p 132 m n h).2.2] <;> rfl
set_option maxRecDepth 40000 in
theorem zo133 (c : ByteArray) (p : Nat) (h : zk1 133 (zdr c.data.toList p) = true) : decode c p = .ok (.i2l, 1) := by
  apply zdh
  unfold Jvm.ClassFile.Decoder.instr
  rw [zbd _ _ c p (p + 1) 133 (zk1_ok c p 133 h)] <;> rfl
set_option maxRecDepth 40000 in
theorem zo136 (c : ByteArray) (p : Nat) (h : zk1 136 (zdr c.data.toList p) = true) : decode c p = .ok (.l2i, 1) := by
  apply zdh
  unfold Jvm.ClassFile.Decoder.instr
  rw [zbd _ _ c p (p + 1) 136 (zk1_ok c p 136 h)] <;> rfl
set_option maxRecDepth 40000 in
theorem zo145 (c : ByteArray) (p : Nat) (h : zk1 145 (zdr c.data.toList p) = true) : decode c p = .ok (.i2b, 1) := by
  apply zdh
  unfold Jvm.ClassFile.Decoder.instr
  rw [zbd _ _ c p (p + 1) 145 (zk1_ok c p 145 h)] <;> rfl
set_option maxRecDepth 40000 in
theorem zo147 (c : ByteArray) (p : Nat) (h : zk1 147 (zdr c.data.toList p) = true) : decode c p = .ok (.i2s, 1) := by
  apply zdh
  unfold Jvm.ClassFile.Decoder.instr
  rw [zbd _ _ c p (p + 1) 147 (zk1_ok c p 147 h)] <;> rfl
set_option maxRecDepth 40000 in
theorem zo148 (c : ByteArray) (p : Nat) (h : zk1 148 (zdr c.data.toList p) = true) : decode c p = .ok (.lcmp, 1) := by
  apply zdh
  unfold Jvm.ClassFile.Decoder.instr
  rw [zbd _ _ c p (p + 1) 148 (zk1_ok c p 148 h)] <;> rfl
set_option maxRecDepth 40000 in
theorem zo153 (c : ByteArray) (p : Nat) (n : Int) (h : zk3s 153 n (zdr c.data.toList p) = true) : decode c p = .ok (.ifCond .eq n, 3) := by
  apply zdh
  unfold Jvm.ClassFile.Decoder.instr
  rw [zbd _ _ c p (p + 1) 153 (zk3s_ok c p 153 n h).1]
  show ((Jvm.ClassFile.Reader.s2 : Jvm.ClassFile.Decoder Int) >>= fun n => (pure (.ifCond .eq n) : Jvm.ClassFile.Decoder Jvm.ClassFile.Instr)) c (p + 1) = _
  rw [zbd _ _ c (p + 1) (p + 1 + 1 + 1) n (zk3s_ok c p 153 n h).2] <;> rfl
set_option maxRecDepth 40000 in
theorem zo154 (c : ByteArray) (p : Nat) (n : Int) (h : zk3s 154 n (zdr c.data.toList p) = true) : decode c p = .ok (.ifCond .ne n, 3) := by
  apply zdh
  unfold Jvm.ClassFile.Decoder.instr
  rw [zbd _ _ c p (p + 1) 154 (zk3s_ok c p 154 n h).1]
  show ((Jvm.ClassFile.Reader.s2 : Jvm.ClassFile.Decoder Int) >>= fun n => (pure (.ifCond .ne n) : Jvm.ClassFile.Decoder Jvm.ClassFile.Instr)) c (p + 1) = _
  rw [zbd _ _ c (p + 1) (p + 1 + 1 + 1) n (zk3s_ok c p 154 n h).2] <;> rfl
set_option maxRecDepth 40000 in
theorem zo155 (c : ByteArray) (p : Nat) (n : Int) (h : zk3s 155 n (zdr c.data.toList p) = true) : decode c p = .ok (.ifCond .lt n, 3) := by
  apply zdh
  unfold Jvm.ClassFile.Decoder.instr
  rw [zbd _ _ c p (p + 1) 155 (zk3s_ok c p 155 n h).1]
  show ((Jvm.ClassFile.Reader.s2 : Jvm.ClassFile.Decoder Int) >>= fun n => (pure (.ifCond .lt n) : Jvm.ClassFile.Decoder Jvm.ClassFile.Instr)) c (p + 1) = _
  rw [zbd _ _ c (p + 1) (p + 1 + 1 + 1) n (zk3s_ok c p 155 n h).2] <;> rfl
set_option maxRecDepth 40000 in
theorem zo156 (c : ByteArray) (p : Nat) (n : Int) (h : zk3s 156 n (zdr c.data.toList p) = true) : decode c p = .ok (.ifCond .ge n, 3) := by
  apply zdh
  unfold Jvm.ClassFile.Decoder.instr
  rw [zbd _ _ c p (p + 1) 156 (zk3s_ok c p 156 n h).1]
  show ((Jvm.ClassFile.Reader.s2 : Jvm.ClassFile.Decoder Int) >>= fun n => (pure (.ifCond .ge n) : Jvm.ClassFile.Decoder Jvm.ClassFile.Instr)) c (p + 1) = _
  rw [zbd _ _ c (p + 1) (p + 1 + 1 + 1) n (zk3s_ok c p 156 n h).2] <;> rfl
set_option maxRecDepth 40000 in
theorem zo157 (c : ByteArray) (p : Nat) (n : Int) (h : zk3s 157 n (zdr c.data.toList p) = true) : decode c p = .ok (.ifCond .gt n, 3) := by
  apply zdh
  unfold Jvm.ClassFile.Decoder.instr
  rw [zbd _ _ c p (p + 1) 157 (zk3s_ok c p 157 n h).1]
  show ((Jvm.ClassFile.Reader.s2 : Jvm.ClassFile.Decoder Int) >>= fun n => (pure (.ifCond .gt n) : Jvm.ClassFile.Decoder Jvm.ClassFile.Instr)) c (p + 1) = _
  rw [zbd _ _ c (p + 1) (p + 1 + 1 + 1) n (zk3s_ok c p 157 n h).2] <;> rfl
set_option maxRecDepth 40000 in
theorem zo158 (c : ByteArray) (p : Nat) (n : Int) (h : zk3s 158 n (zdr c.data.toList p) = true) : decode c p = .ok (.ifCond .le n, 3) := by
  apply zdh
  unfold Jvm.ClassFile.Decoder.instr
  rw [zbd _ _ c p (p + 1) 158 (zk3s_ok c p 158 n h).1]
  show ((Jvm.ClassFile.Reader.s2 : Jvm.ClassFile.Decoder Int) >>= fun n => (pure (.ifCond .le n) : Jvm.ClassFile.Decoder Jvm.ClassFile.Instr)) c (p + 1) = _
  rw [zbd _ _ c (p + 1) (p + 1 + 1 + 1) n (zk3s_ok c p 158 n h).2] <;> rfl
set_option maxRecDepth 40000 in
theorem zo159 (c : ByteArray) (p : Nat) (n : Int) (h : zk3s 159 n (zdr c.data.toList p) = true) : decode c p = .ok (.if_icmp .eq n, 3) := by
  apply zdh
  unfold Jvm.ClassFile.Decoder.instr
  rw [zbd _ _ c p (p + 1) 159 (zk3s_ok c p 159 n h).1]
  show ((Jvm.ClassFile.Reader.s2 : Jvm.ClassFile.Decoder Int) >>= fun n => (pure (.if_icmp .eq n) : Jvm.ClassFile.Decoder Jvm.ClassFile.Instr)) c (p + 1) = _
  rw [zbd _ _ c (p + 1) (p + 1 + 1 + 1) n (zk3s_ok c p 159 n h).2] <;> rfl
set_option maxRecDepth 40000 in
theorem zo160 (c : ByteArray) (p : Nat) (n : Int) (h : zk3s 160 n (zdr c.data.toList p) = true) : decode c p = .ok (.if_icmp .ne n, 3) := by
  apply zdh
  unfold Jvm.ClassFile.Decoder.instr
  rw [zbd _ _ c p (p + 1) 160 (zk3s_ok c p 160 n h).1]
  show ((Jvm.ClassFile.Reader.s2 : Jvm.ClassFile.Decoder Int) >>= fun n => (pure (.if_icmp .ne n) : Jvm.ClassFile.Decoder Jvm.ClassFile.Instr)) c (p + 1) = _
  rw [zbd _ _ c (p + 1) (p + 1 + 1 + 1) n (zk3s_ok c p 160 n h).2] <;> rfl
set_option maxRecDepth 40000 in
theorem zo161 (c : ByteArray) (p : Nat) (n : Int) (h : zk3s 161 n (zdr c.data.toList p) = true) : decode c p = .ok (.if_icmp .lt n, 3) := by
  apply zdh
  unfold Jvm.ClassFile.Decoder.instr
  rw [zbd _ _ c p (p + 1) 161 (zk3s_ok c p 161 n h).1]
  show ((Jvm.ClassFile.Reader.s2 : Jvm.ClassFile.Decoder Int) >>= fun n => (pure (.if_icmp .lt n) : Jvm.ClassFile.Decoder Jvm.ClassFile.Instr)) c (p + 1) = _
  rw [zbd _ _ c (p + 1) (p + 1 + 1 + 1) n (zk3s_ok c p 161 n h).2] <;> rfl
set_option maxRecDepth 40000 in
theorem zo162 (c : ByteArray) (p : Nat) (n : Int) (h : zk3s 162 n (zdr c.data.toList p) = true) : decode c p = .ok (.if_icmp .ge n, 3) := by
  apply zdh
  unfold Jvm.ClassFile.Decoder.instr
  rw [zbd _ _ c p (p + 1) 162 (zk3s_ok c p 162 n h).1]
  show ((Jvm.ClassFile.Reader.s2 : Jvm.ClassFile.Decoder Int) >>= fun n => (pure (.if_icmp .ge n) : Jvm.ClassFile.Decoder Jvm.ClassFile.Instr)) c (p + 1) = _
  rw [zbd _ _ c (p + 1) (p + 1 + 1 + 1) n (zk3s_ok c p 162 n h).2] <;> rfl
set_option maxRecDepth 40000 in
theorem zo163 (c : ByteArray) (p : Nat) (n : Int) (h : zk3s 163 n (zdr c.data.toList p) = true) : decode c p = .ok (.if_icmp .gt n, 3) := by
  apply zdh
  unfold Jvm.ClassFile.Decoder.instr
  rw [zbd _ _ c p (p + 1) 163 (zk3s_ok c p 163 n h).1]
  show ((Jvm.ClassFile.Reader.s2 : Jvm.ClassFile.Decoder Int) >>= fun n => (pure (.if_icmp .gt n) : Jvm.ClassFile.Decoder Jvm.ClassFile.Instr)) c (p + 1) = _
  rw [zbd _ _ c (p + 1) (p + 1 + 1 + 1) n (zk3s_ok c p 163 n h).2] <;> rfl
set_option maxRecDepth 40000 in
theorem zo164 (c : ByteArray) (p : Nat) (n : Int) (h : zk3s 164 n (zdr c.data.toList p) = true) : decode c p = .ok (.if_icmp .le n, 3) := by
  apply zdh
  unfold Jvm.ClassFile.Decoder.instr
  rw [zbd _ _ c p (p + 1) 164 (zk3s_ok c p 164 n h).1]
  show ((Jvm.ClassFile.Reader.s2 : Jvm.ClassFile.Decoder Int) >>= fun n => (pure (.if_icmp .le n) : Jvm.ClassFile.Decoder Jvm.ClassFile.Instr)) c (p + 1) = _
  rw [zbd _ _ c (p + 1) (p + 1 + 1 + 1) n (zk3s_ok c p 164 n h).2] <;> rfl
set_option maxRecDepth 40000 in
theorem zo167 (c : ByteArray) (p : Nat) (n : Int) (h : zk3s 167 n (zdr c.data.toList p) = true) : decode c p = .ok (.goto n, 3) := by
  apply zdh
  unfold Jvm.ClassFile.Decoder.instr
  rw [zbd _ _ c p (p + 1) 167 (zk3s_ok c p 167 n h).1]
  show ((Jvm.ClassFile.Reader.s2 : Jvm.ClassFile.Decoder Int) >>= fun n => (pure (.goto n) : Jvm.ClassFile.Decoder Jvm.ClassFile.Instr)) c (p + 1) = _
  rw [zbd _ _ c (p + 1) (p + 1 + 1 + 1) n (zk3s_ok c p 167 n h).2] <;> rfl
set_option maxRecDepth 40000 in
theorem zo172 (c : ByteArray) (p : Nat) (h : zk1 172 (zdr c.data.toList p) = true) : decode c p = .ok (.ireturn, 1) := by
  apply zdh
  unfold Jvm.ClassFile.Decoder.instr
  rw [zbd _ _ c p (p + 1) 172 (zk1_ok c p 172 h)] <;> rfl
set_option maxRecDepth 40000 in
theorem zo173 (c : ByteArray) (p : Nat) (h : zk1 173 (zdr c.data.toList p) = true) : decode c p = .ok (.lreturn, 1) := by
  apply zdh
  unfold Jvm.ClassFile.Decoder.instr
  rw [zbd _ _ c p (p + 1) 173 (zk1_ok c p 173 h)] <;> rfl
set_option maxRecDepth 40000 in
theorem zo176 (c : ByteArray) (p : Nat) (h : zk1 176 (zdr c.data.toList p) = true) : decode c p = .ok (.areturn, 1) := by
  apply zdh
  unfold Jvm.ClassFile.Decoder.instr
  rw [zbd _ _ c p (p + 1) 176 (zk1_ok c p 176 h)] <;> rfl
set_option maxRecDepth 40000 in
theorem zo177 (c : ByteArray) (p : Nat) (h : zk1 177 (zdr c.data.toList p) = true) : decode c p = .ok (.return_, 1) := by
  apply zdh
  unfold Jvm.ClassFile.Decoder.instr
  rw [zbd _ _ c p (p + 1) 177 (zk1_ok c p 177 h)] <;> rfl
set_option maxRecDepth 40000 in
theorem zo180 (c : ByteArray) (p : Nat) (n : Nat) (h : zk3 180 n (zdr c.data.toList p) = true) : decode c p = .ok (.getfield n, 3) := by
  apply zdh
  unfold Jvm.ClassFile.Decoder.instr
  rw [zbd _ _ c p (p + 1) 180 (zk3_ok c p 180 n h).1]
  show ((Jvm.ClassFile.Reader.u2 : Jvm.ClassFile.Decoder Nat) >>= fun n => (pure (.getfield n) : Jvm.ClassFile.Decoder Jvm.ClassFile.Instr)) c (p + 1) = _
  rw [zbd _ _ c (p + 1) (p + 1 + 1 + 1) n (zk3_ok c p 180 n h).2] <;> rfl
set_option maxRecDepth 40000 in
theorem zo181 (c : ByteArray) (p : Nat) (n : Nat) (h : zk3 181 n (zdr c.data.toList p) = true) : decode c p = .ok (.putfield n, 3) := by
  apply zdh
  unfold Jvm.ClassFile.Decoder.instr
  rw [zbd _ _ c p (p + 1) 181 (zk3_ok c p 181 n h).1]
  show ((Jvm.ClassFile.Reader.u2 : Jvm.ClassFile.Decoder Nat) >>= fun n => (pure (.putfield n) : Jvm.ClassFile.Decoder Jvm.ClassFile.Instr)) c (p + 1) = _
  rw [zbd _ _ c (p + 1) (p + 1 + 1 + 1) n (zk3_ok c p 181 n h).2] <;> rfl
set_option maxRecDepth 40000 in
theorem zo182 (c : ByteArray) (p : Nat) (n : Nat) (h : zk3 182 n (zdr c.data.toList p) = true) : decode c p = .ok (.invokevirtual n, 3) := by
  apply zdh
  unfold Jvm.ClassFile.Decoder.instr
  rw [zbd _ _ c p (p + 1) 182 (zk3_ok c p 182 n h).1]
  show ((Jvm.ClassFile.Reader.u2 : Jvm.ClassFile.Decoder Nat) >>= fun n => (pure (.invokevirtual n) : Jvm.ClassFile.Decoder Jvm.ClassFile.Instr)) c (p + 1) = _
  rw [zbd _ _ c (p + 1) (p + 1 + 1 + 1) n (zk3_ok c p 182 n h).2] <;> rfl
set_option maxRecDepth 40000 in
theorem zo183 (c : ByteArray) (p : Nat) (n : Nat) (h : zk3 183 n (zdr c.data.toList p) = true) : decode c p = .ok (.invokespecial n, 3) := by
  apply zdh
  unfold Jvm.ClassFile.Decoder.instr
  rw [zbd _ _ c p (p + 1) 183 (zk3_ok c p 183 n h).1]
  show ((Jvm.ClassFile.Reader.u2 : Jvm.ClassFile.Decoder Nat) >>= fun n => (pure (.invokespecial n) : Jvm.ClassFile.Decoder Jvm.ClassFile.Instr)) c (p + 1) = _
  rw [zbd _ _ c (p + 1) (p + 1 + 1 + 1) n (zk3_ok c p 183 n h).2] <;> rfl
set_option maxRecDepth 40000 in
theorem zo184 (c : ByteArray) (p : Nat) (n : Nat) (h : zk3 184 n (zdr c.data.toList p) = true) : decode c p = .ok (.invokestatic n, 3) := by
  apply zdh
  unfold Jvm.ClassFile.Decoder.instr
  rw [zbd _ _ c p (p + 1) 184 (zk3_ok c p 184 n h).1]
  show ((Jvm.ClassFile.Reader.u2 : Jvm.ClassFile.Decoder Nat) >>= fun n => (pure (.invokestatic n) : Jvm.ClassFile.Decoder Jvm.ClassFile.Instr)) c (p + 1) = _
  rw [zbd _ _ c (p + 1) (p + 1 + 1 + 1) n (zk3_ok c p 184 n h).2] <;> rfl
set_option maxRecDepth 40000 in
theorem zo187 (c : ByteArray) (p : Nat) (n : Nat) (h : zk3 187 n (zdr c.data.toList p) = true) : decode c p = .ok (.new n, 3) := by
  apply zdh
  unfold Jvm.ClassFile.Decoder.instr
  rw [zbd _ _ c p (p + 1) 187 (zk3_ok c p 187 n h).1]
  show ((Jvm.ClassFile.Reader.u2 : Jvm.ClassFile.Decoder Nat) >>= fun n => (pure (.new n) : Jvm.ClassFile.Decoder Jvm.ClassFile.Instr)) c (p + 1) = _
  rw [zbd _ _ c (p + 1) (p + 1 + 1 + 1) n (zk3_ok c p 187 n h).2] <;> rfl
set_option maxRecDepth 40000 in
theorem zo189 (c : ByteArray) (p : Nat) (n : Nat) (h : zk3 189 n (zdr c.data.toList p) = true) : decode c p = .ok (.anewarray n, 3) := by
  apply zdh
  unfold Jvm.ClassFile.Decoder.instr
  rw [zbd _ _ c p (p + 1) 189 (zk3_ok c p 189 n h).1]
  show ((Jvm.ClassFile.Reader.u2 : Jvm.ClassFile.Decoder Nat) >>= fun n => (pure (.anewarray n) : Jvm.ClassFile.Decoder Jvm.ClassFile.Instr)) c (p + 1) = _
  rw [zbd _ _ c (p + 1) (p + 1 + 1 + 1) n (zk3_ok c p 189 n h).2] <;> rfl
set_option maxRecDepth 40000 in
theorem zo190 (c : ByteArray) (p : Nat) (h : zk1 190 (zdr c.data.toList p) = true) : decode c p = .ok (.arraylength, 1) := by
  apply zdh
  unfold Jvm.ClassFile.Decoder.instr
  rw [zbd _ _ c p (p + 1) 190 (zk1_ok c p 190 h)] <;> rfl
set_option maxRecDepth 40000 in
theorem zo198 (c : ByteArray) (p : Nat) (n : Int) (h : zk3s 198 n (zdr c.data.toList p) = true) : decode c p = .ok (.ifnull n, 3) := by
  apply zdh
  unfold Jvm.ClassFile.Decoder.instr
  rw [zbd _ _ c p (p + 1) 198 (zk3s_ok c p 198 n h).1]
  show ((Jvm.ClassFile.Reader.s2 : Jvm.ClassFile.Decoder Int) >>= fun n => (pure (.ifnull n) : Jvm.ClassFile.Decoder Jvm.ClassFile.Instr)) c (p + 1) = _
  rw [zbd _ _ c (p + 1) (p + 1 + 1 + 1) n (zk3s_ok c p 198 n h).2] <;> rfl
