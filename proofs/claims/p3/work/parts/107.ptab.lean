/-- ends of parts in their order, as bits -/
def pt (n H : Nat) : List Nat := match n, H with
  | 1, 1 => [0]
  | 2, 1 => [0]
  | 2, 2 => [2]
  | 3, 1 => [0]
  | 3, 2 => [2, 4]
  | 3, 3 => [6]
  | 4, 1 => [0]
  | 4, 2 => [2, 4, 8]
  | 4, 3 => [6, 10, 12]
  | 4, 4 => [14]
  | 5, 1 => [0]
  | 5, 2 => [2, 4, 8, 16]
  | 5, 3 => [6, 10, 18, 12, 20, 24]
  | 5, 4 => [14, 22, 26, 28]
  | 5, 5 => [30]
  | 6, 1 => [0]
  | 6, 2 => [2, 4, 8, 16, 32]
  | 6, 3 => [6, 10, 18, 34, 12, 20, 36, 24, 40, 48]
  | 6, 4 => [14, 22, 38, 26, 42, 50, 28, 44, 52, 56]
  | 6, 5 => [30, 46, 54, 58, 60]
  | 7, 1 => [0]
  | 7, 2 => [2, 4, 8, 16, 32, 64]
  | 7, 3 => [6, 10, 18, 34, 66, 12, 20, 36, 68, 24, 40, 72, 48, 80, 96]
  | 7, 4 => [14, 22, 38, 70, 26, 42, 74, 50, 82, 98, 28, 44, 76, 52, 84, 100, 56, 88, 104, 112]
  | 7, 5 => [30, 46, 78, 54, 86, 102, 58, 90, 106, 114, 60, 92, 108, 116, 120]
  | 8, 1 => [0]
  | 8, 2 => [2, 4, 8, 16, 32, 64, 128]
  | 8, 3 => [6, 10, 18, 34, 66, 130, 12, 20, 36, 68, 132, 24, 40, 72, 136, 48, 80, 144, 96, 160, 192]
  | 8, 4 => [14, 22, 38, 70, 134, 26, 42, 74, 138, 50, 82, 146, 98, 162, 194, 28, 44, 76, 140, 52, 84, 148, 100, 164, 196, 56, 88, 152, 104, 168, 200, 112, 176, 208, 224]
  | 8, 5 => [30, 46, 78, 142, 54, 86, 150, 102, 166, 198, 58, 90, 154, 106, 170, 202, 114, 178, 210, 226, 60, 92, 156, 108, 172, 204, 116, 180, 212, 228, 120, 184, 216, 232, 240]
  | _, _ => []
def pN (n H : Nat) : Nat := (pt n H).length
def pm (n H k : Nat) : Nat := (pt n H).getD k 0
/-- how many bits from 1 on stand below p; where the j-th stands -/
def pc (x : Nat) : Nat → Nat
  | 0 => 0
  | p + 1 => pc x p + (if p = 0 then 0 else x / 2 ^ p % 2)
def pw (x : Nat) : Nat → Nat → Nat
  | 0, _ => 0
  | f + 1, j => if (8 - (f + 1) ≠ 0 ∧ x / 2 ^ (8 - (f + 1)) % 2 = 1) then (if j = 0 then 8 - (f + 1) else pw x f (j - 1)) else pw x f j
def pv (x j : Nat) : Nat := pw x 8 j
/-- where the ends move on -/
def pmv (e : Nat → Nat) (n H : Nat) : Nat → Option Nat
  | 0 => none
  | m + 1 => if e m < n - (H - 1 - m) then some m else pmv e n H m
def pmw (e : Nat → Nat) (h i : Nat) : Nat := if i < h then e i else e h + 1 + (i - h)
def plx (e f : Nat → Nat) : Nat → Nat → Bool
  | 0, _ => false
  | m + 1, h => if e h = f h then plx e f m (h + 1) else decide (e h < f h)
def pall (c : Nat → Nat → Bool) : Bool := (List.range 9).all fun n => (List.range 6).all fun H => !(decide (1 ≤ H ∧ H ≤ n)) || c n H
theorem pall_at {c : Nat → Nat → Bool} (h : pall c = true) {n H : Nat} (n8 : n ≤ 8) (H1 : 1 ≤ H) (H5 : H ≤ 5) (hn : H ≤ n) : c n H = true := by
  have e1 := List.all_eq_true.mp h n (List.mem_range.mpr (by omega))
  have e2 := List.all_eq_true.mp e1 H (List.mem_range.mpr (by omega))
  rw [decide_eq_true ⟨H1, hn⟩] at e2
  exact e2
def pc1 (n H : Nat) : Bool := decide (0 < pN n H) && (decide (pN n H ≤ 35) && (List.range (H - 1)).all fun i => decide (pv (pm n H 0) i = i + 1))
theorem pc1_ok : pall pc1 = true := by decide +kernel
def pc2 (n H : Nat) : Bool := (List.range (pN n H)).all fun k => decide (pm n H k < 2 ^ n) && (decide (pm n H k % 2 = 0) && (decide (pc (pm n H k) n = H - 1) && ((List.range (H - 1)).all fun i => decide (1 ≤ pv (pm n H k) i) && decide (pv (pm n H k) i < n))))
theorem pc2_ok : pall pc2 = true := by decide +kernel
def pc3 (n H : Nat) : Bool := (List.range (pN n H)).all fun k => match pmv (pv (pm n H k)) n H (H - 1) with
  | none => decide (k + 1 = pN n H)
  | some h => decide (h < H - 1) && (decide (k + 1 < pN n H) && (List.range (H - 1)).all fun i => decide (pmw (pv (pm n H k)) h i = pv (pm n H (k + 1)) i))
theorem pc3_ok : pall pc3 = true := by decide +kernel
def pc4 (n H : Nat) : Bool := (List.range (2 ^ n)).all fun x => !(decide (x % 2 = 0 ∧ pc x n = H - 1)) || (pt n H).contains x
theorem pc4_ok : pall pc4 = true := by decide +kernel
def pc5 (n H : Nat) : Bool := (List.range (pN n H)).all fun j => (List.range (pN n H)).all fun k => plx (pv (pm n H j)) (pv (pm n H k)) (H - 1) 0 == decide (j < k)
theorem pc5_ok : pall pc5 = true := by decide +kernel
def pc6 : Bool := (List.range 256).all fun x => (List.range 8).all fun p => (p == 0) || (!(decide (x / 2 ^ p % 2 = 1)) || decide (pv x (pc x p) = p))
theorem pc6_ok : pc6 = true := by decide +kernel
theorem p_bit1 : ((List.range 256).all fun x => (List.range 8).all fun p => decide (((nI x >>> (nI p &&& 31)) &&& 1) = nI (x / 2 ^ p % 2))) = true := by decide +kernel
theorem p_bit2 : ((List.range 256).all fun x => decide ((nI x &&& 1) = nI (x % 2))) = true := by decide +kernel
theorem p_bit3 : ((List.range 9).all fun n => decide (((1 : Int32) <<< (nI n &&& 31)) = nI (2 ^ n))) = true := by decide +kernel
theorem p_bit {x p : Nat} (hx : x < 256) (hp : p < 8) : ((nI x >>> (nI p &&& 31)) &&& 1) = nI (x / 2 ^ p % 2) := of_decide_eq_true (List.all_eq_true.mp (List.all_eq_true.mp p_bit1 x (List.mem_range.mpr hx)) p (List.mem_range.mpr hp))
theorem p_odd {x : Nat} (hx : x < 256) : (nI x &&& 1) = nI (x % 2) := of_decide_eq_true (List.all_eq_true.mp p_bit2 x (List.mem_range.mpr hx))
theorem p_shl {n : Nat} (hn : n ≤ 8) : ((1 : Int32) <<< (nI n &&& 31)) = nI (2 ^ n) := of_decide_eq_true (List.all_eq_true.mp p_bit3 n (List.mem_range.mpr (by omega)))
theorem pv_pc {x p : Nat} (hx : x < 256) (hp : p < 8) (h0 : p ≠ 0) (hb : x / 2 ^ p % 2 = 1) : pv x (pc x p) = p := by
  have e := List.all_eq_true.mp (List.all_eq_true.mp pc6_ok x (List.mem_range.mpr hx)) p (List.mem_range.mpr hp)
  rw [decide_eq_true hb] at e
  have h1 : (p == 0) = false := by rw [beq_eq_false_iff_ne]; exact h0
  rw [h1] at e
  exact of_decide_eq_true e
theorem pN_ok {n H : Nat} (n8 : n ≤ 8) (H1 : 1 ≤ H) (H5 : H ≤ 5) (hn : H ≤ n) : 0 < pN n H ∧ pN n H ≤ 35 ∧ ∀ i, i < H - 1 → pv (pm n H 0) i = i + 1 := by
  have e := pall_at pc1_ok n8 H1 H5 hn
  unfold pc1 at e
  rw [Bool.and_eq_true, Bool.and_eq_true] at e
  exact ⟨of_decide_eq_true e.1, of_decide_eq_true e.2.1, fun i hi => of_decide_eq_true (List.all_eq_true.mp e.2.2 i (List.mem_range.mpr hi))⟩
theorem pm_ok {n H k : Nat} (n8 : n ≤ 8) (H1 : 1 ≤ H) (H5 : H ≤ 5) (hn : H ≤ n) (hk : k < pN n H) : pm n H k < 2 ^ n ∧ pm n H k % 2 = 0 ∧ pc (pm n H k) n = H - 1 ∧ ∀ i, i < H - 1 → 1 ≤ pv (pm n H k) i ∧ pv (pm n H k) i < n := by
  have e := List.all_eq_true.mp (pall_at pc2_ok n8 H1 H5 hn) k (List.mem_range.mpr hk)
  rw [Bool.and_eq_true, Bool.and_eq_true, Bool.and_eq_true] at e
  refine ⟨of_decide_eq_true e.1, of_decide_eq_true e.2.1, of_decide_eq_true e.2.2.1, fun i hi => ?_⟩
  have e2 := List.all_eq_true.mp e.2.2.2 i (List.mem_range.mpr hi)
  rw [Bool.and_eq_true] at e2
  exact ⟨of_decide_eq_true e2.1, of_decide_eq_true e2.2⟩
theorem pmv_none {n H k : Nat} (n8 : n ≤ 8) (H1 : 1 ≤ H) (H5 : H ≤ 5) (hn : H ≤ n) (hk : k < pN n H) (h : pmv (pv (pm n H k)) n H (H - 1) = none) : k + 1 = pN n H := by
  have e := List.all_eq_true.mp (pall_at pc3_ok n8 H1 H5 hn) k (List.mem_range.mpr hk)
  rw [h] at e
  exact of_decide_eq_true e
theorem pmv_some {n H k h : Nat} (n8 : n ≤ 8) (H1 : 1 ≤ H) (H5 : H ≤ 5) (hn : H ≤ n) (hk : k < pN n H) (e1 : pmv (pv (pm n H k)) n H (H - 1) = some h) : h < H - 1 ∧ k + 1 < pN n H ∧ ∀ i, i < H - 1 → pmw (pv (pm n H k)) h i = pv (pm n H (k + 1)) i := by
  have e := List.all_eq_true.mp (pall_at pc3_ok n8 H1 H5 hn) k (List.mem_range.mpr hk)
  rw [e1] at e
  dsimp only at e
  rw [Bool.and_eq_true, Bool.and_eq_true] at e
  exact ⟨of_decide_eq_true e.1, of_decide_eq_true e.2.1, fun i hi => of_decide_eq_true (List.all_eq_true.mp e.2.2 i (List.mem_range.mpr hi))⟩
theorem pt_has {n H x : Nat} (n8 : n ≤ 8) (H1 : 1 ≤ H) (H5 : H ≤ 5) (hn : H ≤ n) (hx : x < 2 ^ n) (h0 : x % 2 = 0) (hc : pc x n = H - 1) : ∃ k, k < pN n H ∧ pm n H k = x := by
  have e := List.all_eq_true.mp (pall_at pc4_ok n8 H1 H5 hn) x (List.mem_range.mpr hx)
  rw [decide_eq_true (show x % 2 = 0 ∧ pc x n = H - 1 from ⟨h0, hc⟩)] at e
  have m : x ∈ pt n H := List.contains_iff_mem.mp e
  obtain ⟨k, hk, e2⟩ := List.mem_iff_getElem.mp m
  refine ⟨k, hk, ?_⟩
  unfold pm
  rw [List.getD_eq_getElem?_getD, List.getElem?_eq_getElem hk, e2]
  rfl
theorem plx_ok {n H j k : Nat} (n8 : n ≤ 8) (H1 : 1 ≤ H) (H5 : H ≤ 5) (hn : H ≤ n) (hj : j < pN n H) (hk : k < pN n H) : plx (pv (pm n H j)) (pv (pm n H k)) (H - 1) 0 = decide (j < k) := by
  have e := List.all_eq_true.mp (List.all_eq_true.mp (pall_at pc5_ok n8 H1 H5 hn) j (List.mem_range.mpr hj)) k (List.mem_range.mpr hk)
  exact beq_iff_eq.mp e
