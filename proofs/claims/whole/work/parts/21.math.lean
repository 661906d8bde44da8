/-! SETS OF BLOCKS AS BITS, SUMS -/
def zbs (P : Nat → Bool) : Nat → Int32
  | 0 => 0
  | n + 1 => if P n then zbs P n ||| ((1 : Int32) <<< (Int32.ofNat n &&& 31)) else zbs P n
def zsum (w : Nat → Int32) (P : Nat → Bool) : Nat → Int32
  | 0 => 0
  | n + 1 => if P n then zsum w P n + w n else zsum w P n
def zcnt (P : Nat → Bool) : Nat → Nat
  | 0 => 0
  | n + 1 => if P n then zcnt P n + 1 else zcnt P n
theorem b_one : ∀ n, n < 32 → ∀ i, i < 32 → ((1 : Int32) <<< (Int32.ofNat n &&& 31)).toBitVec.getLsbD i = decide (i = n) := by decide +kernel
theorem b_31 : ∀ n, n < 32 → (Int32.ofNat n &&& 31) = Int32.ofNat n := by decide +kernel
theorem b_ext {x y : Int32} (h : ∀ i, i < 32 → x.toBitVec.getLsbD i = y.toBitVec.getLsbD i) : x = y := by
  apply Int32.toBitVec_inj.mp
  exact BitVec.eq_of_getLsbD_eq h
theorem b_zbs {P : Nat → Bool} : ∀ n, n ≤ 32 → ∀ i, i < 32 → (zbs P n).toBitVec.getLsbD i = (decide (i < n) && P i) := by
  intro n
  induction n with
  | zero => intro _ i hi; simp [zbs]
  | succ n ih =>
    intro hn i hi
    rw [zbs]
    by_cases hp : P n = true
    · rw [if_pos hp, Int32.toBitVec_or, BitVec.getLsbD_or, ih (by omega) i hi, b_one n (by omega) i hi]
      by_cases h : i = n
      · subst h; simp [hp]
      · have : (i < n + 1) ↔ (i < n) := by omega
        simp [h, this]
    · rw [if_neg hp, ih (by omega) i hi]
      by_cases h : i = n
      · subst h; simp [hp]
      · have : (i < n + 1) ↔ (i < n) := by omega
        simp [this]
theorem zbs_congr {P Q : Nat → Bool} {n : Nat} (h : ∀ i, i < n → P i = Q i) : zbs P n = zbs Q n := by
  induction n with
  | zero => rfl
  | succ n ih => rw [zbs, zbs, ih (fun i hi => h i (by omega)), h n (by omega)]
theorem zsum_congr {w v : Nat → Int32} {P Q : Nat → Bool} {n : Nat} (h : ∀ i, i < n → P i = Q i) (hw : ∀ i, i < n → P i = true → w i = v i) : zsum w P n = zsum v Q n := by
  induction n with
  | zero => rfl
  | succ n ih =>
    rw [zsum, zsum, ih (fun i hi => h i (by omega)) (fun i hi => hw i (by omega)), ← h n (by omega)]
    by_cases hp : P n = true
    · rw [if_pos hp, if_pos hp, hw n (by omega) hp]
    · rw [if_neg hp, if_neg hp]
theorem zcnt_congr {P Q : Nat → Bool} {n : Nat} (h : ∀ i, i < n → P i = Q i) : zcnt P n = zcnt Q n := by
  induction n with
  | zero => rfl
  | succ n ih => rw [zcnt, zcnt, ih (fun i hi => h i (by omega)), h n (by omega)]
theorem zcnt_le {P : Nat → Bool} : ∀ n, zcnt P n ≤ n := by
  intro n
  induction n with
  | zero => exact Nat.le_refl _
  | succ n ih => rw [zcnt]; split <;> omega
theorem b_and {P Q : Nat → Bool} {n : Nat} (hn : n ≤ 32) : (zbs P n &&& zbs Q n) = zbs (fun i => P i && Q i) n := by
  apply b_ext
  intro i hi
  rw [Int32.toBitVec_and, BitVec.getLsbD_and, b_zbs n hn i hi, b_zbs n hn i hi, b_zbs n hn i hi]
  by_cases h : i < n <;> simp [h]
theorem b_or {P Q : Nat → Bool} {n : Nat} (hn : n ≤ 32) : (zbs P n ||| zbs Q n) = zbs (fun i => P i || Q i) n := by
  apply b_ext
  intro i hi
  rw [Int32.toBitVec_or, BitVec.getLsbD_or, b_zbs n hn i hi, b_zbs n hn i hi, b_zbs n hn i hi]
  by_cases h : i < n <;> simp [h]
theorem b_all : ∀ n, n ≤ 24 → ((1 : Int32) <<< (Int32.ofNat n &&& 31)) - 1 = zbs (fun _ => true) n := by decide +kernel
theorem b_not {x : Int32} {i : Nat} (hi : i < 32) : (x ^^^ (-1 : Int32)).toBitVec.getLsbD i = !x.toBitVec.getLsbD i := by
  rw [Int32.toBitVec_xor, BitVec.getLsbD_xor]
  have : ∀ i, i < 32 → (-1 : Int32).toBitVec.getLsbD i = true := by decide +kernel
  rw [this i hi]
  simp
theorem b_andnot {P Q : Nat → Bool} {n : Nat} (hn : n ≤ 32) : (zbs P n &&& (zbs Q n ^^^ (-1 : Int32))) = zbs (fun i => P i && !Q i) n := by
  apply b_ext
  intro i hi
  rw [Int32.toBitVec_and, BitVec.getLsbD_and, b_not hi, b_zbs n hn i hi, b_zbs n hn i hi, b_zbs n hn i hi]
  by_cases h : i < n <;> simp [h]
theorem b_test {x : Int32} {b : Nat} (hb : b < 32) : ((x >>> (Int32.ofNat b &&& 31)) &&& 1) = if x.toBitVec.getLsbD b then 1 else 0 := by
  apply b_ext
  intro i hi
  have h1 : ∀ i, i < 32 → (1 : Int32).toBitVec.getLsbD i = decide (i = 0) := by decide +kernel
  have h0 : ∀ i, i < 32 → (0 : Int32).toBitVec.getLsbD i = false := by decide +kernel
  have hs : ∀ b, b < 32 → ((Int32.ofNat b).toBitVec.smod 32).toNat = b := by decide +kernel
  rw [Int32.toBitVec_and, BitVec.getLsbD_and, h1 i hi, Int32.toBitVec_shiftRight, b_31 b hb, BitVec.sshiftRight', hs b hb, BitVec.getLsbD_sshiftRight]
  by_cases hx : x.toBitVec.getLsbD b = true
  · rw [if_pos hx, h1 i hi]
    by_cases h : i = 0
    · subst h
      rw [Nat.add_zero, hx]
      simp
      omega
    · simp [h]
  · rw [if_neg hx, h0 i hi]
    by_cases h : i = 0
    · subst h
      rw [Nat.add_zero, Bool.eq_false_iff.mpr hx]
      simp
      omega
    · simp [h]
theorem b_empty {P : Nat → Bool} {n : Nat} (hn : n ≤ 32) : zbs P n = 0 ↔ ∀ i, i < n → P i = false := by
  constructor
  · intro h i hi
    have := b_zbs (P := P) n hn i (by omega)
    rw [h] at this
    have h0 : ∀ i, i < 32 → (0 : Int32).toBitVec.getLsbD i = false := by decide +kernel
    rw [h0 i (by omega)] at this
    simpa [hi] using this.symm
  · intro h
    rw [zbs_congr (Q := fun _ => false) h]
    clear h hn
    induction n with
    | zero => rfl
    | succ n ih => rw [zbs]; exact ih
