/-! the class, as in the proof of whole (wip/p32/math/ext.py) -/
def zbs (P : Nat → Bool) : Nat → Int32
  | 0 => 0
  | n + 1 => if P n then zbs P n ||| ((1 : Int32) <<< (Int32.ofNat n &&& 31)) else zbs P n
def zsum (w : Nat → Int32) (P : Nat → Bool) : Nat → Int32
  | 0 => 0
  | n + 1 => if P n then zsum w P n + w n else zsum w P n
def zcnt (P : Nat → Bool) : Nat → Nat
  | 0 => 0
  | n + 1 => if P n then zcnt P n + 1 else zcnt P n
theorem b_one : ∀ n, n < 32 → ∀ i, i < 32 → ((1 : Int32) <<< (Int32.ofNat n &&& 31)).toBitVec.getLsbD i = decide (i = n) := by decide +kernel
theorem b_31 : ∀ n, n < 32 → (Int32.ofNat n &&& 31) = Int32.ofNat n := by decide +kernel
theorem b_ext {x y : Int32} (h : ∀ i, i < 32 → x.toBitVec.getLsbD i = y.toBitVec.getLsbD i) : x = y := by
  apply Int32.toBitVec_inj.mp
  exact BitVec.eq_of_getLsbD_eq h
theorem b_zbs {P : Nat → Bool} : ∀ n, n ≤ 32 → ∀ i, i < 32 → (zbs P n).toBitVec.getLsbD i = (decide (i < n) && P i) := by
  intro n
  induction n with
  | zero => intro _ i hi; simp [zbs]
  | succ n ih =>
    intro hn i hi
    rw [zbs]
    by_cases hp : P n = true
    · rw [if_pos hp, Int32.toBitVec_or, BitVec.getLsbD_or, ih (by omega) i hi, b_one n (by omega) i hi]
      by_cases h : i = n
      · subst h; simp [hp]
      · have : (i < n + 1) ↔ (i < n) := by omega
        simp [h, this]
    · rw [if_neg hp, ih (by omega) i hi]
      by_cases h : i = n
      · subst h; simp [hp]
      · have : (i < n + 1) ↔ (i < n) := by omega
        simp [this]
theorem zbs_congr {P Q : Nat → Bool} {n : Nat} (h : ∀ i, i < n → P i = Q i) : zbs P n = zbs Q n := by
  induction n with
  | zero => rfl
  | succ n ih => rw [zbs, zbs, ih (fun i hi => h i (by omega)), h n (by omega)]
theorem zsum_congr {w v : Nat → Int32} {P Q : Nat → Bool} {n : Nat} (h : ∀ i, i < n → P i = Q i) (hw : ∀ i, i < n → P i = true → w i = v i) : zsum w P n = zsum v Q n := by
  induction n with
  | zero => rfl
  | succ n ih =>
    rw [zsum, zsum, ih (fun i hi => h i (by omega)) (fun i hi => hw i (by omega)), ← h n (by omega)]
    by_cases hp : P n = true
    · rw [if_pos hp, if_pos hp, hw n (by omega) hp]
    · rw [if_neg hp, if_neg hp]
theorem zcnt_congr {P Q : Nat → Bool} {n : Nat} (h : ∀ i, i < n → P i = Q i) : zcnt P n = zcnt Q n := by
  induction n with
  | zero => rfl
  | succ n ih => rw [zcnt, zcnt, ih (fun i hi => h i (by omega)), h n (by omega)]
theorem zcnt_le {P : Nat → Bool} : ∀ n, zcnt P n ≤ n := by
  intro n
  induction n with
  | zero => exact Nat.le_refl _
  | succ n ih => rw [zcnt]; split <;> omega
theorem b_and {P Q : Nat → Bool} {n : Nat} (hn : n ≤ 32) : (zbs P n &&& zbs Q n) = zbs (fun i => P i && Q i) n := by
  apply b_ext
  intro i hi
  rw [Int32.toBitVec_and, BitVec.getLsbD_and, b_zbs n hn i hi, b_zbs n hn i hi, b_zbs n hn i hi]
  by_cases h : i < n <;> simp [h]
theorem b_or {P Q : Nat → Bool} {n : Nat} (hn : n ≤ 32) : (zbs P n ||| zbs Q n) = zbs (fun i => P i || Q i) n := by
  apply b_ext
  intro i hi
  rw [Int32.toBitVec_or, BitVec.getLsbD_or, b_zbs n hn i hi, b_zbs n hn i hi, b_zbs n hn i hi]
  by_cases h : i < n <;> simp [h]
theorem b_all : ∀ n, n ≤ 24 → ((1 : Int32) <<< (Int32.ofNat n &&& 31)) - 1 = zbs (fun _ => true) n := by decide +kernel
theorem b_not {x : Int32} {i : Nat} (hi : i < 32) : (x ^^^ (-1 : Int32)).toBitVec.getLsbD i = !x.toBitVec.getLsbD i := by
  rw [Int32.toBitVec_xor, BitVec.getLsbD_xor]
  have : ∀ i, i < 32 → (-1 : Int32).toBitVec.getLsbD i = true := by decide +kernel
  rw [this i hi]
  simp
theorem b_andnot {P Q : Nat → Bool} {n : Nat} (hn : n ≤ 32) : (zbs P n &&& (zbs Q n ^^^ (-1 : Int32))) = zbs (fun i => P i && !Q i) n := by
  apply b_ext
  intro i hi
  rw [Int32.toBitVec_and, BitVec.getLsbD_and, b_not hi, b_zbs n hn i hi, b_zbs n hn i hi, b_zbs n hn i hi]
  by_cases h : i < n <;> simp [h]
theorem b_test {x : Int32} {b : Nat} (hb : b < 32) : ((x >>> (Int32.ofNat b &&& 31)) &&& 1) = if x.toBitVec.getLsbD b then 1 else 0 := by
  apply b_ext
  intro i hi
  have h1 : ∀ i, i < 32 → (1 : Int32).toBitVec.getLsbD i = decide (i = 0) := by decide +kernel
  have h0 : ∀ i, i < 32 → (0 : Int32).toBitVec.getLsbD i = false := by decide +kernel
  have hs : ∀ b, b < 32 → ((Int32.ofNat b).toBitVec.smod 32).toNat = b := by decide +kernel
  rw [Int32.toBitVec_and, BitVec.getLsbD_and, h1 i hi, Int32.toBitVec_shiftRight, b_31 b hb, BitVec.sshiftRight', hs b hb, BitVec.getLsbD_sshiftRight]
  by_cases hx : x.toBitVec.getLsbD b = true
  · rw [if_pos hx, h1 i hi]
    by_cases h : i = 0
    · subst h
      rw [Nat.add_zero, hx]
      simp
      omega
    · simp [h]
  · rw [if_neg hx, h0 i hi]
    by_cases h : i = 0
    · subst h
      rw [Nat.add_zero, Bool.eq_false_iff.mpr hx]
      simp
      omega
    · simp [h]
theorem b_empty {P : Nat → Bool} {n : Nat} (hn : n ≤ 32) : zbs P n = 0 ↔ ∀ i, i < n → P i = false := by
  constructor
  · intro h i hi
    have := b_zbs (P := P) n hn i (by omega)
    rw [h] at this
    have h0 : ∀ i, i < 32 → (0 : Int32).toBitVec.getLsbD i = false := by decide +kernel
    rw [h0 i (by omega)] at this
    simpa [hi] using this.symm
  · intro h
    rw [zbs_congr (Q := fun _ => false) h]
    clear h hn
    induction n with
    | zero => rfl
    | succ n ih => rw [zbs]; exact ih
theorem n_and (a m : Nat) : Int32.ofNat a &&& Int32.ofNat m = Int32.ofNat (a &&& m) := by
  apply Int32.toBitVec_inj.mp
  rw [Int32.toBitVec_and]
  show BitVec.ofNat 32 a &&& BitVec.ofNat 32 m = BitVec.ofNat 32 (a &&& m)
  exact (BitVec.ofNat_and ..).symm
theorem n_sub {a b : Nat} (h : b ≤ a) : Int32.ofNat a - Int32.ofNat b = Int32.ofNat (a - b) := (Int32.ofNat_sub a b h).symm
theorem n_shr (a c : Nat) (ha : a < 4294967296) (hc : c < 32) : ((Int32.ofNat a).toUInt32 >>> (UInt32.ofNat c)).toInt32 = Int32.ofNat (a / 2 ^ c) := by
  apply Int32.toBitVec_inj.mp
  show BitVec.ofNat 32 a >>> ((BitVec.ofNat 32 c) % 32) = BitVec.ofNat 32 (a / 2 ^ c)
  apply BitVec.eq_of_toNat_eq
  have h1 : a % 2 ^ 32 = a := Nat.mod_eq_of_lt (by omega)
  have h2 : a / 2 ^ c ≤ a := Nat.div_le_self _ _
  simp only [BitVec.toNat_ushiftRight, BitVec.ushiftRight_eq', BitVec.toNat_umod, BitVec.toNat_ofNat, Nat.shiftRight_eq_div_pow]
  rw [h1, show c % 2 ^ 32 = c from Nat.mod_eq_of_lt (by omega), show (32 : BitVec 32).toNat = 32 from rfl, show c % 32 = c from Nat.mod_eq_of_lt hc]
  exact (Nat.mod_eq_of_lt (by omega)).symm
theorem a_split (x y : Nat) : (x &&& y) = ((x % 256) &&& (y % 256)) + 256 * ((x / 256) &&& (y / 256)) := by
  have h1 : (x &&& y) % 2 ^ 8 = (x % 2 ^ 8) &&& (y % 2 ^ 8) := Nat.and_mod_two_pow
  have h2 : (x &&& y) / 2 ^ 8 = (x / 2 ^ 8) &&& (y / 2 ^ 8) := Nat.and_div_two_pow
  have h3 := Nat.mod_add_div (x &&& y) 256
  rw [show (256 : Nat) = 2 ^ 8 from rfl, ← h1, ← h2]
  omega
theorem a_split3 (a b c m : Nat) (ha : a < 256) (hb : b < 256) (hc : c < 256) (hm : m < 256) : ((a + 256 * b + 65536 * c) &&& (m + 256 * m + 65536 * m + 16777216 * m)) = (a &&& m) + 256 * (b &&& m) + 65536 * (c &&& m) := by
  rw [a_split, show (a + 256 * b + 65536 * c) % 256 = a by omega, show (a + 256 * b + 65536 * c) / 256 = b + 256 * c by omega, show (m + 256 * m + 65536 * m + 16777216 * m) % 256 = m by omega, show (m + 256 * m + 65536 * m + 16777216 * m) / 256 = m + 256 * m + 65536 * m by omega]
  rw [a_split (b + 256 * c), show (b + 256 * c) % 256 = b by omega, show (b + 256 * c) / 256 = c by omega, show (m + 256 * m + 65536 * m) % 256 = m by omega, show (m + 256 * m + 65536 * m) / 256 = m + 256 * m by omega]
  rw [a_split c, show c % 256 = c by omega, show c / 256 = 0 by omega, show (m + 256 * m) % 256 = m by omega, Nat.zero_and]
  omega
def p8 (a : Nat) : Nat := (a.testBit 0).toNat + (a.testBit 1).toNat + (a.testBit 2).toNat + (a.testBit 3).toNat + (a.testBit 4).toNat + (a.testBit 5).toNat + (a.testBit 6).toNat + (a.testBit 7).toNat
def g1 (a : Nat) : Nat := a - (a / 2 &&& 85)
def g2 (a : Nat) : Nat := (g1 a &&& 51) + (g1 a / 4 &&& 51)
theorem g_a : ∀ a, a < 256 → ∀ t, t < 2 → (a / 2 + 128 * t) &&& 85 = (a / 2 &&& 85) := by decide +kernel
theorem g_b : ∀ a, a < 256 → (a / 2 &&& 85) ≤ a ∧ g1 a < 256 ∧ g2 a < 103 ∧ p8 a ≤ 8 ∧ g2 a % 16 ≤ 4 ∧ g2 a / 16 ≤ 4 := by decide +kernel
theorem g_c : ∀ a, a < 256 → ∀ t, t < 4 → (a / 4 + 64 * t) &&& 51 = (a / 4 &&& 51) := by decide +kernel
theorem g_d : ∀ a, a < 256 → ∀ t, t < 16 → (g2 a + g2 a / 16 + 16 * t) &&& 15 = p8 a := by decide +kernel
theorem pop3 (k a b c : Nat) (ha : a < 256) (hb : b < 256) (hc : c < 256) : f_J6_bitCount_0f7a4 k (Int32.ofNat (a + 256 * b + 65536 * c)) = some (Int32.ofNat (p8 a + p8 b + p8 c)) := by
  obtain ⟨a1, a2, a3, a4, a5, a6⟩ := g_b a ha
  obtain ⟨b1, b2, b3, b4, b5, b6⟩ := g_b b hb
  obtain ⟨c1, c2, c3, c4, c5, c6⟩ := g_b c hc
  rw [f_J6_bitCount_0f7a4]
  simp only [zl_e]
  rw [show (1431655765 : Int32) = Int32.ofNat (85 + 256 * 85 + 65536 * 85 + 16777216 * 85) from rfl, show (858993459 : Int32) = Int32.ofNat (51 + 256 * 51 + 65536 * 51 + 16777216 * 51) from rfl, show (252645135 : Int32) = Int32.ofNat (15 + 256 * 15 + 65536 * 15 + 16777216 * 15) from rfl, show (63 : Int32) = Int32.ofNat 63 from rfl,
    show Int32.toUInt32 1 &&& Int32.toUInt32 31 = UInt32.ofNat 1 from rfl, show Int32.toUInt32 2 &&& Int32.toUInt32 31 = UInt32.ofNat 2 from rfl, show Int32.toUInt32 4 &&& Int32.toUInt32 31 = UInt32.ofNat 4 from rfl, show Int32.toUInt32 8 &&& Int32.toUInt32 31 = UInt32.ofNat 8 from rfl, show Int32.toUInt32 16 &&& Int32.toUInt32 31 = UInt32.ofNat 16 from rfl]
  rw [n_shr _ 1 (by omega) (by omega), n_and]
  rw [show (a + 256 * b + 65536 * c) / 2 ^ 1 = (a / 2 + 128 * (b % 2)) + 256 * (b / 2 + 128 * (c % 2)) + 65536 * (c / 2) by omega, a_split3 _ _ _ 85 (by omega) (by omega) (by omega) (by omega), g_a a ha _ (by omega), g_a b hb _ (by omega)]
  rw [n_sub (by omega)]
  have e1 : a + 256 * b + 65536 * c - ((a / 2 &&& 85) + 256 * (b / 2 &&& 85) + 65536 * (c / 2 &&& 85)) = g1 a + 256 * g1 b + 65536 * g1 c := by
    unfold g1
    omega
  rw [e1]
  generalize ha' : g1 a = A at *
  generalize hb' : g1 b = B at *
  generalize hc' : g1 c = C at *
  rw [n_and, a_split3 _ _ _ 51 a2 b2 c2 (by omega), n_shr _ 2 (by omega) (by omega), n_and]
  rw [show (A + 256 * B + 65536 * C) / 2 ^ 2 = (A / 4 + 64 * (B % 4)) + 256 * (B / 4 + 64 * (C % 4)) + 65536 * (C / 4) by omega, a_split3 _ _ _ 51 (by omega) (by omega) (by omega) (by omega), g_c A a2 _ (by omega), g_c B b2 _ (by omega), n_add]
  have e2 : (A &&& 51) + 256 * (B &&& 51) + 65536 * (C &&& 51) + ((A / 4 &&& 51) + 256 * (B / 4 &&& 51) + 65536 * (C / 4 &&& 51)) = g2 a + 256 * g2 b + 65536 * g2 c := by
    unfold g2
    rw [ha', hb', hc']
    omega
  rw [e2]
  have da := g_d a ha
  have db := g_d b hb
  have dc := g_d c hc
  generalize g2 a = D at *
  generalize g2 b = E at *
  generalize g2 c = F at *
  rw [n_shr _ 4 (by omega) (by omega), n_add, n_and]
  rw [show D + 256 * E + 65536 * F + (D + 256 * E + 65536 * F) / 2 ^ 4 = (D + D / 16 + 16 * (E % 16)) + 256 * (E + E / 16 + 16 * (F % 16)) + 65536 * (F + F / 16 + 16 * 0) by omega, a_split3 _ _ _ 15 (by omega) (by omega) (by omega) (by omega), da _ (by omega), db _ (by omega), dc _ (by omega)]
  generalize p8 a = x at *
  generalize p8 b = y at *
  generalize p8 c = z at *
  rw [n_shr _ 8 (by omega) (by omega), n_add, n_shr _ 16 (by omega) (by omega), n_add, n_and]
  rw [show (x + 256 * y + 65536 * z + (x + 256 * y + 65536 * z) / 2 ^ 8 + (x + 256 * y + 65536 * z + (x + 256 * y + 65536 * z) / 2 ^ 8) / 2 ^ 16) = (x + y + z) + 256 * (y + z + 256 * z) by omega]
  rw [a_split, show ((x + y + z) + 256 * (y + z + 256 * z)) % 256 = x + y + z by omega, show 63 % 256 = 63 by omega, show 63 / 256 = 0 by omega, Nat.and_zero]
  have e3 : ∀ t, t < 25 → t &&& 63 = t := by decide +kernel
  rw [e3 _ (by omega)]
  rfl
theorem z_cnt {P : Nat → Bool} {n : Nat} (hn : n ≤ 24) : ∀ m, n ≤ m → zcnt P n = zcnt (fun i => decide (i < n) && P i) m := by
  intro m hm
  induction m with
  | zero => rw [show n = 0 by omega]; rfl
  | succ m ih =>
    rw [zcnt]
    by_cases h : n = m + 1
    · subst h
      rw [zcnt]
      have : zcnt P m = zcnt (fun i => decide (i < m + 1) && P i) m := zcnt_congr (fun i hi => by simp; omega)
      rw [this]
      simp
    · rw [ih (by omega)]
      simp [show ¬ m < n by omega]
theorem s_pop {k : Nat} {P : Nat → Bool} {n : Nat} (hn : n ≤ 24) : f_J6_bitCount_0f7a4 k (zbs P n) = some (Int32.ofNat (zcnt P n)) := by
  have hb := b_zbs (P := P) n (by omega)
  obtain ⟨X, hX⟩ : ∃ X, X = (zbs P n).toBitVec.toNat := ⟨_, rfl⟩
  have hx : zbs P n = Int32.ofNat X := by
    apply Int32.toBitVec_inj.mp
    show _ = BitVec.ofNat 32 X
    rw [hX, BitVec.ofNat_toNat, BitVec.setWidth_eq]
  have ht : ∀ i, i < 32 → X.testBit i = (decide (i < n) && P i) := fun i hi => by
    rw [← hb i hi, hX]
    rfl
  have hlt : X < 2 ^ 24 := by
    apply Nat.lt_pow_two_of_testBit
    intro i hi
    by_cases h : i < 32
    · rw [ht i h]
      simp
      omega
    · rw [hX]
      exact BitVec.getLsbD_of_ge _ _ (by omega)
  have hsplit : X = X % 256 + 256 * (X / 256 % 256) + 65536 * (X / 65536) := by omega
  rw [hx, hsplit, pop3 k _ _ _ (by omega) (by omega) (by omega)]
  congr 2
  rw [z_cnt hn 24 hn]
  have t1 : ∀ i, i < 8 → (X % 256).testBit i = X.testBit i := fun i hi => by
    rw [show 256 = 2 ^ 8 from rfl, Nat.testBit_mod_two_pow]; simp [hi]
  have t2 : ∀ i, i < 8 → (X / 256 % 256).testBit i = X.testBit (8 + i) := fun i hi => by
    rw [show 256 = 2 ^ 8 from rfl, Nat.testBit_mod_two_pow, Nat.testBit_div_two_pow]; simp [hi, Nat.add_comm]
  have t3 : ∀ i, i < 8 → (X / 65536).testBit i = X.testBit (16 + i) := fun i hi => by
    rw [show 65536 = 2 ^ 16 from rfl, Nat.testBit_div_two_pow]; simp [hi, Nat.add_comm]
  unfold p8
  simp only [t1 0 (by omega), t1 1 (by omega), t1 2 (by omega), t1 3 (by omega), t1 4 (by omega), t1 5 (by omega), t1 6 (by omega), t1 7 (by omega), t2 0 (by omega), t2 1 (by omega), t2 2 (by omega), t2 3 (by omega), t2 4 (by omega), t2 5 (by omega), t2 6 (by omega), t2 7 (by omega), t3 0 (by omega), t3 1 (by omega), t3 2 (by omega), t3 3 (by omega), t3 4 (by omega), t3 5 (by omega), t3 6 (by omega), t3 7 (by omega)]
  have hs : ∀ (Q : Nat → Bool) (m : Nat), zcnt Q (m + 1) = zcnt Q m + (Q m).toNat := fun Q m => by
    rw [zcnt]
    cases Q m <;> simp
  have hq : zcnt (fun i => decide (i < n) && P i) 24 = zcnt (fun i => X.testBit i) 24 := zcnt_congr (fun i hi => (ht i (by omega)).symm)
  rw [hq]
  rw [hs _ 23, hs _ 22, hs _ 21, hs _ 20, hs _ 19, hs _ 18, hs _ 17, hs _ 16, hs _ 15, hs _ 14, hs _ 13, hs _ 12, hs _ 11, hs _ 10, hs _ 9, hs _ 8, hs _ 7, hs _ 6, hs _ 5, hs _ 4, hs _ 3, hs _ 2, hs _ 1, hs _ 0, zcnt]
  simp only [Nat.reduceAdd]
  omega
