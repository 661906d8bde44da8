/-! the class, as in the proof of whole (wip/p32/math/ext.py) -/
def zat (S : Nat → Int32) (x b : Nat) : Bool := decide (S b = Int32.ofNat x)
def zon (S : Nat → Int32) (l b : Nat) : Bool := (((zat S (5 * l + 0) b || zat S (5 * l + 1) b) || zat S (5 * l + 2) b) || zat S (5 * l + 3) b) || zat S (5 * l + 4) b
theorem n_5l (l p : Nat) : (5 : Int32) * Int32.ofNat l + Int32.ofNat p = Int32.ofNat (5 * l + p) := by
  rw [show (5 : Int32) = Int32.ofNat 5 from rfl, n_mul, n_add]
theorem n_ge5 {p : Nat} (h : p < 5) : ¬ (5 : Int32) ≤ Int32.ofNat p := fun q => absurd ((n_le (a := 5) (by omega) (by omega)).mp q) (by omega)
theorem s_on {k l : Nat} {f : Nat → Int32} {B O : Nat} (c : CI f B O) (hk : 25 ≤ k) : f_X1_blocksOn k f (Int32.ofNat l) = some (zbs (zon (fun b => f (8 + b * 11 + 9)) l) B) := by
  have hB := c.hB
  have st : ∀ (m p : Nat) (x : Int32), p < 5 → f_X1_blocksOn_b4 k f (Int32.ofNat l) (m + 1) x (Int32.ofNat p) = f_X1_blocksOn_b4 k f (Int32.ofNat l) m (x ||| zbs (zat (fun b => f (8 + b * 11 + 9)) (5 * l + p)) B) (Int32.ofNat (p + 1)) := by
    intro m p x hp
    rw [f_X1_blocksOn_b4, if_neg (n_ge5 hp)]
    simp (disch := omega) only [zl_e, zb1_some, zb2_some, zb3_some, zb4_some, zb5_some, m_g, n_nat, n_suc]
    rw [n_5l, s_bw9 c hk]
    simp (disch := omega) only [zl_e, zb1_some, zb2_some, zb3_some, zb4_some, zb5_some, m_g, n_nat, n_suc]
    rfl
  rw [f_X1_blocksOn]
  obtain ⟨n, hn⟩ : ∃ n, k = n + 6 := ⟨k - 6, by omega⟩
  have e : ∀ j x, f_X1_blocksOn_b4 k f (Int32.ofNat l) (j + 6) x (Int32.ofNat 0) = some (((((x ||| zbs (zat (fun b => f (8 + b * 11 + 9)) (5 * l + 0)) B) ||| zbs (zat (fun b => f (8 + b * 11 + 9)) (5 * l + 1)) B) ||| zbs (zat (fun b => f (8 + b * 11 + 9)) (5 * l + 2)) B) ||| zbs (zat (fun b => f (8 + b * 11 + 9)) (5 * l + 3)) B) ||| zbs (zat (fun b => f (8 + b * 11 + 9)) (5 * l + 4)) B) := by
    intro j x
    rw [st _ 0 _ (by omega), st _ 1 _ (by omega), st _ 2 _ (by omega), st _ 3 _ (by omega), st _ 4 _ (by omega), f_X1_blocksOn_b4, if_pos (by decide)]
  have := e n 0
  rw [← hn] at this
  rw [show (0 : Int32) = Int32.ofNat 0 from rfl]
  rw [show (0 : Int32) = Int32.ofNat 0 from rfl] at this
  rw [this, show Int32.ofNat 0 = 0 from rfl, Int32.zero_or, b_or (by omega), b_or (by omega), b_or (by omega), b_or (by omega)]
  rfl
theorem s_load {k l : Nat} {f : Nat → Int32} {B O : Nat} (c : CI f B O) (hk : 25 ≤ k) : f_X1_loadOf k f (Int32.ofNat l) = some (zsum (fun b => f (8 + b * 11 + 4)) (zon (fun b => f (8 + b * 11 + 9)) l) B) := by
  rw [f_X1_loadOf, s_on c hk, zb1_some, s_wof c hk, zb1_some]
theorem s_free {k l p : Nat} {f : Nat → Int32} {B O : Nat} (c : CI f B O) (hk : 25 ≤ k) : f_X1_isFree k f (Int32.ofNat l) (Int32.ofNat p) = some (if zbs (zat (fun b => f (8 + b * 11 + 9)) (5 * l + p)) B = 0 then 1 else 0) := by
  rw [f_X1_isFree]
  simp (disch := omega) only [zl_e, zb1_some, zb2_some, zb3_some, zb4_some, zb5_some, m_g, n_nat, n_suc]
  rw [n_5l, s_bw9 c hk]
  simp (disch := omega) only [zl_e, zb1_some, zb2_some, zb3_some, zb4_some, zb5_some, m_g, n_nat, n_suc]
  show (if zbs (zat (fun b => f (8 + b * 11 + 9)) (5 * l + p)) B = 0 then some 1 else some 0) = _
  split <;> rfl
def Uq (S : Nat → Int32) (B : Nat) : Prop := ∀ b, b < B → ∀ c, c < B → S b = S c → ¬ S b = -6 → b = c
theorem zlast_c {P : Nat → Bool} : ∀ n, (zlast P n = -6 ∧ ∀ b, b < n → P b = false) ∨ ∃ b0, b0 < n ∧ zlast P n = Int32.ofNat b0 ∧ P b0 = true := by
  intro n
  induction n with
  | zero => exact .inl ⟨rfl, fun b h => by omega⟩
  | succ n ih =>
    rw [zlast]
    by_cases h : P n = true
    · rw [if_pos h]; exact .inr ⟨n, by omega, rfl, h⟩
    · rw [if_neg h]
      rcases ih with ⟨e, h1⟩ | ⟨b0, h1, h2, h3⟩
      · refine .inl ⟨e, fun b hb => ?_⟩
        by_cases q : b = n
        · rw [q]; exact Bool.eq_false_iff.mpr h
        · exact h1 b (by omega)
      · exact .inr ⟨b0, by omega, h2, h3⟩
theorem zsum_none {w : Nat → Int32} {P : Nat → Bool} : ∀ n, (∀ b, b < n → P b = false) → zsum w P n = 0 := by
  intro n
  induction n with
  | zero => intro _; rfl
  | succ n ih =>
    intro h
    rw [zsum, ih (fun b hb => h b (by omega)), h n (by omega)]
    rfl
theorem zsum_one {w : Nat → Int32} {P : Nat → Bool} {b0 : Nat} : ∀ n, b0 < n → P b0 = true → (∀ b, b < n → P b = true → b = b0) → zsum w P n = w b0 := by
  intro n
  induction n with
  | zero => intro h; omega
  | succ n ih =>
    intro h hp hu
    rw [zsum]
    by_cases q : b0 = n
    · subst q
      rw [if_pos hp, zsum_none b0 (fun b hb => ?_), Int32.zero_add]
      cases hP : P b with
      | false => rfl
      | true => have := hu b (by omega) hP; omega
    · have : ¬ P n = true := fun h2 => q (hu n (by omega) h2).symm
      rw [if_neg this]
      exact ih (by omega) hp (fun b hb => hu b (by omega))
theorem zbs_one {P : Nat → Bool} {b0 : Nat} : ∀ n, b0 < n → P b0 = true → (∀ b, b < n → P b = true → b = b0) → zbs P n = (1 : Int32) <<< (Int32.ofNat b0 &&& 31) := by
  intro n
  induction n with
  | zero => intro h; omega
  | succ n ih =>
    intro h hp hu
    rw [zbs]
    by_cases q : b0 = n
    · subst q
      have e : zbs P b0 = 0 := by
        rw [zbs_congr (Q := fun _ => false) (fun b hb => ?_)]
        · clear ih h hp hu
          induction b0 with
          | zero => rfl
          | succ n ih => rw [zbs]; exact ih
        · cases hP : P b with
          | false => rfl
          | true => have := hu b (by omega) hP; omega
      rw [if_pos hp, e, Int32.zero_or]
    · have : ¬ P n = true := fun h2 => q (hu n (by omega) h2).symm
      rw [if_neg this]
      exact ih (by omega) hp (fun b hb => hu b (by omega))
theorem zsum_or {w : Nat → Int32} {P Q : Nat → Bool} : ∀ n, (∀ b, b < n → P b = true → Q b = false) → zsum w (fun b => P b || Q b) n = zsum w P n + zsum w Q n := by
  intro n
  induction n with
  | zero => intro _; rfl
  | succ n ih =>
    intro h
    rw [zsum, zsum, zsum, ih (fun b hb => h b (by omega))]
    cases hP : P n with
    | true =>
      rw [h n (by omega) hP]
      simp only [Bool.or_false, if_true, Bool.false_eq_true, if_false]
      rw [Int32.add_assoc, Int32.add_comm (zsum w Q n), ← Int32.add_assoc]
    | false =>
      cases hQ : Q n with
      | true => simp only [Bool.or_true, if_true, Bool.false_eq_true, if_false, Int32.add_assoc]
      | false => simp only [Bool.or_false, Bool.false_eq_true, if_false]
theorem zat_ne {S : Nat → Int32} {x y b : Nat} (hx : x < 2147483648) (hy : y < 2147483648) (h : x ≠ y) : zat S x b = true → zat S y b = false := by
  intro q
  unfold zat at q ⊢
  rw [of_decide_eq_true q]
  exact decide_eq_false (fun r => h ((n_inj hx hy).mp r))
theorem zon_sum {S : Nat → Int32} {w : Nat → Int32} {l B : Nat} (hl : l < 3) : zsum w (zon S l) B = zsum w (zat S (5 * l + 0)) B + zsum w (zat S (5 * l + 1)) B + zsum w (zat S (5 * l + 2)) B + zsum w (zat S (5 * l + 3)) B + zsum w (zat S (5 * l + 4)) B := by
  have d : ∀ x y b, x < 15 → y < 15 → x ≠ y → zat S x b = true → zat S y b = false := fun x y b hx hy h => zat_ne (by omega) (by omega) h
  have e1 : zsum w (zon S l) B = zsum w (fun b => ((zat S (5 * l + 0) b || zat S (5 * l + 1) b) || zat S (5 * l + 2) b) || zat S (5 * l + 3) b) B + zsum w (zat S (5 * l + 4)) B := by
    refine zsum_or (P := fun b => ((zat S (5 * l + 0) b || zat S (5 * l + 1) b) || zat S (5 * l + 2) b) || zat S (5 * l + 3) b) B (fun b _ h => ?_)
    simp only [Bool.or_eq_true] at h
    rcases h with ((h | h) | h) | h <;> exact d _ _ b (by omega) (by omega) (by omega) h
  have e2 : zsum w (fun b => ((zat S (5 * l + 0) b || zat S (5 * l + 1) b) || zat S (5 * l + 2) b) || zat S (5 * l + 3) b) B = zsum w (fun b => (zat S (5 * l + 0) b || zat S (5 * l + 1) b) || zat S (5 * l + 2) b) B + zsum w (zat S (5 * l + 3)) B := by
    refine zsum_or (P := fun b => (zat S (5 * l + 0) b || zat S (5 * l + 1) b) || zat S (5 * l + 2) b) B (fun b _ h => ?_)
    simp only [Bool.or_eq_true] at h
    rcases h with (h | h) | h <;> exact d _ _ b (by omega) (by omega) (by omega) h
  have e3 : zsum w (fun b => (zat S (5 * l + 0) b || zat S (5 * l + 1) b) || zat S (5 * l + 2) b) B = zsum w (fun b => zat S (5 * l + 0) b || zat S (5 * l + 1) b) B + zsum w (zat S (5 * l + 2)) B := by
    refine zsum_or (P := fun b => zat S (5 * l + 0) b || zat S (5 * l + 1) b) B (fun b _ h => ?_)
    simp only [Bool.or_eq_true] at h
    rcases h with h | h <;> exact d _ _ b (by omega) (by omega) (by omega) h
  have e4 : zsum w (fun b => zat S (5 * l + 0) b || zat S (5 * l + 1) b) B = zsum w (zat S (5 * l + 0)) B + zsum w (zat S (5 * l + 1)) B :=
    zsum_or (P := zat S (5 * l + 0)) B (fun b _ h => d _ _ b (by omega) (by omega) (by omega) h)
  rw [e1, e2, e3, e4]
theorem zat_c {S : Nat → Int32} {x B : Nat} (hx : x < 2147483648) (u : Uq S B) :
    (zlast (zat S x) B = -6 ∧ (∀ b, b < B → zat S x b = false) ∧ zbs (zat S x) B = 0 ∧ ∀ w, zsum w (zat S x) B = 0) ∨
    ∃ b0, b0 < B ∧ zlast (zat S x) B = Int32.ofNat b0 ∧ S b0 = Int32.ofNat x ∧ (∀ b, b < B → S b = Int32.ofNat x → b = b0) ∧ zbs (zat S x) B = (1 : Int32) <<< (Int32.ofNat b0 &&& 31) ∧ ∀ w, zsum w (zat S x) B = w b0 := by
  rcases zlast_c (P := zat S x) B with ⟨e, h⟩ | ⟨b0, h1, h2, h3⟩
  · refine .inl ⟨e, h, ?_, fun w => zsum_none B h⟩
    rw [zbs_congr (Q := fun _ => false) h]
    clear h e u
    induction B with
    | zero => rfl
    | succ n ih => rw [zbs]; exact ih
  · have hs : S b0 = Int32.ofNat x := of_decide_eq_true h3
    have hu : ∀ b, b < B → zat S x b = true → b = b0 := fun b hb q => u b hb b0 h1 (by rw [hs]; exact of_decide_eq_true q) (by rw [show S b = _ from of_decide_eq_true q]; exact n_neg6 hx)
    exact .inr ⟨b0, h1, h2, hs, fun b hb q => hu b hb (decide_eq_true q), zbs_one B h1 h3 hu, fun w => zsum_one B h1 h3 hu⟩
