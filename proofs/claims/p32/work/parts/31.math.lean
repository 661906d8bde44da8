/-! WHAT HOLDS OF THE CLASS'S CELLS -/
def IB (f : Nat → Int32) (O b : Nat) : Prop :=
  (∀ a, a < 3 → ∃ n, 1 ≤ n ∧ n ≤ 300 ∧ f (8 + b * 11 + a) = Int32.ofNat n) ∧ (∃ n, 20 ≤ n ∧ n ≤ 30 ∧ f (8 + b * 11 + 3) = Int32.ofNat n) ∧
  f (8 + b * 11 + 4) = f (8 + b * 11 + 0) * f (8 + b * 11 + 1) * f (8 + b * 11 + 2) * f (8 + b * 11 + 3) / 10000 ∧
  (∃ n, n ≤ 4 ∧ f (8 + b * 11 + 5) = Int32.ofNat n) ∧ (∃ n, n ≤ 3 ∧ f (8 + b * 11 + 6) = Int32.ofNat n) ∧ (f (8 + b * 11 + 7) = 0 ∨ f (8 + b * 11 + 7) = 1) ∧
  (f (8 + b * 11 + 5) = 2 → ∃ s, s < 15 ∧ f (8 + b * 11 + 9) = Int32.ofNat s) ∧ (¬ f (8 + b * 11 + 5) = 2 → f (8 + b * 11 + 9) = -6) ∧
  (f (8 + b * 11 + 8) = -6 ∨ ∃ o, o < O ∧ f (8 + b * 11 + 8) = Int32.ofNat o ∧ f (272 + o * 6 + 4) = Int32.ofNat b ∧ f (272 + o * 6 + 3) = if f (8 + b * 11 + 5) = 3 then 2 else 1) ∧
  (f (8 + b * 11 + 10) = -6 ∨ ∃ p, p < b ∧ f (8 + b * 11 + 10) = Int32.ofNat p)
def IQ (f : Nat → Int32) (B o : Nat) : Prop :=
  (∃ x y z, 1 ≤ z ∧ z ≤ y ∧ y ≤ x ∧ x ≤ 300 ∧ f (272 + o * 6 + 0) = Int32.ofNat x ∧ f (272 + o * 6 + 1) = Int32.ofNat y ∧ f (272 + o * 6 + 2) = Int32.ofNat z) ∧
  ((f (272 + o * 6 + 3) = 0 ∧ f (272 + o * 6 + 4) = -6 ∧ f (272 + o * 6 + 5) = -6) ∨ (f (272 + o * 6 + 3) = 1 ∧ (∃ b, b < B ∧ f (272 + o * 6 + 4) = Int32.ofNat b) ∧ f (272 + o * 6 + 5) = -6) ∨
    (f (272 + o * 6 + 3) = 2 ∧ (∃ b, b < B ∧ f (272 + o * 6 + 4) = Int32.ofNat b) ∧ ∃ n, n ≤ 100000 ∧ f (272 + o * 6 + 5) = Int32.ofNat n))
def IG (f : Nat → Int32) (t : Nat) : Prop :=
  (0 ≤ (f 0).toInt ∧ (f 0).toInt ≤ 9) ∧ (1 ≤ (f 1).toInt ∧ (f 1).toInt ≤ 99) ∧ (-20 ≤ (f 2).toInt ∧ (f 2).toInt ≤ 0) ∧ (0 ≤ (f 3).toInt ∧ (f 3).toInt ≤ 30) ∧ ∃ n, n ≤ t ∧ f 5 = Int32.ofNat n
/-- a block's weight -/
def zw (f : Nat → Int32) (b : Nat) : Nat := (f (8 + b * 11 + 4)).toNatClampNeg
def IS (f : Nat → Int32) (B σ : Nat) : Prop :=
  nsum (zw f) (fun b => !decide (f (8 + b * 11 + 5) = 4)) B + σ ≤ nsum (zw f) (fun b => decide (f (8 + b * 11 + 10) = -6)) B ∧ zcnt (fun b => decide (f (8 + b * 11 + 5) = 1)) B ≤ 4
/-- all of it; σ: stone that is to come yet -/
def InvS (f : Nat → Int32) (t B O σ : Nat) : Prop :=
  CI f B O ∧ IG f t ∧ Lm f ∧ (∀ b, b < B → IB f O b) ∧ Uq (fun b => f (8 + b * 11 + 9)) B ∧ (∀ o, o < O → IQ f B o) ∧ IS f B σ
abbrev Inv (f : Nat → Int32) (t B O : Nat) : Prop := InvS f t B O 0
theorem InvS.c {f : Nat → Int32} {t B O σ : Nat} (R : InvS f t B O σ) : CI f B O := R.1
theorem InvS.g {f : Nat → Int32} {t B O σ : Nat} (R : InvS f t B O σ) : IG f t := R.2.1
theorem InvS.lm {f : Nat → Int32} {t B O σ : Nat} (R : InvS f t B O σ) : Lm f := R.2.2.1
theorem InvS.blk {f : Nat → Int32} {t B O σ : Nat} (R : InvS f t B O σ) : ∀ b, b < B → IB f O b := R.2.2.2.1
theorem InvS.uq {f : Nat → Int32} {t B O σ : Nat} (R : InvS f t B O σ) : Uq (fun b => f (8 + b * 11 + 9)) B := R.2.2.2.2.1
theorem InvS.ord {f : Nat → Int32} {t B O σ : Nat} (R : InvS f t B O σ) : ∀ o, o < O → IQ f B o := R.2.2.2.2.2.1
theorem InvS.sums {f : Nat → Int32} {t B O σ : Nat} (R : InvS f t B O σ) : IS f B σ := R.2.2.2.2.2.2
theorem IB.wt {f : Nat → Int32} {O b : Nat} (h : IB f O b) : f (8 + b * 11 + 4) = Int32.ofNat (zw f b) ∧ zw f b ≤ 81000 := by
  obtain ⟨h3, ⟨d, d1, d2, d3⟩, h5, -⟩ := h
  obtain ⟨x, x1, x2, x3⟩ := h3 0 (by omega)
  obtain ⟨y, y1, y2, y3⟩ := h3 1 (by omega)
  obtain ⟨z, z1, z2, z3⟩ := h3 2 (by omega)
  obtain ⟨p, q⟩ := w_prod x2 y2 z2 d2
  rw [x3, y3, z3, d3, p] at h5
  unfold zw
  rw [h5, n_nat (by omega)]
  exact ⟨rfl, q⟩
theorem IB.same {f f' : Nat → Int32} {O O' b : Nat} (h : IB f O b) (hf : ∀ w, w < 11 → f' (8 + b * 11 + w) = f (8 + b * 11 + w))
    (ho : ∀ o, o < O → f (8 + b * 11 + 8) = Int32.ofNat o → f (272 + o * 6 + 4) = Int32.ofNat b → o < O' ∧ f' (272 + o * 6 + 3) = f (272 + o * 6 + 3) ∧ f' (272 + o * 6 + 4) = f (272 + o * 6 + 4)) : IB f' O' b := by
  obtain ⟨h3, h4, h5, h6, h7, h8, h9, h10, h11, h12⟩ := h
  refine ⟨fun a ha => ?_, ?_, ?_, ?_, ?_, ?_, ?_, ?_, ?_, ?_⟩
  · rw [hf a (by omega)]; exact h3 a ha
  · rw [hf 3 (by omega)]; exact h4
  · rw [hf 0 (by omega), hf 1 (by omega), hf 2 (by omega), hf 3 (by omega), hf 4 (by omega)]; exact h5
  · rw [hf 5 (by omega)]; exact h6
  · rw [hf 6 (by omega)]; exact h7
  · rw [hf 7 (by omega)]; exact h8
  · rw [hf 5 (by omega), hf 9 (by omega)]; exact h9
  · rw [hf 5 (by omega), hf 9 (by omega)]; exact h10
  · rw [hf 5 (by omega), hf 8 (by omega)]
    rcases h11 with q | ⟨o, o1, o2, o3, o4⟩
    · exact .inl q
    · obtain ⟨p1, p2, p3⟩ := ho o o1 o2 o3
      exact .inr ⟨o, p1, o2, by rw [p3]; exact o3, by rw [p2]; exact o4⟩
  · rw [hf 10 (by omega)]; exact h12
theorem IQ.same {f f' : Nat → Int32} {B B' o : Nat} (h : IQ f B o) (hB : B ≤ B') (hf : ∀ w, w < 6 → f' (272 + o * 6 + w) = f (272 + o * 6 + w)) : IQ f' B' o := by
  unfold IQ at *
  rw [hf 0 (by omega), hf 1 (by omega), hf 2 (by omega), hf 3 (by omega), hf 4 (by omega), hf 5 (by omega)]
  refine ⟨h.1, ?_⟩
  rcases h.2 with q | ⟨q1, ⟨b, b1, b2⟩, q3⟩ | ⟨q1, ⟨b, b1, b2⟩, q3⟩
  · exact .inl q
  · exact .inr (.inl ⟨q1, ⟨b, by omega, b2⟩, q3⟩)
  · exact .inr (.inr ⟨q1, ⟨b, by omega, b2⟩, q3⟩)
theorem IG.same {f f' : Nat → Int32} {t t' : Nat} (h : IG f t) (ht : t ≤ t') (hf : ∀ i, i < 6 → i ≠ 4 → f' i = f i) : IG f' t' := by
  unfold IG at *
  rw [hf 0 (by omega) (by omega), hf 1 (by omega) (by omega), hf 2 (by omega) (by omega), hf 3 (by omega) (by omega), hf 5 (by omega) (by omega)]
  obtain ⟨h1, h2, h3, h4, n, n1, n2⟩ := h
  exact ⟨h1, h2, h3, h4, n, by omega, n2⟩
theorem nsum_congr {w v : Nat → Nat} {P Q : Nat → Bool} {n : Nat} (h : ∀ i, i < n → P i = Q i) (hw : ∀ i, i < n → P i = true → w i = v i) : nsum w P n = nsum v Q n := by
  induction n with
  | zero => rfl
  | succ n ih =>
    rw [nsum, nsum, ih (fun i hi => h i (by omega)) (fun i hi => hw i (by omega)), ← h n (by omega)]
    by_cases hp : P n = true
    · rw [if_pos hp, if_pos hp, hw n (by omega) hp]
    · rw [if_neg hp, if_neg hp]
theorem IS.same {f f' : Nat → Int32} {B σ : Nat} (h : IS f B σ) (hb : ∀ b, b < B → f' (8 + b * 11 + 4) = f (8 + b * 11 + 4) ∧ (f' (8 + b * 11 + 5) = 4 ↔ f (8 + b * 11 + 5) = 4) ∧ f' (8 + b * 11 + 10) = f (8 + b * 11 + 10)) (hr : zcnt (fun b => decide (f' (8 + b * 11 + 5) = 1)) B ≤ 4) : IS f' B σ := by
  have e1 : nsum (zw f') (fun b => !decide (f' (8 + b * 11 + 5) = 4)) B = nsum (zw f) (fun b => !decide (f (8 + b * 11 + 5) = 4)) B := nsum_congr (fun b q => by simp [(hb b q).2.1]) (fun b q _ => by unfold zw; rw [(hb b q).1])
  have e2 : nsum (zw f') (fun b => decide (f' (8 + b * 11 + 10) = -6)) B = nsum (zw f) (fun b => decide (f (8 + b * 11 + 10) = -6)) B := nsum_congr (fun b q => by rw [(hb b q).2.2]) (fun b q _ => by unfold zw; rw [(hb b q).1])
  exact ⟨by rw [e1, e2]; exact h.1, hr⟩
theorem IS.roof {f f' : Nat → Int32} {B σ : Nat} (h : IS f B σ) (hb : ∀ b, b < B → f' (8 + b * 11 + 5) = f (8 + b * 11 + 5)) : zcnt (fun b => decide (f' (8 + b * 11 + 5) = 1)) B ≤ 4 := by
  rw [zcnt_congr (P := fun b => decide (f' (8 + b * 11 + 5) = 1)) (Q := fun b => decide (f (8 + b * 11 + 5) = 1)) (fun b q => by rw [hb b q])]
  exact h.2
/-- a state that is alike in all cells -/
theorem InvS.congr {f f' : Nat → Int32} {t t' B O σ : Nat} (R : InvS f t B O σ) (ht : t ≤ t') (hf : ∀ i, i < 344 → f' i = f i) : InvS f' t' B O σ := by
  have hB := R.c.hB
  have hO := R.c.hO
  exact ⟨⟨hB, hO, by rw [hf 6 (by omega)]; exact R.c.f6, by rw [hf 7 (by omega)]; exact R.c.f7⟩, R.g.same ht (fun i _ _ => hf i (by omega)), R.lm.same (fun i _ _ => hf i (by omega)), fun b hb => (R.blk b hb).same (fun w hw => hf _ (by omega)) (fun o o1 o2 o3 => ⟨o1, hf _ (by omega), hf _ (by omega)⟩), R.uq.same (fun b hb => hf _ (by omega)), fun o ho => (R.ord o ho).same (Nat.le_refl _) (fun w hw => hf _ (by omega)), R.sums.same (fun b hb => ⟨hf _ (by omega), by rw [hf _ (by omega)], hf _ (by omega)⟩) (R.sums.roof (fun b hb => hf _ (by omega)))⟩
theorem InvS.mono {f : Nat → Int32} {t t' B O σ : Nat} (R : InvS f t B O σ) (ht : t ≤ t') : InvS f t' B O σ := R.congr ht (fun _ _ => rfl)
/-- a step: it returns, and what holds holds behind it -/
def Rs (t : Nat) (x : Option (Int32 × (Nat → Int32))) : Prop := ∃ r f' B' O', x = some (r, f') ∧ Inv f' (t + 1) B' O'
theorem Rs.err {f : Nat → Int32} {t B O : Nat} {r : Int32} {x : Option (Int32 × (Nat → Int32))} (R : Inv f t B O) (hx : x = some (r, f)) : Rs t x := ⟨r, f, B, O, hx, R.mono (by omega)⟩
theorem Rs.ok {f' : Nat → Int32} {t B O : Nat} {r : Int32} {x : Option (Int32 × (Nat → Int32))} (hx : x = some (r, f')) (R : Inv f' t B O) : Rs t x := ⟨r, f', B, O, hx, R.mono (by omega)⟩
/-! which blocks, orders, lorries there are -/
theorem h_blk {f : Nat → Int32} {B O : Nat} (c : CI f B O) (k : Nat) (p : Int32) : (∃ b, b < B ∧ p = Int32.ofNat b ∧ f_X5_hasBlock k f p = some 1) ∨ ((∀ b, b < B → ¬ p = Int32.ofNat b) ∧ f_X5_hasBlock k f p = some 0) := by
  have hB := c.hB
  have e1 : f_X5_hasBlock k f p = if p < 0 then some 0 else if Int32.ofNat B ≤ p then some 0 else some 1 := by
    rw [f_X5_hasBlock, s_cell6, c.f6]
    simp only [zb1_some]
  rw [e1]
  rcases j_in (f := f) (ms := f) (v := 0) hB p with ⟨b, b1, b2, h0, h1, h2⟩ | ⟨h1, h2⟩
  · exact .inl ⟨b, b1, b2, by rw [if_neg h0, if_neg h1]⟩
  · refine .inr ⟨fun b hb e => ?_, ?_⟩
    · subst e
      rcases h1 with q | q
      · exact n_lt0 (by omega) q
      · exact absurd ((n_le (by omega) (by omega)).mp q) (by omega)
    · by_cases h0 : p < 0
      · rw [if_pos h0]
      · rw [if_neg h0, if_pos (h1.resolve_left h0)]
theorem h_ord {f : Nat → Int32} {B O : Nat} (c : CI f B O) (k : Nat) (p : Int32) : (∃ b, b < O ∧ p = Int32.ofNat b ∧ f_X5_hasOrder k f p = some 1) ∨ ((∀ b, b < O → ¬ p = Int32.ofNat b) ∧ f_X5_hasOrder k f p = some 0) := by
  have hO := c.hO
  have e1 : f_X5_hasOrder k f p = if p < 0 then some 0 else if Int32.ofNat O ≤ p then some 0 else some 1 := by
    rw [f_X5_hasOrder, s_cell7, c.f7]
    simp only [zb1_some]
  rw [e1]
  rcases j_in (f := f) (ms := f) (v := 0) (show O ≤ 24 by omega) p with ⟨b, b1, b2, h0, h1, h2⟩ | ⟨h1, h2⟩
  · exact .inl ⟨b, b1, b2, by rw [if_neg h0, if_neg h1]⟩
  · refine .inr ⟨fun b hb e => ?_, ?_⟩
    · subst e
      rcases h1 with q | q
      · exact n_lt0 (by omega) q
      · exact absurd ((n_le (by omega) (by omega)).mp q) (by omega)
    · by_cases h0 : p < 0
      · rw [if_pos h0]
      · rw [if_neg h0, if_pos (h1.resolve_left h0)]
theorem h_lor (k : Nat) (p : Int32) : (∃ b, b < 3 ∧ p = Int32.ofNat b ∧ f_X7_isLorry k p = some 1) ∨ ((∀ b, b < 3 → ¬ p = Int32.ofNat b) ∧ f_X7_isLorry k p = some 0) := by
  rw [f_X7_isLorry, show (3 : Int32) = Int32.ofNat 3 from rfl]
  rcases j_in (f := fun _ => 0) (ms := fun _ => 0) (v := 0) (n := 3) (by omega) p with ⟨b, b1, b2, h0, h1, h2⟩ | ⟨h1, h2⟩
  · exact .inl ⟨b, b1, b2, by rw [if_neg h0, if_neg h1]⟩
  · refine .inr ⟨fun b hb e => ?_, ?_⟩
    · subst e
      rcases h1 with q | q
      · exact n_lt0 (by omega) q
      · exact absurd ((n_le (by omega) (by omega)).mp q) (by omega)
    · by_cases h0 : p < 0
      · rw [if_pos h0]
      · rw [if_neg h0, if_pos (h1.resolve_left h0)]
theorem h_blk1 {f : Nat → Int32} {B O b : Nat} (c : CI f B O) (k : Nat) (hb : b < B) : f_X5_hasBlock k f (Int32.ofNat b) = some 1 := by
  have hB := c.hB
  rcases h_blk c k (Int32.ofNat b) with ⟨_, _, _, e⟩ | ⟨h, _⟩
  · exact e
  · exact absurd rfl (h b hb)
theorem h_ord1 {f : Nat → Int32} {B O b : Nat} (c : CI f B O) (k : Nat) (hb : b < O) : f_X5_hasOrder k f (Int32.ofNat b) = some 1 := by
  rcases h_ord c k (Int32.ofNat b) with ⟨_, _, _, e⟩ | ⟨h, _⟩
  · exact e
  · exact absurd rfl (h b hb)
theorem h_lor1 {b : Nat} (k : Nat) (hb : b < 3) : f_X7_isLorry k (Int32.ofNat b) = some 1 := by
  rcases h_lor k (Int32.ofNat b) with ⟨_, _, _, e⟩ | ⟨h, _⟩
  · exact e
  · exact absurd rfl (h b hb)
