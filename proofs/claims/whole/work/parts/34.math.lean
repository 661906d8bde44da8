/-! BOTH SIDES' AXLES -/
/-- blocks with weights W, the same places and weights on both sides, one block at a place -/
def Lw (f ms : Nat → Int32) (B : Nat) (W : Nat → Nat) : Prop :=
  (∀ b, b < B → f (8 + b * 11 + 4) = Int32.ofNat (W b) ∧ W b ≤ 81000 ∧ mw ms b = Int32.ofNat (W b) ∧ ms (12 + 10 * b + 8) = f (8 + b * 11 + 9)) ∧ Uq (fun b => f (8 + b * 11 + 9)) B
theorem Lw.um {f ms : Nat → Int32} {B : Nat} {W : Nat → Nat} (h : Lw f ms B W) : Uq (fun b => ms (12 + 10 * b + 8)) B := by
  intro b hb c hc e n
  have e1 := (h.1 b hb).2.2.2
  have e2 := (h.1 c hc).2.2.2
  simp only at e n
  rw [e1] at e n
  rw [e2] at e
  exact h.2 b hb c hc e n
theorem zlast_congr {P Q : Nat → Bool} {n : Nat} (h : ∀ i, i < n → P i = Q i) : zlast P n = zlast Q n := by
  induction n with
  | zero => rfl
  | succ n ih => rw [zlast, zlast, ih (fun i hi => h i (by omega)), h n (by omega)]
theorem Lw.at {f ms : Nat → Int32} {B : Nat} {W : Nat → Nat} (h : Lw f ms B W) (x : Nat) : ∀ b, b < B → zat (fun b => ms (12 + 10 * b + 8)) x b = zat (fun b => f (8 + b * 11 + 9)) x b := by
  intro b hb
  show decide (ms (12 + 10 * b + 8) = Int32.ofNat x) = decide (f (8 + b * 11 + 9) = Int32.ofNat x)
  rw [(h.1 b hb).2.2.2]
theorem Lw.on {f ms : Nat → Int32} {B : Nat} {W : Nat → Nat} (h : Lw f ms B W) (l : Nat) : ∀ b, b < B → zon (fun b => ms (12 + 10 * b + 8)) l b = zon (fun b => f (8 + b * 11 + 9)) l b := by
  intro b hb
  unfold zon
  rw [h.at _ b hb, h.at _ b hb, h.at _ b hb, h.at _ b hb, h.at _ b hb]
/-- the weight at a place -/
def pwt (f : Nat → Int32) (B : Nat) (W : Nat → Nat) (x : Nat) : Nat := nsum W (zat (fun b => f (8 + b * 11 + 9)) x) B
theorem Lw.place {f ms : Nat → Int32} {B : Nat} {W : Nat → Nat} (h : Lw f ms B W) (hB : B ≤ 24) {x : Nat} (hx : x < 2147483648) :
    zsum (fun b => f (8 + b * 11 + 4)) (zat (fun b => f (8 + b * 11 + 9)) x) B = Int32.ofNat (pwt f B W x) ∧ pwt f B W x ≤ 81000 ∧
    ((zlast (zat (fun b => ms (12 + 10 * b + 8)) x) B = -6 ∧ pwt f B W x = 0 ∧ zbs (zat (fun b => f (8 + b * 11 + 9)) x) B = 0) ∨
      ∃ b, b < B ∧ zlast (zat (fun b => ms (12 + 10 * b + 8)) x) B = Int32.ofNat b ∧ mw ms b = Int32.ofNat (pwt f B W x) ∧ ¬ zbs (zat (fun b => f (8 + b * 11 + 9)) x) B = 0) := by
  have e1 : zsum (fun b => f (8 + b * 11 + 4)) (zat (fun b => f (8 + b * 11 + 9)) x) B = Int32.ofNat (pwt f B W x) := zsum_nat B (fun b hb _ => (h.1 b hb).1)
  have e2 : pwt f B W x ≤ B * 81000 := nsum_le B (fun b hb => (h.1 b hb).2.1)
  have e3 : B * 81000 ≤ 24 * 81000 := Nat.mul_le_mul_right _ hB
  rw [zlast_congr (h.at x)]
  rcases zat_c hx h.2 with ⟨a1, a2, a3, a4⟩ | ⟨b0, b1, b2, b3, b4, b5, b6⟩
  · have := a4 (fun b => f (8 + b * 11 + 4))
    rw [e1] at this
    have z : pwt f B W x = 0 := (n_inj (by omega) (b := 0) (by omega)).mp this
    exact ⟨e1, by omega, .inl ⟨a1, z, a3⟩⟩
  · have this : zsum (fun b => f (8 + b * 11 + 4)) (zat (fun b => f (8 + b * 11 + 9)) x) B = f (8 + b0 * 11 + 4) := b6 _
    obtain ⟨w1, w2, w3, w4⟩ := h.1 b0 b1
    rw [e1, w1] at this
    have z : pwt f B W x = W b0 := (n_inj (by omega) (by omega)).mp this
    refine ⟨e1, by omega, .inr ⟨b0, b1, b2, by rw [z]; exact w3, fun q => ?_⟩⟩
    have := (b_empty (by omega)).mp q b0 b1
    rw [show zat (fun b => f (8 + b * 11 + 9)) x b0 = true from decide_eq_true b3] at this
    cases this
theorem axn_lt {w j : Nat → Nat} (hw : ∀ p, w p ≤ 400000) (hj : ∀ p, p < 5 → j p ≤ 4) : axn w j < 16777216 := by
  have h0 := m400 (hw 0) (hj 0 (by omega))
  have h1 := m400 (hw 1) (hj 1 (by omega))
  have h2 := m400 (hw 2) (hj 2 (by omega))
  have h3 := m400 (hw 3) (hj 3 (by omega))
  have h4 := m400 (hw 4) (hj 4 (by omega))
  unfold axn
  omega
theorem ax_now {k l B O : Nat} {f ms : Nat → Int32} {W : Nat → Nat} (c : CI f B O) (m : MI ms B O) (h : Lw f ms B W) (hk : 25 ≤ k) (hl : l < 3) :
    ∃ Nf Nr, Nf < 16777216 ∧ Nr < 16777216 ∧ f_X1_front k f (Int32.ofNat l) (-6) 0 = some (fb Nf (-2)) ∧ f_X8_axleNow k ms (Int32.ofNat l) 0 = some (fb Nf (-2)) ∧ f_X1_rear k f (Int32.ofNat l) (-6) 0 = some (fb Nr (-2)) ∧ f_X8_axleNow k ms (Int32.ofNat l) 1 = some (fb Nr (-2)) := by
  have hB := c.hB
  obtain ⟨w, hw⟩ : ∃ w : Nat → Nat, w = fun p => if p < 5 then pwt f B W (5 * l + p) else 0 := ⟨_, rfl⟩
  have wv : ∀ p, p < 5 → w p = pwt f B W (5 * l + p) := fun p hp => by rw [hw]; exact if_pos hp
  have wb : ∀ p, w p ≤ 400000 := fun p => by
    rw [hw]
    simp only
    split
    · have := (h.place hB (show 5 * l + p < 2147483648 by omega)).2.1; omega
    · omega
  have a1 : ∀ p, p < 5 → f_X1_weightAt k f (Int32.ofNat l) (Int32.ofNat p) (-6) 0 = some (FP.i2f (Int32.ofNat (w p))) := fun p hp => by
    rw [s_wat c hk, if_neg (n_neg6 (by omega)), Int32.zero_add, (h.place hB (show 5 * l + p < 2147483648 by omega)).1, wv p hp]
  have a2 : ∀ p, p < 5 → (mpl ms B l (-6) (-6) p = -6 ∧ w p = 0) ∨ ∃ b, b < 24 ∧ mpl ms B l (-6) (-6) p = Int32.ofNat b ∧ mw ms b = Int32.ofNat (w p) := fun p hp => by
    unfold mpl
    rw [if_neg (fun q => q.2 rfl), wv p hp]
    rcases (h.place hB (show 5 * l + p < 2147483648 by omega)).2.2 with ⟨q1, q2, q3⟩ | ⟨b, q1, q2, q3, q4⟩
    · exact .inl ⟨q1, q2⟩
    · exact .inr ⟨b, by omega, q2, q3⟩
  have c0 : ∀ p, p < 5 → (fun p => 4 - p) p ≤ 4 ∧ Int32.ofNat ((fun p => 4 - p) p) = if (0 : Int32) = 0 then (4 : Int32) - Int32.ofNat p else Int32.ofNat p := fun p hp => ⟨by show 4 - p ≤ 4; omega, by rw [if_pos rfl, n_4sub hp]⟩
  have c1 : ∀ p, p < 5 → (fun p => p) p ≤ 4 ∧ Int32.ofNat ((fun p => p) p) = if (1 : Int32) = 0 then (4 : Int32) - Int32.ofNat p else Int32.ofNat p := fun p hp => ⟨by show p ≤ 4; omega, by rw [if_neg n10]⟩
  refine ⟨axn w (fun p => 4 - p), axn w (fun p => p), axn_lt wb (fun p _ => by show 4 - p ≤ 4; omega), axn_lt wb (fun p _ => by show p ≤ 4; omega), s_front hk wb a1, ?_, s_rear hk wb a1, ?_⟩
  · rw [f_X8_axleNow, m_axle m hk wb c0 a2, zb1_some]
  · rw [f_X8_axleNow, m_axle m hk wb c1 a2, zb1_some]
theorem ax_more {k l p b B O : Nat} {f ms : Nat → Int32} {W : Nat → Nat} (c : CI f B O) (m : MI ms B O) (h : Lw f ms B W) (hk : 25 ≤ k) (hl : l < 3) (hp : p < 5) (hb : b < B) (hfree : zbs (zat (fun b => f (8 + b * 11 + 9)) (5 * l + p)) B = 0) :
    ∃ Nf Nr, Nf < 16777216 ∧ Nr < 16777216 ∧ f_X1_front k f (Int32.ofNat l) (Int32.ofNat p) (f (8 + b * 11 + 4)) = some (fb Nf (-2)) ∧ f_X8_axle k ms (Int32.ofNat l) 0 (Int32.ofNat b) (Int32.ofNat p) = some (fb Nf (-2)) ∧ f_X1_rear k f (Int32.ofNat l) (Int32.ofNat p) (f (8 + b * 11 + 4)) = some (fb Nr (-2)) ∧ f_X8_axle k ms (Int32.ofNat l) 1 (Int32.ofNat b) (Int32.ofNat p) = some (fb Nr (-2)) := by
  have hB := c.hB
  obtain ⟨b1, b2, b3, b4⟩ := h.1 b hb
  obtain ⟨w, hw⟩ : ∃ w : Nat → Nat, w = fun q => if q < 5 then (if q = p then W b else 0) + pwt f B W (5 * l + q) else 0 := ⟨_, rfl⟩
  have wv : ∀ q, q < 5 → w q = (if q = p then W b else 0) + pwt f B W (5 * l + q) := fun q hq => by rw [hw]; exact if_pos hq
  have wb : ∀ q, w q ≤ 400000 := fun q => by
    rw [hw]
    simp only
    split
    · have := (h.place hB (show 5 * l + q < 2147483648 by omega)).2.1
      split <;> omega
    · omega
  have a1 : ∀ q, q < 5 → f_X1_weightAt k f (Int32.ofNat l) (Int32.ofNat q) (Int32.ofNat p) (f (8 + b * 11 + 4)) = some (FP.i2f (Int32.ofNat (w q))) := fun q hq => by
    rw [s_wat c hk, (h.place hB (show 5 * l + q < 2147483648 by omega)).1, wv q hq, ← n_add, b1]
    by_cases e : q = p
    · rw [if_pos e, if_pos (by rw [e])]
    · rw [if_neg e, if_neg (fun r => e ((n_inj (by omega) (by omega)).mp r))]
      rfl
  have a2 : ∀ q, q < 5 → (mpl ms B l (Int32.ofNat b) (Int32.ofNat p) q = -6 ∧ w q = 0) ∨ ∃ b', b' < 24 ∧ mpl ms B l (Int32.ofNat b) (Int32.ofNat p) q = Int32.ofNat b' ∧ mw ms b' = Int32.ofNat (w q) := fun q hq => by
    unfold mpl
    rw [wv q hq]
    have pl := (h.place hB (show 5 * l + q < 2147483648 by omega)).2.2
    by_cases e : q = p
    · subst e
      rw [if_pos ⟨rfl, n_neg6 (by omega)⟩, if_pos rfl]
      rcases pl with ⟨q1, q2, q3⟩ | ⟨b', q1, q2, q3, q4⟩
      · exact .inr ⟨b, by omega, rfl, by rw [q2]; exact b3⟩
      · exact absurd hfree q4
    · rw [if_neg (fun r => e ((n_inj (by omega) (by omega)).mp r.1)), if_neg e, Nat.zero_add]
      rcases pl with ⟨q1, q2, q3⟩ | ⟨b', q1, q2, q3, q4⟩
      · exact .inl ⟨q1, q2⟩
      · exact .inr ⟨b', by omega, q2, q3⟩
  have c0 : ∀ p, p < 5 → (fun p => 4 - p) p ≤ 4 ∧ Int32.ofNat ((fun p => 4 - p) p) = if (0 : Int32) = 0 then (4 : Int32) - Int32.ofNat p else Int32.ofNat p := fun p hp => ⟨by show 4 - p ≤ 4; omega, by rw [if_pos rfl, n_4sub hp]⟩
  have c1 : ∀ p, p < 5 → (fun p => p) p ≤ 4 ∧ Int32.ofNat ((fun p => p) p) = if (1 : Int32) = 0 then (4 : Int32) - Int32.ofNat p else Int32.ofNat p := fun p hp => ⟨by show p ≤ 4; omega, by rw [if_neg n10]⟩
  exact ⟨axn w (fun p => 4 - p), axn w (fun p => p), axn_lt wb (fun p _ => by show 4 - p ≤ 4; omega), axn_lt wb (fun p _ => by show p ≤ 4; omega), s_front hk wb a1, m_axle m hk wb c0 a2, s_rear hk wb a1, m_axle m hk wb c1 a2⟩
theorem flag0 {A : Prop} [Decidable A] : ((if A then (0 : Int32) else 1) = 0) ↔ A := by
  by_cases h : A <;> simp [h]
/-- why a lorry stays -/
def Ll (f ms : Nat → Int32) : Prop := ∀ l, l < 3 → ∀ w, w < 4 → f (332 + l * 4 + w) = ms (312 + 4 * l + w)
theorem w_why {k l B O : Nat} {f ms : Nat → Int32} {W : Nat → Nat} (c : CI f B O) (m : MI ms B O) (h : Lw f ms B W) (hL : Ll f ms) (hc : ∀ b, b < B → ms (12 + 10 * b + 6) = f (8 + b * 11 + 7)) (hk : 25 ≤ k) (hl : l < 3) :
    ∃ r, f_X1_reasonToStay k f (Int32.ofNat l) = some r ∧ f_X8_whyNot k ms (Int32.ofNat l) = some r := by
  have hB := c.hB
  obtain ⟨Nf, Nr, h1, h2, h3, h4, h5, h6⟩ := ax_now c m h hk hl
  have e1 : zbs (zon (fun b => ms (12 + 10 * b + 8)) l) B = zbs (zon (fun b => f (8 + b * 11 + 9)) l) B := zbs_congr (h.on l)
  have e2 : zbs (fun b => zon (fun b => ms (12 + 10 * b + 8)) l b && decide (ms (12 + 10 * b + 6) = 1)) B = zbs (fun b => zon (fun b => f (8 + b * 11 + 9)) l b && decide (f (8 + b * 11 + 7) = 1)) B := zbs_congr (fun b hb => by rw [h.on l b hb, hc b hb])
  have e3 : zsum (mw ms) (zon (fun b => ms (12 + 10 * b + 8)) l) B = zsum (fun b => f (8 + b * 11 + 4)) (zon (fun b => f (8 + b * 11 + 9)) l) B := zsum_congr (h.on l) (fun b hb _ => by rw [(h.1 b hb).2.2.1, (h.1 b hb).1])
  rw [f_X1_reasonToStay, f_X8_whyNot, s_on c hk, m_on m hk hl h.um, e1, s_bw7 c hk, m_crk m hk hl h.um, e2, m_load m hk hl h.um, e3, m_lat0, m_lat1, m_lat2, s_lor0 hl, s_lor1 hl, s_lor2 hl]
  simp (disch := omega) only [zb1_some, zl_e]
  rw [b_and (by omega), s_wof c hk, h3, h4, h5, h6]
  simp (disch := omega) only [zl_e, zb1_some, zb2_some, zb3_some, zb4_some, zb5_some, m_g, n_nat, n_suc]
  rw [hL l hl 0 (by omega), hL l hl 1 (by omega), hL l hl 2 (by omega)]
  by_cases q1 : zbs (zon (fun b => f (8 + b * 11 + 9)) l) B = 0
  · rw [if_pos q1, if_pos q1]; exact ⟨1, rfl, rfl⟩
  · rw [if_neg q1, if_neg q1]
    simp only [flag0]
    by_cases q2 : zbs (fun b => zon (fun b => f (8 + b * 11 + 9)) l b && decide (f (8 + b * 11 + 7) = 1)) B = 0
    · rw [if_pos q2]
      split
      · split
        · split
          · exact ⟨_, rfl, rfl⟩
          · exact ⟨_, rfl, rfl⟩
        · exact ⟨_, rfl, rfl⟩
      · exact ⟨_, rfl, rfl⟩
    · rw [if_neg q2]
      exact ⟨2, rfl, rfl⟩
