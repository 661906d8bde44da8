/-! the class, as in the proof of whole (wip/p32/math/ext.py) -/
theorem m_g {ρ : Type} {n i : Nat} {K : Option ρ} (hi : i < n) (hn : n < 2147483648) : zg (zin (Int32.ofNat i) n) K = K := by
  rw [n_zin hi hn]
  rfl
theorem n10 : ¬ (1 : Int32) = 0 := by decide
def zlast (P : Nat → Bool) : Nat → Int32
  | 0 => -6
  | n + 1 => if P n then Int32.ofNat n else zlast P n
theorem i_le {a b : Int32} : a ≤ b ↔ a.toInt ≤ b.toInt := Int32.le_iff_toInt_le
theorem i_lt {a b : Int32} : a < b ↔ a.toInt < b.toInt := Int32.lt_iff_toInt_lt
theorem i_eq {a b : Int32} : a = b ↔ a.toInt = b.toInt := Int32.toInt_inj.symm
theorem flag {A : Prop} [Decidable A] : ((if A then (1 : Int32) else 0) = 0) ↔ ¬ A := by
  by_cases h : A <;> simp [h]
def Best (av : Nat → Prop) (key : Nat → Int) (lo hi : Nat) (r : Int32) : Prop :=
  (r = -6 ∧ ∀ b, lo ≤ b → b < hi → ¬ av b) ∨ ∃ b0, lo ≤ b0 ∧ b0 < hi ∧ r = Int32.ofNat b0 ∧ av b0 ∧ ∀ b, lo ≤ b → b < hi → av b → key b0 ≤ key b ∧ (b < b0 → key b0 < key b)
theorem Best.uniq {av : Nat → Prop} {key : Nat → Int} {lo hi : Nat} {r r' : Int32} (h : Best av key lo hi r) (h' : Best av key lo hi r') : r = r' := by
  rcases h with ⟨e, h⟩ | ⟨b, h1, h2, e, h3, h4⟩
  · rcases h' with ⟨e', h'⟩ | ⟨b', h1', h2', e', h3', h4'⟩
    · rw [e, e']
    · exact absurd h3' (h b' h1' h2')
  · rcases h' with ⟨e', h'⟩ | ⟨b', h1', h2', e', h3', h4'⟩
    · exact absurd h3 (h' b h1 h2)
    · have q1 := h4 b' h1' h2' h3'
      have q2 := h4' b h1 h2 h3
      have : b = b' := by
        rcases Nat.lt_trichotomy b b' with q | q | q
        · have := q2.2 q; omega
        · exact q
        · have := q1.2 q; omega
      rw [e, e', this]
theorem Best.congr {av av' : Nat → Prop} {key key' : Nat → Int} {lo hi : Nat} {r : Int32} (h : Best av key lo hi r) (ha : ∀ b, b < hi → (av b ↔ av' b)) (hk : ∀ b, b < hi → av b → key b = key' b) : Best av' key' lo hi r := by
  rcases h with ⟨e, h⟩ | ⟨b, h1, h2, e, h3, h4⟩
  · exact .inl ⟨e, fun b q1 q2 q3 => h b q1 q2 ((ha b q2).mpr q3)⟩
  · refine .inr ⟨b, h1, h2, e, (ha b h2).mp h3, fun c q1 q2 q3 => ?_⟩
    have q3' := (ha c q2).mpr q3
    rw [← hk b h2 h3, ← hk c q2 q3']
    exact h4 c q1 q2 q3'
theorem near_loop {k o : Nat} {f : Nat → Int32} {B : Nat} (ho : o < 10) (hB : B ≤ 24) : ∀ n i (x3 x4 : Int32), i ≤ B → B - i < n →
    ((x3 = -6 ∧ ∀ b, b < i → zgiv f o b = -6) ∨ ∃ b0, b0 < i ∧ x3 = Int32.ofNat b0 ∧ x4 = zgiv f o b0 ∧ ¬ zgiv f o b0 = -6 ∧ ∀ b, b < i → ¬ zgiv f o b = -6 → (zgiv f o b0).toInt ≤ (zgiv f o b).toInt ∧ (b < b0 → (zgiv f o b0).toInt < (zgiv f o b).toInt)) →
    ∃ r, f_X1_nearestBlock_b20 k f (Int32.ofNat o) n (Int32.ofNat B) x3 x4 (Int32.ofNat i) = some r ∧ Best (fun b => ¬ zgiv f o b = -6) (fun b => (zgiv f o b).toInt) 0 B r := by
  intro n
  induction n with
  | zero => intro i _ _ _ h; omega
  | succ n ih =>
    intro i x3 x4 hi hn hI
    rw [f_X1_nearestBlock_b20]
    by_cases h : i < B
    · rw [if_neg (fun q => absurd ((n_le (by omega) (by omega)).mp q) (by omega)), s_giv ho (by omega)]
      simp only [f_X1_nearestBlock_b55]
      simp (disch := omega) only [zl_e, zb1_some, zb2_some, zb3_some, zb4_some, zb5_some, m_g, n_nat, n_suc]
      by_cases hq : zgiv f o i = -6
      · rw [if_pos hq]
        refine ih (i + 1) x3 x4 (by omega) (by omega) ?_
        rcases hI with ⟨e, hI⟩ | ⟨b0, h1, e1, e2, h2, h3⟩
        · refine .inl ⟨e, fun b hb => ?_⟩
          by_cases q : b = i
          · rw [q]; exact hq
          · exact hI b (by omega)
        · refine .inr ⟨b0, by omega, e1, e2, h2, fun b hb hg => h3 b ?_ hg⟩
          have : ¬ b = i := fun q => hg (by rw [q]; exact hq)
          omega
      · rw [if_neg hq]
        rcases hI with ⟨e, hI⟩ | ⟨b0, h1, e1, e2, h2, h3⟩
        · rw [if_pos e]
          refine ih (i + 1) _ _ (by omega) (by omega) (.inr ⟨i, by omega, rfl, rfl, hq, fun b hb hg => ?_⟩)
          have : b = i := by
            by_cases q : b = i
            · exact q
            · exact absurd (hI b (by omega)) hg
          subst this
          exact ⟨Int.le_refl _, fun q => absurd q (Nat.lt_irrefl _)⟩
        · rw [if_neg (by rw [e1]; exact n_neg6 (by omega))]
          by_cases hl : x4 ≤ zgiv f o i
          · rw [if_pos hl]
            refine ih (i + 1) x3 x4 (by omega) (by omega) (.inr ⟨b0, by omega, e1, e2, h2, fun b hb hg => ?_⟩)
            by_cases q : b = i
            · subst q
              rw [e2] at hl
              exact ⟨i_le.mp hl, fun q => by omega⟩
            · exact h3 b (by omega) hg
          · rw [if_neg hl]
            rw [e2, i_le] at hl
            refine ih (i + 1) _ _ (by omega) (by omega) (.inr ⟨i, by omega, rfl, rfl, hq, fun b hb hg => ?_⟩)
            by_cases q : b = i
            · subst q
              exact ⟨Int.le_refl _, fun q => absurd q (Nat.lt_irrefl _)⟩
            · have := h3 b (by omega) hg
              exact ⟨by omega, fun _ => by omega⟩
    · have : i = B := by omega
      subst this
      rw [if_pos ((n_le (by omega) (by omega)).mpr (Nat.le_refl _))]
      refine ⟨x3, rfl, ?_⟩
      rcases hI with ⟨e, hI⟩ | ⟨b0, h1, e1, e2, h2, h3⟩
      · exact .inl ⟨e, fun b _ hb => fun q => q (hI b hb)⟩
      · exact .inr ⟨b0, Nat.zero_le _, h1, e1, h2, fun b _ hb hg => h3 b hb hg⟩
theorem s_near {k o : Nat} {f : Nat → Int32} {B O : Nat} (c : CI f B O) (hk : 25 ≤ k) (ho : o < 10) : ∃ r, f_X1_nearestBlock k f (Int32.ofNat o) = some r ∧ Best (fun b => ¬ zgiv f o b = -6) (fun b => (zgiv f o b).toInt) 0 B r := by
  rw [f_X1_nearestBlock, s_cell6, zb1_some, c.f6]
  exact near_loop ho c.hB k 0 _ _ (by omega) (by have := c.hB; omega) (.inl ⟨rfl, fun b hb => by omega⟩)
theorem n_pred (i : Nat) : Int32.ofNat (i + 1) + (-1) = Int32.ofNat i := by
  rw [Int32.ofNat_add, Int32.add_assoc]
  show Int32.ofNat i + (1 + (-1)) = _
  rw [show (1 : Int32) + (-1) = 0 by decide, Int32.add_zero]
def zlen (f : Nat → Int32) (o b a len : Nat) : Int32 :=
  zsur (f 3) (f (272 + o * 6 + 0)) (f (272 + o * 6 + 1)) (f (272 + o * 6 + 2)) (if a = 0 then Int32.ofNat len else f (8 + b * 11 + 0)) (if a = 1 then Int32.ofNat len else f (8 + b * 11 + 1)) (if a = 2 then Int32.ofNat len else f (8 + b * 11 + 2))
def zfit (f : Nat → Int32) (o b a len : Nat) : Prop :=
  f (8 + b * 11 + 7) = 0 ∧ (len : Int) ≤ (f (8 + b * 11 + a)).toInt - (f 0).toInt - 1 ∧ ¬ zlen f o b a len = -6
def zsaw (f : Nat → Int32) (b : Nat) : Prop := 0 ≤ (f 0).toInt ∧ (f 0).toInt ≤ 9 ∧ ∀ a, a < 3 → 1 ≤ (f (8 + b * 11 + a)).toInt ∧ (f (8 + b * 11 + a)).toInt ≤ 300
theorem i_sub {a b : Int32} (h : -2147483648 ≤ a.toInt - b.toInt) (h' : a.toInt - b.toInt < 2147483648) : (a - b).toInt = a.toInt - b.toInt := by
  rw [Int32.toInt_sub]
  exact Int.bmod_eq_of_le (by omega) (by omega)
theorem i_add {a b : Int32} (h : -2147483648 ≤ a.toInt + b.toInt) (h' : a.toInt + b.toInt < 2147483648) : (a + b).toInt = a.toInt + b.toInt := by
  rw [Int32.toInt_add]
  exact Int.bmod_eq_of_le (by omega) (by omega)
theorem i_nat {a : Nat} (h : a < 2147483648) : (Int32.ofNat a).toInt = a := Int32.toInt_ofNat_of_lt h
theorem fl_loop {k o b a : Nat} {f : Nat → Int32} {most : Int32} (ho : o < 10) (ha : a < 3) (hm : most.toInt < 300) : ∀ (n len : Nat), 1 ≤ len → len ≤ 300 → 300 - len < n → (∀ j : Nat, 1 ≤ j → j < len → (j : Int) ≤ most.toInt → zlen f o b a j = -6) →
    ∃ r, f_X1_fittingLength_b74 k f (Int32.ofNat o) (Int32.ofNat b) (Int32.ofNat a) n most (f (8 + b * 11 + 0)) (f (8 + b * 11 + 1)) (f (8 + b * 11 + 2)) (Int32.ofNat len) = some r ∧
      ((r = -6 ∧ ∀ j : Nat, 1 ≤ j → (j : Int) ≤ most.toInt → zlen f o b a j = -6) ∨ ∃ j : Nat, 1 ≤ j ∧ (j : Int) ≤ most.toInt ∧ r = Int32.ofNat j ∧ ¬ zlen f o b a j = -6 ∧ ∀ i : Nat, 1 ≤ i → i < j → zlen f o b a i = -6) := by
  intro n
  induction n with
  | zero => intro len _ _ h; omega
  | succ n ih =>
    intro len h1 h2 hn hI
    by_cases hl : most < Int32.ofNat len
    · rw [f_X1_fittingLength_b74, if_pos hl]
      rw [i_lt, i_nat (by omega)] at hl
      exact ⟨-6, rfl, .inl ⟨rfl, fun j q1 q2 => hI j q1 (by omega) q2⟩⟩
    · have hs : f_X1_fittingLength_b74 k f (Int32.ofNat o) (Int32.ofNat b) (Int32.ofNat a) (n + 1) most (f (8 + b * 11 + 0)) (f (8 + b * 11 + 1)) (f (8 + b * 11 + 2)) (Int32.ofNat len) = if zlen f o b a len = -6 then f_X1_fittingLength_b74 k f (Int32.ofNat o) (Int32.ofNat b) (Int32.ofNat a) n most (f (8 + b * 11 + 0)) (f (8 + b * 11 + 1)) (f (8 + b * 11 + 2)) (Int32.ofNat (len + 1)) else some (Int32.ofNat len) := by
        rw [f_X1_fittingLength_b74, if_neg hl]
        simp only [f_X1_fittingLength_b118, s_surplus ho]
        simp (disch := omega) only [zl_e, zb1_some, zb2_some, zb3_some, zb4_some, zb5_some, m_g, n_nat, n_suc]
        have c : a = 0 ∨ a = 1 ∨ a = 2 := by omega
        unfold zlen
        rcases c with rfl | rfl | rfl
        · rfl
        · rfl
        · rfl
      rw [hs]
      rw [i_lt, i_nat (by omega)] at hl
      by_cases hz : zlen f o b a len = -6
      · rw [if_pos hz]
        exact ih (len + 1) (by omega) (by omega) (by omega) (fun j q1 q2 q3 => by
          by_cases q : j = len
          · rw [q]; exact hz
          · exact hI j q1 (by omega) q3)
      · rw [if_neg hz]
        exact ⟨_, rfl, .inr ⟨len, h1, by omega, rfl, hz, fun i q1 q2 => hI i q1 q2 (by omega)⟩⟩
theorem s_fl {k o b a : Nat} {f : Nat → Int32} (hk : 400 ≤ k) (ho : o < 10) (hb : b < 24) (ha : a < 3) (hw : zsaw f b) :
    ∃ r, f_X1_fittingLength k f (Int32.ofNat o) (Int32.ofNat b) (Int32.ofNat a) = some r ∧
      ((r = -6 ∧ ∀ j, 1 ≤ j → ¬ zfit f o b a j) ∨ ∃ j, 1 ≤ j ∧ j < 300 ∧ r = Int32.ofNat j ∧ zfit f o b a j ∧ ∀ i : Nat, 1 ≤ i → i < j → ¬ zfit f o b a i) := by
  obtain ⟨w0, w9, hs⟩ := hw
  obtain ⟨s0, s1⟩ := hs a ha
  rw [f_X1_fittingLength, s_blk7 hb, zb1_some]
  by_cases hc : f (8 + b * 11 + 7) = 0
  · rw [if_pos hc, s_blk hb (by omega), s_cell0, s_blk0 hb, s_blk1 hb, s_blk2 hb]
    simp (disch := omega) only [zl_e, zb1_some, zb2_some, zb3_some, zb4_some, zb5_some, m_g, n_nat, n_suc]
    have e1 : (f (8 + b * 11 + a) - f 0).toInt = (f (8 + b * 11 + a)).toInt - (f 0).toInt := i_sub (by omega) (by omega)
    have t1 : (1 : Int32).toInt = 1 := by decide
    have e2 : (f (8 + b * 11 + a) - f 0 - 1).toInt = (f (8 + b * 11 + a)).toInt - (f 0).toInt - 1 := by
      rw [i_sub (by omega) (by omega), e1, t1]
    obtain ⟨r, h1, h2⟩ := fl_loop (k := k) (o := o) (b := b) (a := a) (f := f) (most := f (8 + b * 11 + a) - f 0 - 1) ho ha (by omega) k 1 (by omega) (by omega) (by omega) (fun j q1 q2 => by omega)
    refine ⟨r, h1, ?_⟩
    rw [e2] at h2
    rcases h2 with ⟨e, h2⟩ | ⟨j, q1, q2, q3, q4, q5⟩
    · exact .inl ⟨e, fun j q1 q2 => q2.2.2 (h2 j q1 q2.2.1)⟩
    · exact .inr ⟨j, q1, by omega, q3, ⟨hc, q2, q4⟩, fun i r1 r2 r3 => r3.2.2 (q5 i r1 r2)⟩
  · rw [if_neg hc]
    exact ⟨-6, rfl, .inl ⟨rfl, fun j _ q => hc q.1⟩⟩
def Fst (P : Nat → Prop) (w : Int32) (r : Int32) : Prop :=
  (r = -6 ∧ ∀ j, j < 900 → ¬ P j) ∨ ∃ j, j < 900 ∧ P j ∧ (∀ i, i < j → ¬ P i) ∧ r = if w = 0 then Int32.ofNat (j / 300) else Int32.ofNat (1 + j % 300)
theorem Fst.uniq {P Q : Nat → Prop} {w r r' : Int32} (h : Fst P w r) (h' : Fst Q w r') (e : ∀ j, j < 900 → (P j ↔ Q j)) : r = r' := by
  rcases h with ⟨e1, h⟩ | ⟨j, h1, h2, h3, h4⟩
  · rcases h' with ⟨e2, h'⟩ | ⟨j', h1', h2', h3', h4'⟩
    · rw [e1, e2]
    · exact absurd ((e j' h1').mpr h2') (h j' h1')
  · rcases h' with ⟨e2, h'⟩ | ⟨j', h1', h2', h3', h4'⟩
    · exact absurd ((e j h1).mp h2) (h' j h1)
    · have : j = j' := by
        rcases Nat.lt_trichotomy j j' with q | q | q
        · exact absurd ((e j h1).mp h2) (h3' j q)
        · exact q
        · exact absurd ((e j' h1').mpr h2') (h3 j' q)
      rw [h4, h4', this]
theorem fc_loop {k o b : Nat} {f : Nat → Int32} {w : Int32} (hk : 400 ≤ k) (ho : o < 10) (hb : b < 24) (hw : zsaw f b) : ∀ n a, a ≤ 3 → 3 - a < n → (∀ j, j < 300 * a → ¬ zfit f o b (j / 300) (1 + j % 300)) →
    ∃ r, f_X7_fittingCut_b53 k f (Int32.ofNat o) (Int32.ofNat b) w n (Int32.ofNat a) = some r ∧ Fst (fun j => zfit f o b (j / 300) (1 + j % 300)) w r := by
  intro n
  induction n with
  | zero => intro a _ h; omega
  | succ n ih =>
    intro a ha hn hI
    rw [f_X7_fittingCut_b53]
    by_cases h : a < 3
    · rw [if_neg (show ¬ (3 : Int32) ≤ Int32.ofNat a from fun q => absurd ((n_le (a := 3) (by omega) (by omega)).mp q) (by omega))]
      obtain ⟨r, h1, h2⟩ := s_fl (k := k) (f := f) hk ho hb h hw
      rw [h1]
      simp (disch := omega) only [zl_e, zb1_some, zb2_some, zb3_some, zb4_some, zb5_some, m_g, n_nat, n_suc]
      rcases h2 with ⟨e, h2⟩ | ⟨j, q1, q2, q3, q4, q5⟩
      · rw [if_pos e]
        refine ih (a + 1) (by omega) (by omega) (fun j hj => ?_)
        by_cases q : j < 300 * a
        · exact hI j q
        · rw [show j / 300 = a by omega]
          exact h2 _ (by omega)
      · rw [if_neg (by rw [q3]; exact n_neg6 (by omega))]
        have d1 : (300 * a + (j - 1)) / 300 = a := by omega
        have d2 : 1 + (300 * a + (j - 1)) % 300 = j := by omega
        refine ⟨if w = 0 then Int32.ofNat a else Int32.ofNat j, by rw [q3]; split <;> rfl, .inr ⟨300 * a + (j - 1), by omega, by show zfit f o b _ _; rw [d1, d2]; exact q4, fun i hi => ?_, by rw [d1, d2]⟩⟩
        by_cases q : i < 300 * a
        · exact hI i q
        · show ¬ zfit f o b _ _
          rw [show i / 300 = a by omega]
          exact q5 _ (by omega) (by omega)
    · have : a = 3 := by omega
      subst this
      rw [if_pos (by decide)]
      exact ⟨-6, rfl, .inl ⟨rfl, fun j hj => hI j (by omega)⟩⟩
