/-! THE BEST BLOCK -/
def Best (av : Nat → Prop) (key : Nat → Int) (lo hi : Nat) (r : Int32) : Prop :=
  (r = -6 ∧ ∀ b, lo ≤ b → b < hi → ¬ av b) ∨ ∃ b0, lo ≤ b0 ∧ b0 < hi ∧ r = Int32.ofNat b0 ∧ av b0 ∧ ∀ b, lo ≤ b → b < hi → av b → key b0 ≤ key b ∧ (b < b0 → key b0 < key b)
theorem Best.uniq {av : Nat → Prop} {key : Nat → Int} {lo hi : Nat} {r r' : Int32} (h : Best av key lo hi r) (h' : Best av key lo hi r') : r = r' := by
  rcases h with ⟨e, h⟩ | ⟨b, h1, h2, e, h3, h4⟩
  · rcases h' with ⟨e', h'⟩ | ⟨b', h1', h2', e', h3', h4'⟩
    · rw [e, e']
    · exact absurd h3' (h b' h1' h2')
  · rcases h' with ⟨e', h'⟩ | ⟨b', h1', h2', e', h3', h4'⟩
    · exact absurd h3 (h' b h1 h2)
    · have q1 := h4 b' h1' h2' h3'
      have q2 := h4' b h1 h2 h3
      have : b = b' := by
        rcases Nat.lt_trichotomy b b' with q | q | q
        · have := q2.2 q; omega
        · exact q
        · have := q1.2 q; omega
      rw [e, e', this]
theorem Best.congr {av av' : Nat → Prop} {key key' : Nat → Int} {lo hi : Nat} {r : Int32} (h : Best av key lo hi r) (ha : ∀ b, b < hi → (av b ↔ av' b)) (hk : ∀ b, b < hi → av b → key b = key' b) : Best av' key' lo hi r := by
  rcases h with ⟨e, h⟩ | ⟨b, h1, h2, e, h3, h4⟩
  · exact .inl ⟨e, fun b q1 q2 q3 => h b q1 q2 ((ha b q2).mpr q3)⟩
  · refine .inr ⟨b, h1, h2, e, (ha b h2).mp h3, fun c q1 q2 q3 => ?_⟩
    have q3' := (ha c q2).mpr q3
    rw [← hk b h2 h3, ← hk c q2 q3']
    exact h4 c q1 q2 q3'
theorem near_loop {k o : Nat} {f : Nat → Int32} {B : Nat} (ho : o < 10) (hB : B ≤ 24) : ∀ n i (x3 x4 : Int32), i ≤ B → B - i < n →
    ((x3 = -6 ∧ ∀ b, b < i → zgiv f o b = -6) ∨ ∃ b0, b0 < i ∧ x3 = Int32.ofNat b0 ∧ x4 = zgiv f o b0 ∧ ¬ zgiv f o b0 = -6 ∧ ∀ b, b < i → ¬ zgiv f o b = -6 → (zgiv f o b0).toInt ≤ (zgiv f o b).toInt ∧ (b < b0 → (zgiv f o b0).toInt < (zgiv f o b).toInt)) →
    ∃ r, f_X1_nearestBlock_b20 k f (Int32.ofNat o) n (Int32.ofNat B) x3 x4 (Int32.ofNat i) = some r ∧ Best (fun b => ¬ zgiv f o b = -6) (fun b => (zgiv f o b).toInt) 0 B r := by
  intro n
  induction n with
  | zero => intro i _ _ _ h; omega
  | succ n ih =>
    intro i x3 x4 hi hn hI
    rw [f_X1_nearestBlock_b20]
    by_cases h : i < B
    · rw [if_neg (fun q => absurd ((n_le (by omega) (by omega)).mp q) (by omega)), s_giv ho (by omega)]
      simp only [f_X1_nearestBlock_b55]
      simp (disch := omega) only [zl_e, zb1_some, zb2_some, zb3_some, zb4_some, zb5_some, m_g, n_nat, n_suc]
      by_cases hq : zgiv f o i = -6
      · rw [if_pos hq]
        refine ih (i + 1) x3 x4 (by omega) (by omega) ?_
        rcases hI with ⟨e, hI⟩ | ⟨b0, h1, e1, e2, h2, h3⟩
        · refine .inl ⟨e, fun b hb => ?_⟩
          by_cases q : b = i
          · rw [q]; exact hq
          · exact hI b (by omega)
        · refine .inr ⟨b0, by omega, e1, e2, h2, fun b hb hg => h3 b ?_ hg⟩
          have : ¬ b = i := fun q => hg (by rw [q]; exact hq)
          omega
      · rw [if_neg hq]
        rcases hI with ⟨e, hI⟩ | ⟨b0, h1, e1, e2, h2, h3⟩
        · rw [if_pos e]
          refine ih (i + 1) _ _ (by omega) (by omega) (.inr ⟨i, by omega, rfl, rfl, hq, fun b hb hg => ?_⟩)
          have : b = i := by
            by_cases q : b = i
            · exact q
            · exact absurd (hI b (by omega)) hg
          subst this
          exact ⟨Int.le_refl _, fun q => absurd q (Nat.lt_irrefl _)⟩
        · rw [if_neg (by rw [e1]; exact n_neg6 (by omega))]
          by_cases hl : x4 ≤ zgiv f o i
          · rw [if_pos hl]
            refine ih (i + 1) x3 x4 (by omega) (by omega) (.inr ⟨b0, by omega, e1, e2, h2, fun b hb hg => ?_⟩)
            by_cases q : b = i
            · subst q
              rw [e2] at hl
              exact ⟨i_le.mp hl, fun q => by omega⟩
            · exact h3 b (by omega) hg
          · rw [if_neg hl]
            rw [e2, i_le] at hl
            refine ih (i + 1) _ _ (by omega) (by omega) (.inr ⟨i, by omega, rfl, rfl, hq, fun b hb hg => ?_⟩)
            by_cases q : b = i
            · subst q
              exact ⟨Int.le_refl _, fun q => absurd q (Nat.lt_irrefl _)⟩
            · have := h3 b (by omega) hg
              exact ⟨by omega, fun _ => by omega⟩
    · have : i = B := by omega
      subst this
      rw [if_pos ((n_le (by omega) (by omega)).mpr (Nat.le_refl _))]
      refine ⟨x3, rfl, ?_⟩
      rcases hI with ⟨e, hI⟩ | ⟨b0, h1, e1, e2, h2, h3⟩
      · exact .inl ⟨e, fun b _ hb => fun q => q (hI b hb)⟩
      · exact .inr ⟨b0, Nat.zero_le _, h1, e1, h2, fun b _ hb hg => h3 b hb hg⟩
theorem s_near {k o : Nat} {f : Nat → Int32} {B O : Nat} (c : CI f B O) (hk : 25 ≤ k) (ho : o < 10) : ∃ r, f_X1_nearestBlock k f (Int32.ofNat o) = some r ∧ Best (fun b => ¬ zgiv f o b = -6) (fun b => (zgiv f o b).toInt) 0 B r := by
  rw [f_X1_nearestBlock, s_cell6, zb1_some, c.f6]
  exact near_loop ho c.hB k 0 _ _ (by omega) (by have := c.hB; omega) (.inl ⟨rfl, fun b hb => by omega⟩)
theorem n_pred (i : Nat) : Int32.ofNat (i + 1) + (-1) = Int32.ofNat i := by
  rw [Int32.ofNat_add, Int32.add_assoc]
  show Int32.ofNat i + (1 + (-1)) = _
  rw [show (1 : Int32) + (-1) = 0 by decide, Int32.add_zero]
theorem mgiv_exc {ms : Nat → Int32} {o b : Nat} (h : ¬ mgiv ms o b = -6) : mexc ms o b = mgiv ms o b := by
  unfold mgiv at h ⊢
  by_cases q : ms (252 + 6 * o + 3) = 0 ∧ ¬ ms (12 + 10 * b + 4) = 3 ∧ ¬ ms (12 + 10 * b + 4) = 4 ∧ ms (12 + 10 * b + 7) = -6
  · rw [if_pos q]
  · rw [if_neg q] at h; exact absurd rfl h
theorem m_best_loop {k o : Nat} {ms : Nat → Int32} {B : Nat} (hk : 25 ≤ k) (ho : o < 10) (hB : B ≤ 24) : ∀ i n so (x2 : Int32), i ≤ B → i < n → Best (fun b => ¬ mgiv ms o b = -6) (fun b => (mgiv ms o b).toInt) i B x2 →
    ∃ r s1, f_X8_bestBlock_b38 k ms (Int32.ofNat o) n so x2 (Int32.ofNat i + (-1)) = some (r, s1) ∧ Best (fun b => ¬ mgiv ms o b = -6) (fun b => (mgiv ms o b).toInt) 0 B r := by
  intro i
  induction i with
  | zero =>
    intro n so x2 _ hn hI
    obtain ⟨n, rfl⟩ : ∃ m, n = m + 1 := ⟨n - 1, by omega⟩
    rw [f_X8_bestBlock_b38, if_pos (by decide)]
    exact ⟨x2, so, rfl, hI⟩
  | succ i ih =>
    intro n so x2 hi hn hI
    obtain ⟨n, rfl⟩ : ∃ m, n = m + 1 := ⟨n - 1, by omega⟩
    obtain ⟨s2, e2⟩ := m_giv (k := k) (ms := ms) (so := so) hk ho (show i < 24 by omega)
    rw [f_X8_bestBlock_b38, n_pred, if_neg (n_lt0 (by omega)), e2]
    simp (disch := omega) only [zl_e, zb1_some, zb2_some, zb3_some, zb4_some, zb5_some, m_g, n_nat, n_suc]
    have keep : ∀ (P : Prop), (mgiv ms o i = -6 ∨ ∃ b0, i + 1 ≤ b0 ∧ b0 < B ∧ x2 = Int32.ofNat b0 ∧ ¬ mgiv ms o b0 = -6 ∧ (mgiv ms o b0).toInt < (mgiv ms o i).toInt) → Best (fun b => ¬ mgiv ms o b = -6) (fun b => (mgiv ms o b).toInt) i B x2 := by
      intro _ hc
      rcases hI with ⟨e, hI⟩ | ⟨b0, h1, h2, e1, h3, h4⟩
      · refine .inl ⟨e, fun b q1 q2 q3 => ?_⟩
        by_cases q : b = i
        · subst q
          rcases hc with hc | ⟨b0, r1, r2, r3, r4, r5⟩
          · exact q3 hc
          · rw [e] at r3; exact absurd r3.symm (n_neg6 (by omega))
        · exact hI b (by omega) q2 q3
      · refine .inr ⟨b0, by omega, h2, e1, h3, fun b q1 q2 q3 => ?_⟩
        by_cases q : b = i
        · subst q
          rcases hc with hc | ⟨b1, r1, r2, r3, r4, r5⟩
          · exact absurd hc q3
          · rw [e1, n_inj (by omega) (by omega)] at r3
            subst r3
            exact ⟨Int.le_of_lt r5, fun _ => r5⟩
        · exact h4 b (by omega) q2 q3
    have take : ¬ mgiv ms o i = -6 → (x2 = -6 ∨ ∃ b0, i + 1 ≤ b0 ∧ b0 < B ∧ x2 = Int32.ofNat b0 ∧ (mgiv ms o i).toInt ≤ (mgiv ms o b0).toInt) → Best (fun b => ¬ mgiv ms o b = -6) (fun b => (mgiv ms o b).toInt) i B (Int32.ofNat i) := by
      intro hg hc
      refine .inr ⟨i, Nat.le_refl _, by omega, rfl, hg, fun b q1 q2 q3 => ⟨?_, fun q => by omega⟩⟩
      by_cases q : b = i
      · subst q; exact Int.le_refl _
      · rcases hI with ⟨e, hI⟩ | ⟨b0, h1, h2, e1, h3, h4⟩
        · exact absurd q3 (hI b (by omega) q2)
        · rcases hc with hc | ⟨b1, r1, r2, r3, r4⟩
          · rw [e1] at hc; exact absurd hc (n_neg6 (by omega))
          · rw [e1, n_inj (by omega) (by omega)] at r3
            subst r3
            have := (h4 b (by omega) q2 q3).1
            exact Int.le_trans r4 this
    by_cases hg : mgiv ms o i = -6
    · rw [if_pos hg, if_pos rfl]
      exact ih n s2 x2 (by omega) (by omega) (keep True (.inl hg))
    · rw [if_neg hg, if_neg n10]
      by_cases hx : x2 = -6
      · rw [if_pos hx]
        exact ih n s2 _ (by omega) (by omega) (take hg (.inl hx))
      · rw [if_neg hx]
        rcases hI with ⟨e, hI⟩ | ⟨b0, h1, h2, e1, h3, h4⟩
        · exact absurd e hx
        · obtain ⟨s3, e3⟩ := m_exc (k := k) (ms := ms) (so := s2) hk ho (show i < 24 by omega)
          obtain ⟨s4, e4⟩ := m_exc (k := k) (ms := ms) (so := s3) hk ho (show b0 < 24 by omega)
          rw [e3, zb2_some, e1, e4, zb2_some, mgiv_exc hg, mgiv_exc h3]
          by_cases hl : mgiv ms o b0 < mgiv ms o i
          · rw [if_pos hl]
            rw [← e1]
            exact ih n s4 _ (by omega) (by omega) (keep True (.inr ⟨b0, h1, h2, e1, h3, i_lt.mp hl⟩))
          · rw [if_neg hl]
            rw [i_lt] at hl
            exact ih n s4 _ (by omega) (by omega) (take hg (.inr ⟨b0, h1, h2, e1, by omega⟩))
theorem m_best {k o : Nat} {ms so : Nat → Int32} {B O : Nat} (c : MI ms B O) (hk : 25 ≤ k) (ho : o < 10) : ∃ r s1, f_X8_bestBlock_b38 k ms (Int32.ofNat o) k so (-6) (ms 5 - 1) = some (r, s1) ∧ Best (fun b => ¬ mgiv ms o b = -6) (fun b => (mgiv ms o b).toInt) 0 B r := by
  have hB := c.hB
  rw [c.m5, show Int32.ofNat B - 1 = Int32.ofNat B + (-1) from Int32.sub_eq_add_neg ..]
  exact m_best_loop hk ho hB B k so _ (Nat.le_refl _) (by omega) (.inl ⟨rfl, fun b h1 h2 => by omega⟩)
