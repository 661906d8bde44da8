/-! THE CUT -/
theorem m_cl {k B O : Nat} {ms : Nat → Int32} {p1 p2 p3 x6 : Int32} (hk : 25 ≤ k) (m : MI ms (B + 2) O) (z0 : ms (12 + 10 * B + 4) = 0) (z1 : ms (12 + 10 * (B + 1) + 4) = 0) : ∃ M, f_X8_cuts_b144 k p1 p2 p3 k ms (Int32.ofNat B) x6 (Int32.ofNat B) = some (Int32.ofNat B, M) ∧ (∀ i, i ≠ 12 + 10 * B + 4 → i ≠ 12 + 10 * (B + 1) + 4 → M i = ms i) ∧
    M (12 + 10 * B + 4) = (if ¬ x6 = 0 ∧ zcnt (fun b => decide (ms (12 + 10 * b + 4) = 1)) B < 4 then 1 else 0) ∧
    M (12 + 10 * (B + 1) + 4) = (if ¬ x6 = 0 ∧ zcnt (fun b => decide (ms (12 + 10 * b + 4) = 1)) B + (if ¬ x6 = 0 ∧ zcnt (fun b => decide (ms (12 + 10 * b + 4) = 1)) B < 4 then 1 else 0) < 4 then 1 else 0) := by
  have hB := m.hB
  have st : ∀ (n j : Nat) (N : Nat → Int32), j < B + 2 → MI N (B + 2) O → f_X8_cuts_b144 k p1 p2 p3 (n + 1) N (Int32.ofNat B) x6 (Int32.ofNat j) = f_X8_cuts_b144 k p1 p2 p3 n (upd N (12 + 10 * j + 4) (if ¬ x6 = 0 ∧ zcnt (fun b => decide (N (12 + 10 * b + 4) = 1)) (B + 2) < 4 then 1 else 0)) (Int32.ofNat B) x6 (Int32.ofNat (j + 1)) := by
    intro n j N hj mN
    have zl := zcnt_le (P := fun b => decide (N (12 + 10 * b + 4) = 1)) (B + 2)
    rw [f_X8_cuts_b144, zl_e, show Int32.ofNat B + 2 = Int32.ofNat (B + 2) from n_add B 2, if_neg (fun t => absurd ((n_le (by omega) (by omega)).mp t) (by omega)), m_at4, zb1_some]
    by_cases q0 : x6 = 0
    · rw [if_pos q0, m_wr (by omega) (by omega), zl_e, n_suc, if_neg (fun t => t.1 q0)]
    · rw [if_neg q0, m_under mN hk, zb1_some]
      by_cases q4 : zcnt (fun b => decide (N (12 + 10 * b + 4) = 1)) (B + 2) < 4
      · rw [if_neg (fun t => absurd ((n_l4 (by omega)).mp t) (by omega)), m_wr (by omega) (by omega), zl_e, n_suc, if_pos ⟨q0, q4⟩]
      · rw [if_pos ((n_l4 (by omega)).mpr (by omega)), m_wr (by omega) (by omega), zl_e, n_suc, if_neg (fun t => q4 t.2)]
  have c0 : zcnt (fun b => decide (ms (12 + 10 * b + 4) = 1)) (B + 2) = zcnt (fun b => decide (ms (12 + 10 * b + 4) = 1)) B := by
    rw [zcnt, zcnt, z0, z1]
    rfl
  obtain ⟨v, hv⟩ : ∃ v : Int32, v = (if ¬ x6 = 0 ∧ zcnt (fun b => decide (ms (12 + 10 * b + 4) = 1)) B < 4 then 1 else 0) := ⟨_, rfl⟩
  have c1 : zcnt (fun b => decide (upd ms (12 + 10 * B + 4) v (12 + 10 * b + 4) = 1)) (B + 2) = zcnt (fun b => decide (ms (12 + 10 * b + 4) = 1)) B + (if ¬ x6 = 0 ∧ zcnt (fun b => decide (ms (12 + 10 * b + 4) = 1)) B < 4 then 1 else 0) := by
    rw [zcnt, zcnt, upd_ne (by omega), z1, upd_at, zcnt_congr (P := fun b => decide (upd ms (12 + 10 * B + 4) v (12 + 10 * b + 4) = 1)) (Q := fun b => decide (ms (12 + 10 * b + 4) = 1)) (fun i hi => by rw [upd_ne (by omega)]), hv]
    by_cases q : ¬ x6 = 0 ∧ zcnt (fun b => decide (ms (12 + 10 * b + 4) = 1)) B < 4
    · simp only [if_pos q]
      rfl
    · simp only [if_neg q]
      rfl
  obtain ⟨n, hn⟩ : ∃ n, k = n + 3 := ⟨k - 3, by omega⟩
  have m1 : MI (upd ms (12 + 10 * B + 4) v) (B + 2) O := ⟨m.hB, m.hO, by rw [upd_ne (by omega)]; exact m.m5, by rw [upd_ne (by omega)]; exact m.m6⟩
  have e : ∀ j, f_X8_cuts_b144 k p1 p2 p3 (j + 3) ms (Int32.ofNat B) x6 (Int32.ofNat B) = some (Int32.ofNat B, upd (upd ms (12 + 10 * B + 4) v) (12 + 10 * (B + 1) + 4) (if ¬ x6 = 0 ∧ zcnt (fun b => decide (ms (12 + 10 * b + 4) = 1)) B + (if ¬ x6 = 0 ∧ zcnt (fun b => decide (ms (12 + 10 * b + 4) = 1)) B < 4 then 1 else 0) < 4 then 1 else 0)) := by
    intro j
    rw [st _ B _ (by omega) m, c0, ← hv, st _ (B + 1) _ (by omega) m1, c1, f_X8_cuts_b144, zl_e, show Int32.ofNat B + 2 = Int32.ofNat (B + 2) from n_add B 2, if_pos ((n_le (by omega) (by omega)).mpr (Nat.le_refl _))]
  have := e n
  rw [← hn] at this
  refine ⟨_, this, fun i i1 i2 => by rw [upd_ne i2, upd_ne i1], by rw [upd_ne (by omega), upd_at, hv], by rw [upd_at]⟩
/-- the block that is cut -/
theorem Rel.cutB {f ms f' ms' : Nat → Int32} {B O b : Nat} (R : Rel f ms B O) (hb : b < B) (hf : ∀ i, i ≠ 8 + b * 11 + 5 → f' i = f i) (hm : ∀ i, i ≠ 12 + 10 * b + 4 → i ≠ 9 → ms' i = ms i) (e5 : f' (8 + b * 11 + 5) = 4) (m4 : ms' (12 + 10 * b + 4) = 4) (m9 : ms' 9 = ms 9 + f (8 + b * 11 + 4)) (h5 : f (8 + b * 11 + 5) = 0 ∨ f (8 + b * 11 + 5) = 1) (h8 : f (8 + b * 11 + 8) = -6) : Rel f' ms' B O := by
  have hB := R.c.hB
  have hO := R.c.hO
  have n3 : ¬ f (8 + b * 11 + 5) = 3 ∧ ¬ f (8 + b * 11 + 5) = 4 ∧ ¬ f (8 + b * 11 + 5) = 2 := by rcases h5 with q | q <;> rw [q] <;> decide
  refine ⟨⟨hB, hO, by rw [hf 6 (by omega)]; exact R.c.f6, by rw [hf 7 (by omega)]; exact R.c.f7⟩, ⟨hB, hO, by rw [hm 5 (by omega) (by omega)]; exact R.m.m5, by rw [hm 6 (by omega) (by omega)]; exact R.m.m6⟩, R.gen.same (fun i _ => hf i (by omega)) (fun i _ => hm i (by omega) (by omega)), R.ll.same (fun i _ _ => hf i (by omega)) (fun i _ _ => hm i (by omega) (by omega)), R.lm.same (fun i _ _ => hf i (by omega)), fun c hc => ?_, R.uq.same (fun c hc => hf _ (by omega)), fun p hp => (R.ord p hp).same (Nat.le_refl _) (fun w hw => hf _ (by omega)) (fun w hw => hm _ (by omega) (by omega)), ?_⟩
  · by_cases e : c = b
    · subst e
      obtain ⟨h1, h2, h3, h4, h5a, h6, h7, h8a, h9, h10⟩ := R.blk c hc
      have m : mw ms' c = mw ms c := by
        unfold mw
        rw [hm _ (by omega) (by omega), hm _ (by omega) (by omega), hm _ (by omega) (by omega), hm _ (by omega) (by omega)]
      have ff : ∀ w, w < 11 → w ≠ 5 → f' (8 + c * 11 + w) = f (8 + c * 11 + w) := fun w w1 w2 => hf _ (by omega)
      refine ⟨fun w hw => ?_, fun w w1 w2 => ?_, fun a ha => ?_, ?_, ?_, ?_, ?_, fun q => ?_, fun q => ?_, ?_⟩
      · rw [ff w (by omega) (by omega), hm _ (by omega) (by omega)]; exact h1 w hw
      · by_cases q : w = 4
        · subst q; rw [m4]; exact e5
        · rw [ff (w + 1) (by omega) (by omega), hm _ (by omega) (by omega)]; exact h2 w w1 w2
      · rw [ff a (by omega) (by omega)]; exact h3 a ha
      · rw [ff 3 (by omega) (by omega)]; exact h4
      · rw [ff 4 (by omega) (by omega), m]; exact h5a
      · rw [ff 6 (by omega) (by omega)]; exact h6
      · rw [ff 7 (by omega) (by omega)]; exact h7
      · rw [e5] at q; exact absurd q (by decide)
      · rw [ff 9 (by omega) (by omega)]; exact h9 n3.2.2
      · rw [ff 8 (by omega) (by omega)]
        exact fun q _ => absurd h8 q
    · exact (R.blk c hc).same (fun w hw => hf _ (by omega)) (fun w hw => hm _ (by omega) (by omega)) (fun o o1 o2 o3 o4 => ⟨o1, by rw [hf _ (by omega)]; exact o3, by rw [hf _ (by omega)]; exact o4⟩)
  · obtain ⟨t1, t2, t3, t4, t5⟩ := R.sums
    have w4 : ∀ c, c < B → f' (8 + c * 11 + 4) = f (8 + c * 11 + 4) := fun c hc => hf _ (by omega)
    have x1 : zsum (fun b => f' (8 + b * 11 + 4)) (fun b => decide (f' (8 + b * 11 + 10) = -6)) B = zsum (fun b => f (8 + b * 11 + 4)) (fun b => decide (f (8 + b * 11 + 10) = -6)) B := zsum_congr (fun c hc => by rw [hf _ (by omega)]) (fun c hc _ => w4 c hc)
    have x2 := zsum_chg (w := fun b => f (8 + b * 11 + 4)) (v := fun b => f' (8 + b * 11 + 4)) (P := fun b => !decide (f (8 + b * 11 + 5) = 4)) (Q := fun b => !decide (f' (8 + b * 11 + 5) = 4)) (b0 := b) B hb (fun c hc e => ⟨by rw [hf _ (by omega)], (w4 c hc).symm⟩)
    have x3 : zsum (fun b => f' (8 + b * 11 + 4)) (fun b => decide (f' (8 + b * 11 + 5) = 3)) B = zsum (fun b => f (8 + b * 11 + 4)) (fun b => decide (f (8 + b * 11 + 5) = 3)) B := zsum_congr (fun c hc => by
      by_cases e : c = b
      · subst e; rw [e5]; simp [n3.1]
      · rw [hf _ (by omega)]) (fun c hc _ => w4 c hc)
    have x4 : zsum (fun b => f' (272 + b * 6 + 5)) (fun b => decide (f' (272 + b * 6 + 3) = 2)) O = zsum (fun b => f (272 + b * 6 + 5)) (fun b => decide (f (272 + b * 6 + 3) = 2)) O := zsum_congr (fun c hc => by rw [hf _ (by omega)]) (fun c hc _ => hf _ (by omega))
    have x5 := zcnt_chg (P := fun b => decide (f (8 + b * 11 + 5) = 1)) (Q := fun b => decide (f' (8 + b * 11 + 5) = 1)) (b0 := b) B hb (fun c hc e => by rw [hf _ (by omega)])
    have p1 : (!decide (f (8 + b * 11 + 5) = 4)) = true := by simp [n3.2.1]
    have p2 : (!decide (f' (8 + b * 11 + 5) = 4)) = false := by simp [e5]
    rw [p1, p2] at x2
    simp only [if_true, Bool.false_eq_true, if_false, Int32.add_zero] at x2
    unfold Sums
    rw [x1, x2, x3, x4, m9, t2, hm 8 (by omega) (by omega), hm 10 (by omega) (by omega), hm 11 (by omega) (by omega)]
    refine ⟨t1, ?_, t3, t4, ?_⟩
    · generalize zsum (fun b => f (8 + b * 11 + 4)) (fun b => decide (f (8 + b * 11 + 10) = -6)) B = X
      generalize zsum (fun b => f (8 + b * 11 + 4)) (fun b => !decide (f (8 + b * 11 + 5) = 4)) B = Y
      generalize f (8 + b * 11 + 4) = Z
      rw [Int32.sub_eq_add_neg, Int32.sub_eq_add_neg, Int32.sub_eq_add_neg, Int32.neg_add, Int32.sub_eq_add_neg, Int32.neg_neg, Int32.add_assoc]
    · have : decide (f' (8 + b * 11 + 5) = 1) = false := by simp [e5]
      rw [this] at x5
      simp at x5
      split at x5 <;> omega
