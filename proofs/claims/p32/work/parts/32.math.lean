/-! KEEPING IT: sums, places, owners -/
theorem nsum_mono {w v : Nat → Nat} {P Q : Nat → Bool} : ∀ n, (∀ i, i < n → P i = true → Q i = true ∧ w i ≤ v i) → nsum w P n ≤ nsum v Q n := by
  intro n
  induction n with
  | zero => intro _; exact Nat.le_refl _
  | succ n ih =>
    intro h
    have := ih (fun i hi => h i (by omega))
    rw [nsum, nsum]
    by_cases hp : P n = true
    · obtain ⟨q1, q2⟩ := h n (by omega) hp
      rw [if_pos hp, if_pos q1]
      omega
    · rw [if_neg hp]
      split <;> omega
theorem nsum_chg {w v : Nat → Nat} {P Q : Nat → Bool} {b0 : Nat} : ∀ n, b0 < n → (∀ b, b < n → b ≠ b0 → P b = Q b ∧ w b = v b) → nsum v Q n + (if P b0 then w b0 else 0) = nsum w P n + (if Q b0 then v b0 else 0) := by
  intro n
  induction n with
  | zero => intro h; omega
  | succ n ih =>
    intro h hc
    rw [nsum, nsum]
    by_cases q : b0 = n
    · subst q
      have e : nsum v Q b0 = nsum w P b0 := (nsum_congr (fun i hi => (hc i (by omega) (by omega)).1) (fun i hi _ => (hc i (by omega) (by omega)).2)).symm
      rw [e]
      cases hP : P b0 <;> cases hQ : Q b0 <;> simp <;> omega
    · obtain ⟨c1, c2⟩ := hc n (by omega) (fun r => q r.symm)
      have := ih (by omega) (fun b hb hne => hc b (by omega) hne)
      rw [← c1, ← c2]
      cases hP : P n <;> simp <;> omega
/-- a block's where and place -/
theorem InvS.place {f f' : Nat → Int32} {t B O b v : Nat} (R : Inv f t B O) (hb : b < B) (hf : ∀ i, i ≠ 8 + b * 11 + 5 → i ≠ 8 + b * 11 + 9 → f' i = f i)
    (h5 : f (8 + b * 11 + 5) = 0 ∨ f (8 + b * 11 + 5) = 1 ∨ f (8 + b * 11 + 5) = 2) (hv : v = 0 ∨ v = 1 ∨ v = 2 ∨ v = 4) (e5 : f' (8 + b * 11 + 5) = Int32.ofNat v)
    (s1 : v = 2 → ∃ s, s < 15 ∧ f' (8 + b * 11 + 9) = Int32.ofNat s) (s2 : v ≠ 2 → f' (8 + b * 11 + 9) = -6)
    (hu : ∀ c, c < B → c ≠ b → ¬ f' (8 + b * 11 + 9) = -6 → ¬ f (8 + c * 11 + 9) = f' (8 + b * 11 + 9)) (hr : zcnt (fun b => decide (f' (8 + b * 11 + 5) = 1)) B ≤ 4) : InvS f' t B O (if v = 4 then zw f b else 0) := by
  have hB := R.c.hB
  have hO := R.c.hO
  have n34 : ¬ f (8 + b * 11 + 5) = 3 ∧ ¬ f (8 + b * 11 + 5) = 4 := by rcases h5 with q | q | q <;> rw [q] <;> decide
  have n3 : ¬ f' (8 + b * 11 + 5) = 3 := by rcases hv with q | q | q | q <;> rw [e5, q] <;> decide
  have v2 : f' (8 + b * 11 + 5) = 2 ↔ v = 2 := by rw [e5]; exact n_inj (b := 2) (by omega) (by omega)
  have v4 : f' (8 + b * 11 + 5) = 4 ↔ v = 4 := by rw [e5]; exact n_inj (b := 4) (by omega) (by omega)
  refine ⟨⟨hB, hO, by rw [hf 6 (by omega) (by omega)]; exact R.c.f6, by rw [hf 7 (by omega) (by omega)]; exact R.c.f7⟩, R.g.same (Nat.le_refl _) (fun i _ _ => hf i (by omega) (by omega)), R.lm.same (fun i _ _ => hf i (by omega) (by omega)), fun c hc => ?_, ?_, fun p hp => (R.ord p hp).same (Nat.le_refl _) (fun w hw => hf _ (by omega) (by omega)), ?_⟩
  · by_cases e : c = b
    · subst e
      obtain ⟨h3, h4, h5a, h6, h7, h8, h9, h10, h11, h12⟩ := R.blk c hc
      have ff : ∀ w, w < 11 → w ≠ 5 → w ≠ 9 → f' (8 + c * 11 + w) = f (8 + c * 11 + w) := fun w w1 w2 w3 => hf _ (by omega) (by omega)
      refine ⟨fun a ha => ?_, ?_, ?_, ⟨v, by omega, e5⟩, ?_, ?_, fun q => s1 (v2.mp q), fun q => s2 (fun r => q (v2.mpr r)), ?_, ?_⟩
      · rw [ff a (by omega) (by omega) (by omega)]; exact h3 a ha
      · rw [ff 3 (by omega) (by omega) (by omega)]; exact h4
      · rw [ff 0 (by omega) (by omega) (by omega), ff 1 (by omega) (by omega) (by omega), ff 2 (by omega) (by omega) (by omega), ff 3 (by omega) (by omega) (by omega), ff 4 (by omega) (by omega) (by omega)]; exact h5a
      · rw [ff 6 (by omega) (by omega) (by omega)]; exact h7
      · rw [ff 7 (by omega) (by omega) (by omega)]; exact h8
      · rw [ff 8 (by omega) (by omega) (by omega), if_neg n3]
        rw [if_neg n34.1] at h11
        rcases h11 with q | ⟨o, o1, o2, o3, o4⟩
        · exact .inl q
        · exact .inr ⟨o, o1, o2, by rw [hf _ (by omega) (by omega)]; exact o3, by rw [hf _ (by omega) (by omega)]; exact o4⟩
      · rw [ff 10 (by omega) (by omega) (by omega)]; exact h12
    · exact (R.blk c hc).same (fun w hw => hf _ (by omega) (by omega)) (fun o o1 o2 o3 => ⟨o1, hf _ (by omega) (by omega), hf _ (by omega) (by omega)⟩)
  · intro c hc d hd e n
    have e : f' (8 + c * 11 + 9) = f' (8 + d * 11 + 9) := e
    have n : ¬ f' (8 + c * 11 + 9) = -6 := n
    by_cases c1 : c = b
    · subst c1
      by_cases d1 : d = c
      · exact d1.symm
      · exfalso
        refine hu d hd d1 n ?_
        rw [← hf (8 + d * 11 + 9) (by omega) (by omega)]
        exact e.symm
    · by_cases d1 : d = b
      · subst d1
        exfalso
        refine hu c hc c1 (by rw [← e]; exact n) ?_
        rw [← hf (8 + c * 11 + 9) (by omega) (by omega)]
        exact e
      · rw [hf (8 + c * 11 + 9) (by omega) (by omega)] at e n
        rw [hf (8 + d * 11 + 9) (by omega) (by omega)] at e
        exact R.uq c hc d hd e n
  · obtain ⟨t1, t2⟩ := R.sums
    have zz : ∀ c, c < B → zw f' c = zw f c := fun c hc => by unfold zw; rw [hf _ (by omega) (by omega)]
    have x1 := nsum_chg (w := zw f) (v := zw f') (P := fun b => !decide (f (8 + b * 11 + 5) = 4)) (Q := fun b => !decide (f' (8 + b * 11 + 5) = 4)) (b0 := b) B hb (fun c hc hne => ⟨by rw [hf (8 + c * 11 + 5) (by omega) (by omega)], (zz c hc).symm⟩)
    have x2 : nsum (zw f') (fun b => decide (f' (8 + b * 11 + 10) = -6)) B = nsum (zw f) (fun b => decide (f (8 + b * 11 + 10) = -6)) B := nsum_congr (fun c hc => by rw [hf _ (by omega) (by omega)]) (fun c hc _ => zz c hc)
    rw [zz b hb] at x1
    simp only [n34.2, v4, decide_false, Bool.not_false, if_true] at x1
    refine ⟨?_, hr⟩
    rw [x2]
    by_cases q : v = 4
    · simp only [q, decide_true, Bool.not_true, Bool.false_eq_true, if_false, if_true] at x1 ⊢
      omega
    · simp only [q, decide_false, Bool.not_false, if_true, if_false] at x1 ⊢
      omega
/-- an order and its block -/
theorem InvS.own {f f' : Nat → Int32} {t B O o b : Nat} (R : Inv f t B O) (ho : o < O) (hb : b < B)
    (hf : ∀ i, i ≠ 272 + o * 6 + 3 → i ≠ 272 + o * 6 + 4 → i ≠ 8 + b * 11 + 8 → f' i = f i)
    (h3 : f (272 + o * 6 + 3) = 0 ∨ f (272 + o * 6 + 3) = 1)
    (hv : (¬ f (8 + b * 11 + 5) = 3 ∧ f' (272 + o * 6 + 3) = 1 ∧ f' (272 + o * 6 + 4) = Int32.ofNat b ∧ f' (8 + b * 11 + 8) = Int32.ofNat o) ∨ (f' (272 + o * 6 + 3) = 0 ∧ f' (272 + o * 6 + 4) = -6 ∧ f' (8 + b * 11 + 8) = -6))
    (hx : ∀ c, c < B → c ≠ b → f (8 + c * 11 + 8) = Int32.ofNat o → ¬ f (272 + o * 6 + 4) = Int32.ofNat c ∨ ¬ f (272 + o * 6 + 3) = if f (8 + c * 11 + 5) = 3 then 2 else 1) : Inv f' t B O := by
  have hB := R.c.hB
  have hO := R.c.hO
  refine ⟨⟨hB, hO, by rw [hf 6 (by omega) (by omega) (by omega)]; exact R.c.f6, by rw [hf 7 (by omega) (by omega) (by omega)]; exact R.c.f7⟩, R.g.same (Nat.le_refl _) (fun i _ _ => hf i (by omega) (by omega) (by omega)), R.lm.same (fun i _ _ => hf i (by omega) (by omega) (by omega)), fun c hc => ?_, R.uq.same (fun c hc => hf _ (by omega) (by omega) (by omega)), fun p hp => ?_, R.sums.same (fun c hc => ⟨hf _ (by omega) (by omega) (by omega), by rw [hf _ (by omega) (by omega) (by omega)], hf _ (by omega) (by omega) (by omega)⟩) (R.sums.roof (fun c hc => hf _ (by omega) (by omega) (by omega)))⟩
  · obtain ⟨h3a, h4, h5a, h6, h7, h8, h9, h10, h11, h12⟩ := R.blk c hc
    by_cases e : c = b
    · subst e
      have ff : ∀ w, w < 11 → w ≠ 8 → f' (8 + c * 11 + w) = f (8 + c * 11 + w) := fun w w1 w2 => hf _ (by omega) (by omega) (by omega)
      refine ⟨fun a ha => ?_, ?_, ?_, ?_, ?_, ?_, ?_, ?_, ?_, ?_⟩
      · rw [ff a (by omega) (by omega)]; exact h3a a ha
      · rw [ff 3 (by omega) (by omega)]; exact h4
      · rw [ff 0 (by omega) (by omega), ff 1 (by omega) (by omega), ff 2 (by omega) (by omega), ff 3 (by omega) (by omega), ff 4 (by omega) (by omega)]; exact h5a
      · rw [ff 5 (by omega) (by omega)]; exact h6
      · rw [ff 6 (by omega) (by omega)]; exact h7
      · rw [ff 7 (by omega) (by omega)]; exact h8
      · rw [ff 5 (by omega) (by omega), ff 9 (by omega) (by omega)]; exact h9
      · rw [ff 5 (by omega) (by omega), ff 9 (by omega) (by omega)]; exact h10
      · rw [ff 5 (by omega) (by omega)]
        rcases hv with ⟨v0, v1, v2, v3⟩ | ⟨v1, v2, v3⟩
        · rw [if_neg v0]
          exact .inr ⟨o, ho, v3, v2, v1⟩
        · exact .inl v3
      · rw [ff 10 (by omega) (by omega)]; exact h12
    · refine (R.blk c hc).same (fun w hw => hf _ (by omega) (by omega) (by omega)) (fun p p1 p2 p3 => ?_)
      have : p ≠ o := fun q => by
        subst q
        rcases h11 with r | ⟨o', a1, a2, a3, a4⟩
        · rw [r] at p2; exact absurd p2.symm (n_neg6 (by omega))
        · rw [p2] at a2
          have := (n_inj (by omega) (by omega)).mp a2
          subst this
          rcases hx c hc e p2 with r | r
          · exact r p3
          · exact r a4
      exact ⟨p1, hf _ (by omega) (by omega) (by omega), hf _ (by omega) (by omega) (by omega)⟩
  · by_cases e : p = o
    · subst e
      obtain ⟨g1, g2⟩ := R.ord p hp
      unfold IQ
      rw [hf (272 + p * 6 + 0) (by omega) (by omega) (by omega), hf (272 + p * 6 + 1) (by omega) (by omega) (by omega), hf (272 + p * 6 + 2) (by omega) (by omega) (by omega), hf (272 + p * 6 + 5) (by omega) (by omega) (by omega)]
      refine ⟨g1, ?_⟩
      have g5 : f (272 + p * 6 + 5) = -6 := by
        rcases g2 with q | q | q
        · exact q.2.2
        · exact q.2.2
        · rcases h3 with r | r <;> rw [q.1] at r <;> exact absurd r (by decide)
      rcases hv with ⟨v0, v1, v2, v3⟩ | ⟨v1, v2, v3⟩
      · exact .inr (.inl ⟨v1, ⟨b, hb, v2⟩, g5⟩)
      · exact .inl ⟨v1, v2, g5⟩
    · exact (R.ord p hp).same (Nat.le_refl _) (fun w hw => hf _ (by omega) (by omega) (by omega))
