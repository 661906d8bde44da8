/-! NIGHTS: the relation -/
theorem zwet_n {w : Int32} {n : Nat} (h : n ≤ 3) : ∃ m, m ≤ 3 ∧ zwet w (Int32.ofNat n) = Int32.ofNat m := by
  unfold zwet
  by_cases q : ¬ Int32.ofNat n ≤ 0 ∧ ¬ w = 3 ∧ ¬ w = 4
  · rw [if_pos q]
    have : 1 ≤ n := by
      by_cases e : n = 0
      · subst e; exact absurd (by decide) q.1
      · omega
    exact ⟨n - 1, by omega, n_sub (b := 1) this⟩
  · rw [if_neg q]; exact ⟨n, h, rfl⟩
theorem Rel.night {f ms F M : Nat → Int32} {B O : Nat} {P : Nat → Bool} (R : Rel f ms B O) (hf : ∀ x, x ≠ 4 → x ≠ 5 → (∀ b, b < B → x ≠ 8 + b * 11 + 6 ∧ x ≠ 8 + b * 11 + 7) → F x = f x) (hm : ∀ x, x ≠ 4 → x ≠ 7 → (∀ b, b < B → x ≠ 12 + 10 * b + 5 ∧ x ≠ 12 + 10 * b + 6) → M x = ms x)
    (e4 : F 4 = M 7) (e5 : F 5 = M 4) (h5 : 0 ≤ (F 5).toInt ∧ (F 5).toInt ≤ 999) (fb : ∀ b, b < B → F (8 + b * 11 + 7) = (if P b = true then 1 else f (8 + b * 11 + 7)) ∧ F (8 + b * 11 + 6) = zwet (f (8 + b * 11 + 5)) (f (8 + b * 11 + 6)))
    (mb : ∀ b, b < B → M (12 + 10 * b + 6) = (if P b = true then 1 else ms (12 + 10 * b + 6)) ∧ M (12 + 10 * b + 5) = zwet (ms (12 + 10 * b + 4)) (ms (12 + 10 * b + 5))) : Rel F M B O := by
  have hB := R.c.hB
  have hO := R.c.hO
  have ff : ∀ c w, c < B → w < 11 → w ≠ 6 → w ≠ 7 → F (8 + c * 11 + w) = f (8 + c * 11 + w) := fun c w hc hw h6 h7 => hf _ (by omega) (by omega) (fun b hb => by omega)
  have fm : ∀ c w, c < B → w < 10 → w ≠ 5 → w ≠ 6 → M (12 + 10 * c + w) = ms (12 + 10 * c + w) := fun c w hc hw h6 h7 => hm _ (by omega) (by omega) (fun b hb => by omega)
  have fo : ∀ o w, o < O → w < 6 → F (272 + o * 6 + w) = f (272 + o * 6 + w) := fun o w ho hw => hf _ (by omega) (by omega) (fun b hb => by omega)
  have mo : ∀ o w, o < O → w < 6 → M (252 + 6 * o + w) = ms (252 + 6 * o + w) := fun o w ho hw => hm _ (by omega) (by omega) (fun b hb => by omega)
  have fl : ∀ i, i < 4 → F i = f i := fun i hi => hf i (by omega) (by omega) (fun b hb => by omega)
  have ml : ∀ i, i < 4 → M i = ms i := fun i hi => hm i (by omega) (by omega) (fun b hb => by omega)
  refine ⟨⟨hB, hO, by rw [hf 6 (by omega) (by omega) (fun b hb => by omega)]; exact R.c.f6, by rw [hf 7 (by omega) (by omega) (fun b hb => by omega)]; exact R.c.f7⟩, ⟨hB, hO, by rw [hm 5 (by omega) (by omega) (fun b hb => by omega)]; exact R.m.m5, by rw [hm 6 (by omega) (by omega) (fun b hb => by omega)]; exact R.m.m6⟩, ?_, R.ll.same (fun i _ _ => hf i (by omega) (by omega) (fun b hb => by omega)) (fun i _ _ => hm i (by omega) (by omega) (fun b hb => by omega)), R.lm.same (fun i _ _ => hf i (by omega) (by omega) (fun b hb => by omega)), fun c hc => ?_, R.uq.same (fun c hc => ff c 9 hc (by omega) (by omega) (by omega)), fun p hp => (R.ord p hp).same (Nat.le_refl _) (fun w hw => fo p w hp hw) (fun w hw => mo p w hp hw), ?_⟩
  · have g := R.gen
    unfold Gen at *
    rw [fl 0 (by omega), fl 1 (by omega), fl 2 (by omega), fl 3 (by omega), ml 0 (by omega), ml 1 (by omega), ml 2 (by omega), ml 3 (by omega)]
    exact ⟨⟨g.1.1, g.1.2.1, g.1.2.2.1, g.1.2.2.2.1, e4, e5⟩, g.2.1, g.2.2.1, g.2.2.2.1, g.2.2.2.2.1, h5⟩
  · obtain ⟨h1, h2, h3, h4, h5a, ⟨n, n1, n2⟩, h7, h8, h9, h10⟩ := R.blk c hc
    obtain ⟨b7, b6⟩ := fb c hc
    obtain ⟨m6, m5⟩ := mb c hc
    have a5 : f (8 + c * 11 + 6) = ms (12 + 10 * c + 5) := h2 5 (by omega) (by omega)
    have a6 : f (8 + c * 11 + 7) = ms (12 + 10 * c + 6) := h2 6 (by omega) (by omega)
    have a4 : f (8 + c * 11 + 5) = ms (12 + 10 * c + 4) := h2 4 (by omega) (by omega)
    have m : mw M c = mw ms c := by
      unfold mw
      rw [fm c 0 hc (by omega) (by omega) (by omega), fm c 1 hc (by omega) (by omega) (by omega), fm c 2 hc (by omega) (by omega) (by omega), fm c 3 hc (by omega) (by omega) (by omega)]
    refine ⟨fun w hw => ?_, fun w w1 w2 => ?_, fun a ha => ?_, ?_, ?_, ?_, ?_, ?_, ?_, ?_⟩
    · rw [ff c w hc (by omega) (by omega) (by omega), fm c w hc (by omega) (by omega) (by omega)]; exact h1 w hw
    · by_cases q5 : w = 5
      · subst q5; rw [m5, ← a4, ← a5]; exact b6
      · by_cases q6 : w = 6
        · subst q6; rw [m6, ← a6]; exact b7
        · rw [ff c (w + 1) hc (by omega) (by omega) (by omega), fm c w hc (by omega) (by omega) (by omega)]; exact h2 w w1 w2
    · rw [ff c a hc (by omega) (by omega) (by omega)]; exact h3 a ha
    · rw [ff c 3 hc (by omega) (by omega) (by omega)]; exact h4
    · rw [ff c 4 hc (by omega) (by omega) (by omega), m]; exact h5a
    · rw [b6, n2]; exact zwet_n n1
    · rw [b7]
      by_cases q : P c = true
      · rw [if_pos q]; exact .inr rfl
      · rw [if_neg q]; exact h7
    · rw [ff c 5 hc (by omega) (by omega) (by omega), ff c 9 hc (by omega) (by omega) (by omega)]; exact h8
    · rw [ff c 5 hc (by omega) (by omega) (by omega), ff c 9 hc (by omega) (by omega) (by omega)]; exact h9
    · rw [ff c 5 hc (by omega) (by omega) (by omega), ff c 8 hc (by omega) (by omega) (by omega)]
      intro q1 q2
      obtain ⟨o, o1, o2, o3, o4⟩ := h10 q1 q2
      exact ⟨o, o1, o2, by rw [fo o 3 o1 (by omega)]; exact o3, by rw [fo o 4 o1 (by omega)]; exact o4⟩
  · exact R.sums.same (hm 8 (by omega) (by omega) (fun b hb => by omega)) (hm 9 (by omega) (by omega) (fun b hb => by omega)) (hm 10 (by omega) (by omega) (fun b hb => by omega)) (hm 11 (by omega) (by omega) (fun b hb => by omega)) (fun c hc => ⟨ff c 4 hc (by omega) (by omega) (by omega), ff c 5 hc (by omega) (by omega) (by omega), ff c 10 hc (by omega) (by omega) (by omega)⟩) (fun o ho => ⟨fo o 5 ho (by omega), fo o 3 ho (by omega)⟩)
