/-! THE CUT, BOTH SIDES -/
/-- one piece: the fields that both sides write -/
theorem Blk.piece {f ms F M : Nat → Int32} {O B b a v : Nat} {w : Int32} (h : Blk f ms O b) (ha : a < 3) (hv : 1 ≤ v ∧ v ≤ 300) (hw : w = 0 ∨ w = 1)
    (F0 : F (8 + B * 11 + 0) = (if a = 0 then Int32.ofNat v else f (8 + b * 11 + 0))) (F1 : F (8 + B * 11 + 1) = (if a = 1 then Int32.ofNat v else f (8 + b * 11 + 1))) (F2 : F (8 + B * 11 + 2) = (if a = 2 then Int32.ofNat v else f (8 + b * 11 + 2))) (F3 : F (8 + B * 11 + 3) = f (8 + b * 11 + 3))
    (F4 : F (8 + B * 11 + 4) = (if a = 0 then Int32.ofNat v else f (8 + b * 11 + 0)) * (if a = 1 then Int32.ofNat v else f (8 + b * 11 + 1)) * (if a = 2 then Int32.ofNat v else f (8 + b * 11 + 2)) * f (8 + b * 11 + 3) / 10000) (F5 : F (8 + B * 11 + 5) = w) (F6 : F (8 + B * 11 + 6) = f (8 + b * 11 + 6)) (F7 : F (8 + B * 11 + 7) = f (8 + b * 11 + 7)) (F8 : F (8 + B * 11 + 8) = -6) (F9 : F (8 + B * 11 + 9) = -6) (F10 : F (8 + B * 11 + 10) = Int32.ofNat b)
    (M0 : M (12 + 10 * B + 0) = (if a = 0 then Int32.ofNat v else ms (12 + 10 * b + 0))) (M1 : M (12 + 10 * B + 1) = (if a = 1 then Int32.ofNat v else ms (12 + 10 * b + 1))) (M2 : M (12 + 10 * B + 2) = (if a = 2 then Int32.ofNat v else ms (12 + 10 * b + 2))) (M3 : M (12 + 10 * B + 3) = ms (12 + 10 * b + 3)) (M4 : M (12 + 10 * B + 4) = w) (M5 : M (12 + 10 * B + 5) = ms (12 + 10 * b + 5)) (M6 : M (12 + 10 * B + 6) = ms (12 + 10 * b + 6)) (M7 : M (12 + 10 * B + 7) = -6) (M8 : M (12 + 10 * B + 8) = -6) (M9 : M (12 + 10 * B + 9) = Int32.ofNat b) : Blk F M O B := by
  obtain ⟨h1, h2, h3, h4, h5, h6, h7, h8, h9, h10⟩ := h
  have a0 := h1 0 (by omega)
  have a1 := h1 1 (by omega)
  have a2 := h1 2 (by omega)
  have a3 := h1 3 (by omega)
  have a5 : f (8 + b * 11 + 6) = ms (12 + 10 * b + 5) := h2 5 (by omega) (by omega)
  have a6 : f (8 + b * 11 + 7) = ms (12 + 10 * b + 6) := h2 6 (by omega) (by omega)
  refine ⟨fun w hw => ?_, fun w w1 w2 => ?_, fun c hc => ?_, ?_, ?_, ?_, ?_, fun q => ?_, fun _ => F9, fun q _ => absurd F8 q⟩
  · have c : w = 0 ∨ w = 1 ∨ w = 2 ∨ w = 3 := by omega
    rcases c with rfl | rfl | rfl | rfl
    · rw [F0, M0, a0]
    · rw [F1, M1, a1]
    · rw [F2, M2, a2]
    · rw [F3, M3, a3]
  · have c : w = 4 ∨ w = 5 ∨ w = 6 ∨ w = 7 ∨ w = 8 ∨ w = 9 := by omega
    rcases c with rfl | rfl | rfl | rfl | rfl | rfl
    · rw [M4]; exact F5
    · rw [M5, ← a5]; exact F6
    · rw [M6, ← a6]; exact F7
    · rw [M7]; exact F8
    · rw [M8]; exact F9
    · rw [M9]; exact F10
  · have q : c = 0 ∨ c = 1 ∨ c = 2 := by omega
    rcases q with rfl | rfl | rfl
    · rw [F0]
      by_cases e : a = 0
      · rw [if_pos e]; exact ⟨v, hv.1, hv.2, rfl⟩
      · rw [if_neg e]; exact h3 0 (by omega)
    · rw [F1]
      by_cases e : a = 1
      · rw [if_pos e]; exact ⟨v, hv.1, hv.2, rfl⟩
      · rw [if_neg e]; exact h3 1 (by omega)
    · rw [F2]
      by_cases e : a = 2
      · rw [if_pos e]; exact ⟨v, hv.1, hv.2, rfl⟩
      · rw [if_neg e]; exact h3 2 (by omega)
  · rw [F3]; exact h4
  · unfold mw
    rw [F4, M0, M1, M2, M3, a0, a1, a2, a3]
  · rw [F6]; exact h6
  · rw [F7]; exact h7
  · rw [F5] at q
    rcases hw with r | r <;> rw [r] at q <;> exact absurd q (by decide)
