/-! NIGHTS: the reference's whole loop -/
theorem m_night_loop {k B O : Nat} {P : Nat → Bool} {p1 : Int32} : ∀ n i (N : Nat → Int32), MI N B O → i ≤ B → B - i < n → (∀ b, i ≤ b → b < B → zcr N b = P b) → ∃ M, f_X8_nights_b55 k p1 n N (Int32.ofNat (zcnt P i)) (Int32.ofNat i) = some (Int32.ofNat (zcnt P B), M) ∧ M 4 = N 4 + 1 ∧ (∀ x, x ≠ 4 → (∀ b, i ≤ b → b < B → x ≠ 12 + 10 * b + 5 ∧ x ≠ 12 + 10 * b + 6) → M x = N x) ∧ ∀ b, i ≤ b → b < B → M (12 + 10 * b + 6) = (if P b = true then 1 else N (12 + 10 * b + 6)) ∧ M (12 + 10 * b + 5) = zwet (N (12 + 10 * b + 4)) (N (12 + 10 * b + 5)) := by
  intro n
  induction n with
  | zero => intro i _ _ _ h; omega
  | succ n ih =>
    intro i N m hi hn hP
    have hB := m.hB
    by_cases h : i < B
    · rw [m_night_st m h, hP i (Nat.le_refl _) h]
      obtain ⟨N1, hN1⟩ : ∃ N1, N1 = upd (upd N (12 + 10 * i + 6) (if P i = true then 1 else N (12 + 10 * i + 6))) (12 + 10 * i + 5) (zwet (N (12 + 10 * i + 4)) (N (12 + 10 * i + 5))) := ⟨_, rfl⟩
      have same : ∀ x, x ≠ 12 + 10 * i + 5 → x ≠ 12 + 10 * i + 6 → N1 x = N x := fun x h1 h2 => by rw [hN1, upd_ne h1, upd_ne h2]
      have m1 : MI N1 B O := ⟨hB, m.hO, by rw [same 5 (by omega) (by omega)]; exact m.m5, by rw [same 6 (by omega) (by omega)]; exact m.m6⟩
      obtain ⟨M, e, e4, fr, on⟩ := ih (i + 1) N1 m1 (by omega) (by omega) (fun b h1 h2 => by
        rw [← hP b (by omega) h2]
        unfold zcr
        rw [same 7 (by omega) (by omega), same (12 + 10 * b + 4) (by omega) (by omega), same (12 + 10 * b + 5) (by omega) (by omega), same (12 + 10 * b + 6) (by omega) (by omega)])
      rw [← hN1]
      have ec : Int32.ofNat (zcnt P i) + (if P i = true then 1 else 0) = Int32.ofNat (zcnt P (i + 1)) := by
        rw [zcnt]
        by_cases q : P i = true
        · rw [if_pos q, if_pos q, n_suc]
        · rw [if_neg q, if_neg q, Int32.add_zero]
      rw [ec]
      refine ⟨M, e, by rw [e4, same 4 (by omega) (by omega)], fun x h4 hx => ?_, fun b h1 h2 => ?_⟩
      · rw [fr x h4 (fun b h1 h2 => hx b (by omega) h2)]
        exact same x (hx i (Nat.le_refl _) h).1 (hx i (Nat.le_refl _) h).2
      · by_cases c : b = i
        · subst c
          rw [fr (12 + 10 * b + 6) (by omega) (fun c h1 h2 => by omega), fr (12 + 10 * b + 5) (by omega) (fun c h1 h2 => by omega), hN1]
          exact ⟨by rw [upd_ne (by omega), upd_at], by rw [upd_at]⟩
        · obtain ⟨o1, o2⟩ := on b (by omega) h2
          rw [o1, o2, same (12 + 10 * b + 6) (by omega) (by omega), same (12 + 10 * b + 4) (by omega) (by omega), same (12 + 10 * b + 5) (by omega) (by omega)]
          exact ⟨rfl, rfl⟩
    · have : i = B := by omega
      subst this
      rw [f_X8_nights_b55, zl_e, m.m5, if_pos ((n_le (by omega) (by omega)).mpr (Nat.le_refl _))]
      exact ⟨_, rfl, by rw [upd_at], fun x h4 _ => by rw [upd_ne h4], fun b h1 h2 => by omega⟩
