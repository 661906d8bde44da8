/-! NIGHTS: the reference's loop -/
def zcr (N : Nat → Int32) (b : Nat) : Bool := decide (N 7 = 1 ∧ N (12 + 10 * b + 4) = 0 ∧ ¬ N (12 + 10 * b + 5) ≤ 0 ∧ N (12 + 10 * b + 6) = 0)
theorem m_night_st {k n i : Nat} {N : Nat → Int32} {B O : Nat} {p1 x2 : Int32} (m : MI N B O) (hi : i < B) : f_X8_nights_b55 k p1 (n + 1) N x2 (Int32.ofNat i) = f_X8_nights_b55 k p1 n (upd (upd N (12 + 10 * i + 6) (if zcr N i = true then 1 else N (12 + 10 * i + 6))) (12 + 10 * i + 5) (zwet (N (12 + 10 * i + 4)) (N (12 + 10 * i + 5)))) (x2 + (if zcr N i = true then 1 else 0)) (Int32.ofNat (i + 1)) := by
  have hB := m.hB
  have tail : ∀ (c y : Int32), f_X8_nights_b133 k p1 (f_X8_nights_b55 k p1 n) (upd N (12 + 10 * i + 6) c) (Int32.ofNat i) y x2 = f_X8_nights_b55 k p1 n (upd (upd N (12 + 10 * i + 6) c) (12 + 10 * i + 5) (zwet (N (12 + 10 * i + 4)) (N (12 + 10 * i + 5)))) (x2 + y) (Int32.ofNat (i + 1)) := fun c y => by
    have u5 : upd N (12 + 10 * i + 6) c (12 + 10 * i + 5) = N (12 + 10 * i + 5) := upd_ne (by omega)
    have u4 : upd N (12 + 10 * i + 6) c (12 + 10 * i + 4) = N (12 + 10 * i + 4) := upd_ne (by omega)
    have fin : ∀ d : Int32, f_X8_nights_b182 k p1 (f_X8_nights_b55 k p1 n) (upd N (12 + 10 * i + 6) c) (x2 + y) (Int32.ofNat i) d (N (12 + 10 * i + 5)) (Int32.ofNat (12 + 10 * i + 5)) = f_X8_nights_b55 k p1 n (upd (upd N (12 + 10 * i + 6) c) (12 + 10 * i + 5) (N (12 + 10 * i + 5) - d)) (x2 + y) (Int32.ofNat (i + 1)) := fun d => by
      rw [f_X8_nights_b182, zl_e, m_wr (by omega) (by omega), zl_e, n_suc]
    rw [f_X8_nights_b133, zl_e, m_at5, zb1_some, m_rd (by omega) (by omega), zb1_some, m_rd (by omega) (by omega), u5, m_isAt (by omega), m_isAt (by omega), u4]
    simp only [zb1_some, flag, fin, Int32.sub_zero]
    unfold zwet
    by_cases q1 : N (12 + 10 * i + 5) ≤ 0
    · rw [if_pos q1, if_neg (fun t => t.1 q1)]
    · rw [if_neg q1]
      by_cases q3 : N (12 + 10 * i + 4) = 3
      · rw [if_neg (fun t => t q3), if_neg (fun t => t.2.1 q3)]
      · rw [if_pos q3]
        by_cases q4 : N (12 + 10 * i + 4) = 4
        · rw [if_neg (fun t => t q4), if_neg (fun t => t.2.2 q4)]
        · rw [if_pos q4, if_pos ⟨q1, q3, q4⟩]
  have b89 : ∀ y : Int32, (y = 0 ∨ y = 1) → f_X8_nights_b89 k p1 (f_X8_nights_b55 k p1 n) N x2 (Int32.ofNat i) y = f_X8_nights_b55 k p1 n (upd (upd N (12 + 10 * i + 6) (if y = 1 then 1 else N (12 + 10 * i + 6))) (12 + 10 * i + 5) (zwet (N (12 + 10 * i + 4)) (N (12 + 10 * i + 5)))) (x2 + y) (Int32.ofNat (i + 1)) := fun y hy => by
    rw [f_X8_nights_b89, m_at6, zb1_some, zb1_some, m_rd (by omega) (by omega)]
    simp only [f_X8_nights_b121]
    rcases hy with rfl | rfl
    · rw [if_pos rfl, m_wr (by omega) (by omega), if_pos rfl, tail, if_neg (by decide)]
    · rw [if_neg n10, m_wr (by omega) (by omega), if_neg n10, tail, if_pos rfl]
  rw [f_X8_nights_b55, zl_e, m.m5, if_neg (fun t => absurd ((n_le (by omega) (by omega)).mp t) (by omega)), zl_e, m_crack (by omega), zb1_some]
  by_cases q7 : N 7 = 1
  · rw [if_pos q7]
    simp only [flag]
    by_cases q : N (12 + 10 * i + 4) = 0 ∧ ¬ N (12 + 10 * i + 5) ≤ 0 ∧ N (12 + 10 * i + 6) = 0
    · have z : zcr N i = true := decide_eq_true ⟨q7, q⟩
      rw [if_neg (fun t => t q), b89 1 (.inr rfl), z]
      rfl
    · have z : zcr N i = false := decide_eq_false (fun t => q t.2)
      rw [if_pos q, b89 0 (.inl rfl), z]
      rfl
  · have z : zcr N i = false := decide_eq_false (fun t => q7 t.1)
    rw [if_neg q7, b89 0 (.inl rfl), z]
    rfl
