/-! NIGHTS: the class's loops -/
theorem crk_loop {k B : Nat} {P : Nat → Bool} (hB : B ≤ 24) : ∀ n i (f : Nat → Int32), i ≤ 24 → 24 - i < n → ∃ F, f_X6_crackBlocks_b21 k n f (zbs P B) (Int32.ofNat i) = some (Int32.ofNat (zcnt P B), F) ∧ (∀ x, (∀ b, i ≤ b → b < B → P b = true → x ≠ 8 + b * 11 + 7) → F x = f x) ∧ ∀ b, i ≤ b → b < B → P b = true → F (8 + b * 11 + 7) = 1 := by
  intro n
  induction n with
  | zero => intro i _ _ h; omega
  | succ n ih =>
    intro i f hi hn
    rw [f_X6_crackBlocks_b21]
    by_cases h : i < 24
    · rw [if_neg (show ¬ (24 : Int32) ≤ Int32.ofNat i from fun t => absurd ((n_le (a := 24) (by omega) (by omega)).mp t) (by omega)), zl_e, zl_e, b_test (by omega), b_zbs B (by omega) i (by omega)]
      by_cases q : (decide (i < B) && P i) = true
      · rw [if_pos (by rw [if_pos q]), s_sblk7 h, zb1_some, zl_e, n_suc]
        obtain ⟨F, e, fr, on⟩ := ih (i + 1) (upd f (8 + i * 11 + 7) 1) (by omega) (by omega)
        simp only [Bool.and_eq_true, decide_eq_true_eq] at q
        refine ⟨F, e, fun x hx => ?_, fun b b1 b2 b3 => ?_⟩
        · rw [fr x (fun b b1 b2 b3 => hx b (by omega) b2 b3), upd_ne (hx i (Nat.le_refl _) q.1 q.2)]
        · by_cases c : b = i
          · subst c
            rw [fr _ (fun c c1 c2 c3 => by omega), upd_at]
          · exact on b (by omega) b2 b3
      · rw [if_neg (by rw [if_neg q]; decide), zl_e, n_suc]
        obtain ⟨F, e, fr, on⟩ := ih (i + 1) f (by omega) (by omega)
        simp only [Bool.and_eq_true, decide_eq_true_eq, not_and] at q
        refine ⟨F, e, fun x hx => fr x (fun b b1 b2 b3 => hx b (by omega) b2 b3), fun b b1 b2 b3 => ?_⟩
        by_cases c : b = i
        · subst c; exact absurd b3 (q b2)
        · exact on b (by omega) b2 b3
    · have : i = 24 := by omega
      subst this
      rw [if_pos (by decide), s_pop hB, zb1_some]
      exact ⟨f, rfl, fun _ _ => rfl, fun b b1 b2 _ => by omega⟩
/-- a block's wet nights, a night later -/
def zwet (where_ wet : Int32) : Int32 := if ¬ wet ≤ 0 ∧ ¬ where_ = 3 ∧ ¬ where_ = 4 then wet - 1 else wet
theorem dry_loop {k B : Nat} (hB : B ≤ 24) : ∀ n i (f : Nat → Int32), i ≤ B → B - i < n → ∃ F, f_X6_dryBlocks_b12 k n f (Int32.ofNat B) (Int32.ofNat i) = some F ∧ (∀ x, (∀ b, i ≤ b → b < B → x ≠ 8 + b * 11 + 6) → F x = f x) ∧ ∀ b, i ≤ b → b < B → F (8 + b * 11 + 6) = zwet (f (8 + b * 11 + 5)) (f (8 + b * 11 + 6)) := by
  intro n
  induction n with
  | zero => intro i _ _ h; omega
  | succ n ih =>
    intro i f hi hn
    rw [f_X6_dryBlocks_b12]
    by_cases h : i < B
    · rw [if_neg (fun t => absurd ((n_le (by omega) (by omega)).mp t) (by omega)), s_blk5 (by omega), s_blk6 (by omega), zb1_some, zb1_some]
      have keep : zwet (f (8 + i * 11 + 5)) (f (8 + i * 11 + 6)) = f (8 + i * 11 + 6) → ∃ F, f_X6_dryBlocks_b12 k n f (Int32.ofNat B) (Int32.ofNat (i + 1)) = some F ∧ (∀ x, (∀ b, i ≤ b → b < B → x ≠ 8 + b * 11 + 6) → F x = f x) ∧ ∀ b, i ≤ b → b < B → F (8 + b * 11 + 6) = zwet (f (8 + b * 11 + 5)) (f (8 + b * 11 + 6)) := fun hk => by
        obtain ⟨F, e, fr, on⟩ := ih (i + 1) f (by omega) (by omega)
        refine ⟨F, e, fun x hx => fr x (fun b b1 b2 => hx b (by omega) b2), fun b b1 b2 => ?_⟩
        by_cases c : b = i
        · subst c; rw [fr _ (fun c c1 c2 => by omega), hk]
        · exact on b (by omega) b2
      by_cases q1 : f (8 + i * 11 + 6) ≤ 0
      · rw [if_pos q1, zl_e, n_suc]
        exact keep (if_neg (fun t => t.1 q1))
      · rw [if_neg q1]
        by_cases q3 : f (8 + i * 11 + 5) = 3
        · rw [if_pos q3, zl_e, n_suc]
          exact keep (if_neg (fun t => t.2.1 q3))
        · rw [if_neg q3]
          by_cases q4 : f (8 + i * 11 + 5) = 4
          · rw [if_pos q4, zl_e, n_suc]
            exact keep (if_neg (fun t => t.2.2 q4))
          · rw [if_neg q4, zl_e, s_sblk6 (by omega), zb1_some, zl_e, n_suc]
            obtain ⟨F, e, fr, on⟩ := ih (i + 1) (upd f (8 + i * 11 + 6) (f (8 + i * 11 + 6) - 1)) (by omega) (by omega)
            refine ⟨F, e, fun x hx => ?_, fun b b1 b2 => ?_⟩
            · rw [fr x (fun b b1 b2 => hx b (by omega) b2), upd_ne (hx i (Nat.le_refl _) h)]
            · by_cases c : b = i
              · subst c
                rw [fr _ (fun c c1 c2 => by omega), upd_at]
                unfold zwet
                rw [if_pos ⟨q1, q3, q4⟩]
              · rw [on b (by omega) b2, upd_ne (by omega), upd_ne (by omega)]
    · have : i = B := by omega
      subst this
      rw [if_pos ((n_le (by omega) (by omega)).mpr (Nat.le_refl _))]
      exact ⟨f, rfl, fun _ _ => rfl, fun b b1 b2 => by omega⟩
