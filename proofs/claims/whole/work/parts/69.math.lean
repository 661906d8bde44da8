/-! THE START -/
def zf0 : Nat → Int32 := upd (upd (upd (upd (upd (upd (upd (upd (upd (upd (upd (upd (upd (fun _ => 0) 0 2) 1 12) 2 (-3)) 3 5) (332 + 0 * 4 + 0) 4000) (332 + 0 * 4 + 1) 8000) (332 + 0 * 4 + 2) 10000) (332 + 1 * 4 + 0) 4000) (332 + 1 * 4 + 1) 8000) (332 + 1 * 4 + 2) 10000) (332 + 2 * 4 + 0) 4000) (332 + 2 * 4 + 1) 8000) (332 + 2 * 4 + 2) 10000
def zm0 : Nat → Int32 := upd (upd (upd (upd (upd (upd (upd (upd (upd (upd (upd (upd (upd (fun _ => 0) 0 2) 1 12) 2 (-3)) 3 5) (312 + 4 * 0 + 0) 4000) (312 + 4 * 0 + 1) 8000) (312 + 4 * 0 + 2) 10000) (312 + 4 * 1 + 0) 4000) (312 + 4 * 1 + 1) 8000) (312 + 4 * 1 + 2) 10000) (312 + 4 * 2 + 0) 4000) (312 + 4 * 2 + 1) 8000) (312 + 4 * 2 + 2) 10000
theorem s_init {k : Nat} (hk : 25 ≤ k) : f_X5_init k (fun _ => 0) = some zf0 := by
  obtain ⟨n, rfl⟩ : ∃ n, k = n + 4 := ⟨k - 4, by omega⟩
  have st : ∀ (m i : Nat) (f : Nat → Int32), i < 3 → f_X5_init_b41 (n + 4) (m + 1) f (Int32.ofNat i) = f_X5_init_b41 (n + 4) m (upd (upd (upd f (332 + i * 4 + 0) 4000) (332 + i * 4 + 1) 8000) (332 + i * 4 + 2) 10000) (Int32.ofNat (i + 1)) := fun m i f hi => by
    rw [f_X5_init_b41, if_neg (show ¬ (3 : Int32) ≤ Int32.ofNat i from fun t => absurd ((n_le (a := 3) (by omega) (by omega)).mp t) (by omega)), s_slor0 hi, zb1_some, s_slor1 hi, zb1_some, s_slor2 hi, zb1_some, zl_e, n_suc]
  rw [f_X5_init, s_set0, zb1_some, s_set1, zb1_some, s_set2, zb1_some, s_set3, zb1_some]
  show f_X5_init_b41 (n + 4) (n + 3 + 1) _ (Int32.ofNat 0) = _
  rw [st _ 0 _ (by omega), st _ 1 _ (by omega), st _ 2 _ (by omega), f_X5_init_b41, if_pos (by decide)]
  rfl
theorem m_init {k : Nat} (hk : 25 ≤ k) : f_X8_init k (fun _ => 0) = some zm0 := by
  obtain ⟨n, rfl⟩ : ∃ n, k = n + 4 := ⟨k - 4, by omega⟩
  have st : ∀ (m i : Nat) (f : Nat → Int32), i < 3 → f_X8_init_b101 (n + 4) (m + 1) f (Int32.ofNat i) = f_X8_init_b101 (n + 4) m (upd (upd (upd f (312 + 4 * i + 0) 4000) (312 + 4 * i + 1) 8000) (312 + 4 * i + 2) 10000) (Int32.ofNat (i + 1)) := fun m i f hi => by
    rw [f_X8_init_b101, if_neg (show ¬ (3 : Int32) ≤ Int32.ofNat i from fun t => absurd ((n_le (a := 3) (by omega) (by omega)).mp t) (by omega)), m_lat0, zb1_some, m_wr (by omega) (by omega), m_lat1, zb1_some, m_wr (by omega) (by omega), m_lat2, zb1_some, m_wr (by omega) (by omega), zl_e, n_suc]
  rw [f_X8_init, zl_e, zl_e, zl_e, zl_e]
  show f_X8_init_b101 (n + 4) (n + 3 + 1) _ (Int32.ofNat 0) = _
  rw [st _ 0 _ (by omega), st _ 1 _ (by omega), st _ 2 _ (by omega), f_X8_init_b101, if_pos (by decide)]
  rfl
theorem rel_0 : Rel zf0 zm0 0 0 := by
  have ll : ∀ l, l < 3 → ∀ w, w < 4 → zf0 (332 + l * 4 + w) = zm0 (312 + 4 * l + w) := by decide
  have lm : ∀ l, l < 3 → ∀ w, w < 3 → zf0 (332 + l * 4 + w) = Int32.ofNat (if w = 0 then 4000 else if w = 1 then 8000 else 10000) := by decide
  refine ⟨⟨by omega, by omega, by decide, by decide⟩, ⟨by omega, by omega, by decide, by decide⟩, ?_, ll, fun l hl w hw => ⟨if w = 0 then 4000 else if w = 1 then 8000 else 10000, ?_, ?_, lm l hl w hw⟩, fun b hb => absurd hb (Nat.not_lt_zero _), fun b hb => absurd hb (Nat.not_lt_zero _), fun b hb => absurd hb (Nat.not_lt_zero _), ?_⟩
  · unfold Gen
    decide
  · repeat (first | (split; omega) | split)
    all_goals omega
  · repeat (first | (split; omega) | split)
    all_goals omega
  · unfold Sums
    rw [zsum, zsum, zsum, zsum, zcnt]
    decide
/-! THE LAW'S LOOP -/
theorem a_1 {ρ : Type} {i L : Nat} {xs : Nat → Int32} {K : Int32 → Option ρ} (h : i + 5 ≤ L) (hL : L ≤ 2560) : zl (Int32.ofNat i + 1) (fun v => zg (zin v L) (zl (xs v.toNatClampNeg) K)) = K (xs (i + 1)) := by
  rw [zl_e, show Int32.ofNat i + 1 = Int32.ofNat (i + 1) from n_add i 1, m_rd (by omega) (by omega)]
theorem a_2 {ρ : Type} {i L : Nat} {xs : Nat → Int32} {K : Int32 → Option ρ} (h : i + 5 ≤ L) (hL : L ≤ 2560) : zl (Int32.ofNat i + 2) (fun v => zg (zin v L) (zl (xs v.toNatClampNeg) K)) = K (xs (i + 2)) := by
  rw [zl_e, show Int32.ofNat i + 2 = Int32.ofNat (i + 2) from n_add i 2, m_rd (by omega) (by omega)]
theorem a_3 {ρ : Type} {i L : Nat} {xs : Nat → Int32} {K : Int32 → Option ρ} (h : i + 5 ≤ L) (hL : L ≤ 2560) : zl (Int32.ofNat i + 3) (fun v => zg (zin v L) (zl (xs v.toNatClampNeg) K)) = K (xs (i + 3)) := by
  rw [zl_e, show Int32.ofNat i + 3 = Int32.ofNat (i + 3) from n_add i 3, m_rd (by omega) (by omega)]
theorem a_4 {ρ : Type} {i L : Nat} {xs : Nat → Int32} {K : Int32 → Option ρ} (h : i + 5 ≤ L) (hL : L ≤ 2560) : zl (Int32.ofNat i + 4) (fun v => zg (zin v L) (zl (xs v.toNatClampNeg) K)) = K (xs (i + 4)) := by
  rw [zl_e, show Int32.ofNat i + 4 = Int32.ofNat (i + 4) from n_add i 4, m_rd (by omega) (by omega)]
theorem a_5 {ρ : Type} {i : Nat} {K : Int32 → Option ρ} : zl (Int32.ofNat i + 5) K = K (Int32.ofNat (i + 5)) := by
  rw [zl_e, show Int32.ofNat i + 5 = Int32.ofNat (i + 5) from n_add i 5]
theorem lg_self (r : Int64) : lg_cmp r r = 0 := by
  unfold lg_cmp
  rw [if_neg (Int64.lt_irrefl), if_pos rfl]
theorem zb10_some {α0 α1 α2 α3 α4 α5 α6 α7 α8 α9 ρ : Type} {a0 : α0} {a1 : α1} {a2 : α2} {a3 : α3} {a4 : α4} {a5 : α5} {a6 : α6} {a7 : α7} {a8 : α8} {a9 : α9} {k : α0 → α1 → α2 → α3 → α4 → α5 → α6 → α7 → α8 → α9 → Option ρ} : zb10 (some (a0, a1, a2, a3, a4, a5, a6, a7, a8, a9)) k = k a0 a1 a2 a3 a4 a5 a6 a7 a8 a9 := rfl
theorem zb11_some {α0 α1 α2 α3 α4 α5 α6 α7 α8 α9 α10 ρ : Type} {a0 : α0} {a1 : α1} {a2 : α2} {a3 : α3} {a4 : α4} {a5 : α5} {a6 : α6} {a7 : α7} {a8 : α8} {a9 : α9} {a10 : α10} {k : α0 → α1 → α2 → α3 → α4 → α5 → α6 → α7 → α8 → α9 → α10 → Option ρ} : zb11 (some (a0, a1, a2, a3, a4, a5, a6, a7, a8, a9, a10)) k = k a0 a1 a2 a3 a4 a5 a6 a7 a8 a9 a10 := rfl
theorem txt_0 (sg : Nat → Int32) : Txt sg 0 (fun _ => 0) := ⟨by omega, fun p hp => absurd hp (Nat.not_lt_zero _), fun _ _ => rfl⟩
