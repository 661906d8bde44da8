/-! THE CHANGES: settings, the roof, limits, orders -/
theorem st_set {k t B O : Nat} {f : Nat → Int32} (R : Inv f t B O) (p1 p2 : Int32) : Rs t (f_X6_changeSetting k f p1 p2) := by
  by_cases h0 : p1 < 0
  · exact Rs.err R (r := -2) (by rw [f_X6_changeSetting, if_pos h0])
  · by_cases h4 : (4 : Int32) ≤ p1
    · exact Rs.err R (r := -2) (by rw [f_X6_changeSetting, if_neg h0, if_pos h4])
    · obtain ⟨s, s1, rfl⟩ := n_of (n := 4) h0 h4 (by omega)
      have e1 : f_X6_changeSetting k f (Int32.ofNat s) p2 = if ¬ p2 < zLo s ∧ ¬ zHi s < p2 then some (f s + 100, upd f s p2) else some (-2, f) := by
        rw [f_X6_changeSetting, if_neg h0, if_neg h4, n_zin s1 (by omega), zg_true, n_nat (by omega), s_cell (by omega), s_set (by omega)]
        simp only [zb1_some, zl_e]
        by_cases q1 : p2 < zLo s
        · rw [if_pos q1, if_neg (fun q => q.1 q1)]
        · rw [if_neg q1]
          by_cases q2 : zHi s < p2
          · rw [if_pos q2, if_neg (fun q => q.2 q2)]
          · rw [if_neg q2, if_pos ⟨q1, q2⟩]
      by_cases q : ¬ p2 < zLo s ∧ ¬ zHi s < p2
      · rw [if_pos q] at e1
        have hB := R.c.hB
        have hO := R.c.hO
        refine Rs.ok e1 (B := B) (O := O) ⟨⟨hB, hO, by simp (disch := omega) only [upd_ne, upd_at]; exact R.c.f6, by simp (disch := omega) only [upd_ne, upd_at]; exact R.c.f7⟩, ?_, R.lm.same (fun i _ _ => by simp (disch := omega) only [upd_ne, upd_at]), fun b hb => (R.blk b hb).same (fun w hw => by simp (disch := omega) only [upd_ne, upd_at]) (fun o o1 o2 o3 => ⟨o1, by simp (disch := omega) only [upd_ne, upd_at], by simp (disch := omega) only [upd_ne, upd_at]⟩), R.uq.same (fun b hb => by simp (disch := omega) only [upd_ne, upd_at]), fun o ho => (R.ord o ho).same (Nat.le_refl _) (fun w hw => by simp (disch := omega) only [upd_ne, upd_at]), R.sums.same (fun b hb => ⟨by simp (disch := omega) only [upd_ne, upd_at], by simp (disch := omega) only [upd_ne, upd_at], by simp (disch := omega) only [upd_ne, upd_at]⟩) (R.sums.roof (fun b hb => by simp (disch := omega) only [upd_ne, upd_at]))⟩
        obtain ⟨g1, g2, g3, g4, g5⟩ := R.g
        obtain ⟨v1, v2⟩ := q
        rw [i_lt] at v1 v2
        have c : s = 0 ∨ s = 1 ∨ s = 2 ∨ s = 3 := by omega
        unfold IG
        rcases c with rfl | rfl | rfl | rfl
        · have t1 : (zLo 0).toInt = 0 := by decide
          have t2 : (zHi 0).toInt = 9 := by decide
          rw [t1] at v1
          rw [t2] at v2
          simp (disch := omega) only [upd_ne, upd_at]
          exact ⟨⟨by omega, by omega⟩, g2, g3, g4, g5⟩
        · have t1 : (zLo 1).toInt = 1 := by decide
          have t2 : (zHi 1).toInt = 99 := by decide
          rw [t1] at v1
          rw [t2] at v2
          simp (disch := omega) only [upd_ne, upd_at]
          exact ⟨g1, ⟨by omega, by omega⟩, g3, g4, g5⟩
        · have t1 : (zLo 2).toInt = -20 := by decide
          have t2 : (zHi 2).toInt = 0 := by decide
          rw [t1] at v1
          rw [t2] at v2
          simp (disch := omega) only [upd_ne, upd_at]
          exact ⟨g1, g2, ⟨by omega, by omega⟩, g4, g5⟩
        · have t1 : (zLo 3).toInt = 0 := by decide
          have t2 : (zHi 3).toInt = 30 := by decide
          rw [t1] at v1
          rw [t2] at v2
          simp (disch := omega) only [upd_ne, upd_at]
          exact ⟨g1, g2, g3, ⟨by omega, by omega⟩, g5⟩
      · rw [if_neg q] at e1
        exact Rs.err R e1
/-- roof's count with one block's where changed -/
theorem roof_chg {f f' : Nat → Int32} {B b : Nat} (hb : b < B) (hf : ∀ c, c < B → c ≠ b → f' (8 + c * 11 + 5) = f (8 + c * 11 + 5)) : zcnt (fun b => decide (f' (8 + b * 11 + 5) = 1)) B + (if f (8 + b * 11 + 5) = 1 then 1 else 0) = zcnt (fun b => decide (f (8 + b * 11 + 5) = 1)) B + (if f' (8 + b * 11 + 5) = 1 then 1 else 0) := by
  have q1 := zcnt_chg (P := fun b => decide (f (8 + b * 11 + 5) = 1)) (Q := fun c => decide (f' (8 + c * 11 + 5) = 1)) (b0 := b) B hb (fun c hc e => by rw [hf c hc e])
  simp only [decide_eq_true_eq] at q1
  exact q1
theorem InvS.spot6 {f : Nat → Int32} {t B O σ b : Nat} (R : InvS f t B O σ) (hb : b < B) (h : f (8 + b * 11 + 5) = 0 ∨ f (8 + b * 11 + 5) = 1) : f (8 + b * 11 + 9) = -6 :=
  (R.blk b hb).2.2.2.2.2.2.2.1 (fun q => by rcases h with r | r <;> rw [q] at r <;> exact absurd r (by decide))
theorem st_shelter {k t B O : Nat} {f : Nat → Int32} (R : Inv f t B O) (hk : 25 ≤ k) (p1 : Int32) : Rs t (f_X6_moveBlock k f p1) := by
  have hB := R.c.hB
  rcases h_blk R.c k p1 with ⟨b, b1, rfl, e1⟩ | ⟨-, e1⟩
  · have x1 : f_X6_moveBlock k f (Int32.ofNat b) = if ¬ (f (8 + b * 11 + 5) = 0 ∨ f (8 + b * 11 + 5) = 1) then some (-5, f) else if f (8 + b * 11 + 5) = 0 then (if ¬ zcnt (fun b => decide (f (8 + b * 11 + 5) = 1)) B < 4 then some (-4, f) else some (1, upd f (8 + b * 11 + 5) 1)) else some (0, upd f (8 + b * 11 + 5) 0) := by
      rw [f_X6_moveBlock, e1, s_hand (by omega), s_blk5 (by omega), s_roof R.c hk]
      simp only [zb1_some, flag, f_X6_moveBlock_b52, f_X6_moveBlock_b69, s_blk5 (show b < 24 by omega), s_sblk5 (show b < 24 by omega)]
      rw [if_neg n10]
      by_cases q0 : f (8 + b * 11 + 5) = 0
      · simp only [q0, if_true]
      · simp only [q0, if_false]
    by_cases q : f (8 + b * 11 + 5) = 0 ∨ f (8 + b * 11 + 5) = 1
    · have s6 := R.spot6 b1 q
      rw [if_neg (fun r => r q)] at x1
      have fin : ∀ v : Nat, (v = 0 ∨ v = 1) → (v = 1 → f (8 + b * 11 + 5) = 1 ∨ zcnt (fun b => decide (f (8 + b * 11 + 5) = 1)) B < 4) → Inv (upd f (8 + b * 11 + 5) (Int32.ofNat v)) t B O := fun v hv hr => by
        have rc := roof_chg (f := f) (f' := upd f (8 + b * 11 + 5) (Int32.ofNat v)) b1 (fun c hc e => by simp (disch := omega) only [upd_ne, upd_at])
        have h := R.place (f' := upd f (8 + b * 11 + 5) (Int32.ofNat v)) (v := v) b1 (fun i i1 i2 => by rw [upd_ne i1]) (by rcases q with q | q; exact .inl q; exact .inr (.inl q)) (by omega) upd_at (fun q => by omega) (fun _ => by simp (disch := omega) only [upd_ne, upd_at]; exact s6) (fun c hc e n => by simp (disch := omega) only [upd_ne] at n; exact absurd s6 n) (by
          rw [upd_at] at rc
          have z4 := R.sums.2
          rcases hv with rfl | rfl
          · rw [if_neg (show ¬ Int32.ofNat 0 = 1 by decide)] at rc
            omega
          · rw [if_pos (show Int32.ofNat 1 = 1 from rfl)] at rc
            rcases hr rfl with r | r
            · rw [if_pos r] at rc
              omega
            · omega)
        rw [if_neg (by omega)] at h
        exact h
      by_cases q0 : f (8 + b * 11 + 5) = 0
      · rw [if_pos q0] at x1
        by_cases qz : zcnt (fun b => decide (f (8 + b * 11 + 5) = 1)) B < 4
        · rw [if_neg (fun r => r qz)] at x1
          exact Rs.ok x1 (fin 1 (.inr rfl) (fun _ => .inr qz))
        · rw [if_pos qz] at x1
          exact Rs.err R x1
      · rw [if_neg q0] at x1
        exact Rs.ok x1 (fin 0 (.inl rfl) (fun r => by omega))
    · rw [if_pos q] at x1
      exact Rs.err R x1
  · exact Rs.err R (r := -1) (by rw [f_X6_moveBlock, e1]; rfl)
theorem st_limits {k t B O : Nat} {f : Nat → Int32} (R : Inv f t B O) (p1 p2 p3 p4 : Int32) : Rs t (f_X6_changeLimits k f p1 p2 p3 p4) := by
  have hB := R.c.hB
  have hO := R.c.hO
  rcases h_lor k p1 with ⟨l, l1, rfl, e1⟩ | ⟨-, e1⟩
  · have x1 : f_X6_changeLimits k f (Int32.ofNat l) p2 p3 p4 = if ¬ (¬ p2 < 100 ∧ ¬ (30000 : Int32) < p2) then some (-2, f) else if ¬ (¬ p3 < 100 ∧ ¬ (30000 : Int32) < p3) then some (-2, f) else if ¬ (¬ p4 < 100 ∧ ¬ (30000 : Int32) < p4) then some (-2, f) else some (1, upd (upd (upd f (332 + l * 4 + 0) p2) (332 + l * 4 + 1) p3) (332 + l * 4 + 2) p4) := by
      rw [f_X6_changeLimits, e1, s_limit, s_limit, s_limit]
      simp only [zb1_some, flag, s_slor0 l1, s_slor1 l1, s_slor2 l1]
      rw [if_neg n10]
    by_cases q2 : ¬ p2 < 100 ∧ ¬ (30000 : Int32) < p2
    · by_cases q3 : ¬ p3 < 100 ∧ ¬ (30000 : Int32) < p3
      · by_cases q4 : ¬ p4 < 100 ∧ ¬ (30000 : Int32) < p4
        · rw [if_neg (fun r => r q2), if_neg (fun r => r q3), if_neg (fun r => r q4)] at x1
          obtain ⟨x, hx1, hx2, rfl⟩ := n_btw (a := 100) (b := 30000) (by omega) (by omega) q2
          obtain ⟨y, hy1, hy2, rfl⟩ := n_btw (a := 100) (b := 30000) (by omega) (by omega) q3
          obtain ⟨z, hz1, hz2, rfl⟩ := n_btw (a := 100) (b := 30000) (by omega) (by omega) q4
          refine Rs.ok x1 (B := B) (O := O) ⟨⟨hB, hO, by simp (disch := omega) only [upd_ne, upd_at]; exact R.c.f6, by simp (disch := omega) only [upd_ne, upd_at]; exact R.c.f7⟩, R.g.same (Nat.le_refl _) (fun i _ _ => by simp (disch := omega) only [upd_ne, upd_at]), fun m hm w hw => ?_, fun b hb => (R.blk b hb).same (fun w hw => by simp (disch := omega) only [upd_ne, upd_at]) (fun o o1 o2 o3 => ⟨o1, by simp (disch := omega) only [upd_ne, upd_at], by simp (disch := omega) only [upd_ne, upd_at]⟩), R.uq.same (fun b hb => by simp (disch := omega) only [upd_ne, upd_at]), fun o ho => (R.ord o ho).same (Nat.le_refl _) (fun w hw => by simp (disch := omega) only [upd_ne, upd_at]), R.sums.same (fun b hb => ⟨by simp (disch := omega) only [upd_ne, upd_at], by simp (disch := omega) only [upd_ne, upd_at], by simp (disch := omega) only [upd_ne, upd_at]⟩) (R.sums.roof (fun b hb => by simp (disch := omega) only [upd_ne, upd_at]))⟩
          by_cases e : m = l
          · subst e
            have c : w = 0 ∨ w = 1 ∨ w = 2 := by omega
            rcases c with rfl | rfl | rfl
            · exact ⟨x, hx1, hx2, by simp (disch := omega) only [upd_ne, upd_at]⟩
            · exact ⟨y, hy1, hy2, by simp (disch := omega) only [upd_ne, upd_at]⟩
            · exact ⟨z, hz1, hz2, by simp (disch := omega) only [upd_ne, upd_at]⟩
          · rw [upd_ne (by omega), upd_ne (by omega), upd_ne (by omega)]
            exact R.lm m hm w hw
        · rw [if_neg (fun r => r q2), if_neg (fun r => r q3), if_pos q4] at x1
          exact Rs.err R x1
      · rw [if_neg (fun r => r q2), if_pos q3] at x1
        exact Rs.err R x1
    · rw [if_pos q2] at x1
      exact Rs.err R x1
  · exact Rs.err R (r := -1) (by rw [f_X6_changeLimits, e1]; rfl)
theorem srt_ord {x y z : Nat} (hx : 1 ≤ x ∧ x ≤ 300) (hy : 1 ≤ y ∧ y ≤ 300) (hz : 1 ≤ z ∧ z ≤ 300) : ∃ p q r, 1 ≤ r ∧ r ≤ q ∧ q ≤ p ∧ p ≤ 300 ∧ p + q + r = x + y + z ∧ zmx (Int32.ofNat x) (zmx (Int32.ofNat y) (Int32.ofNat z)) = Int32.ofNat p ∧ Int32.ofNat x + Int32.ofNat y + Int32.ofNat z - zmx (Int32.ofNat x) (zmx (Int32.ofNat y) (Int32.ofNat z)) - zmn (Int32.ofNat x) (zmn (Int32.ofNat y) (Int32.ofNat z)) = Int32.ofNat q ∧ zmn (Int32.ofNat x) (zmn (Int32.ofNat y) (Int32.ofNat z)) = Int32.ofNat r := by
  have e1 : zmx (Int32.ofNat x) (zmx (Int32.ofNat y) (Int32.ofNat z)) = Int32.ofNat (max x (max y z)) := by rw [zmx_n (by omega) (by omega), zmx_n (by omega) (by omega)]
  have e2 : zmn (Int32.ofNat x) (zmn (Int32.ofNat y) (Int32.ofNat z)) = Int32.ofNat (min x (min y z)) := by rw [zmn_n (by omega) (by omega), zmn_n (by omega) (by omega)]
  refine ⟨max x (max y z), x + y + z - max x (max y z) - min x (min y z), min x (min y z), by omega, by omega, by omega, by omega, by omega, e1, ?_, e2⟩
  rw [e1, e2, n_add, n_add, n_sub (by omega), n_sub (by omega)]
theorem st_order {k t B O : Nat} {f : Nat → Int32} (R : Inv f t B O) (p1 p2 p3 : Int32) : Rs t (f_X6_takeOrder k f p1 p2 p3) := by
  have hB := R.c.hB
  have hO := R.c.hO
  by_cases q1 : ¬ p1 < 1 ∧ ¬ (300 : Int32) < p1
  · by_cases q2 : ¬ p2 < 1 ∧ ¬ (300 : Int32) < p2
    · by_cases q3 : ¬ p3 < 1 ∧ ¬ (300 : Int32) < p3
      · by_cases qO : O < 10
        · obtain ⟨x, x1, x2, rfl⟩ := n_btw (a := 1) (b := 300) (by omega) (by omega) q1
          obtain ⟨y, y1, y2, rfl⟩ := n_btw (a := 1) (b := 300) (by omega) (by omega) q2
          obtain ⟨z, z1, z2, rfl⟩ := n_btw (a := 1) (b := 300) (by omega) (by omega) q3
          obtain ⟨p, q, r, hr, hq, hp, hp', -, e1, e2, e3⟩ := srt_ord ⟨x1, x2⟩ ⟨y1, y2⟩ ⟨z1, z2⟩
          obtain ⟨F, hF⟩ : ∃ F, F = upd (upd (upd (upd (upd (upd (upd f 7 (Int32.ofNat (O + 1))) (272 + O * 6 + 0) (Int32.ofNat p)) (272 + O * 6 + 1) (Int32.ofNat q)) (272 + O * 6 + 2) (Int32.ofNat r)) (272 + O * 6 + 3) 0) (272 + O * 6 + 4) (-6)) (272 + O * 6 + 5) (-6) := ⟨_, rfl⟩
          have x1' : f_X6_takeOrder k f (Int32.ofNat x) (Int32.ofNat y) (Int32.ofNat z) = some (Int32.ofNat O, F) := by
            rw [f_X6_takeOrder, s_size, s_size, s_size, s_cell7, R.c.f7, s_great, s_middle, s_least, e2, e1, e3]
            simp only [zb1_some, flag]
            rw [if_neg (fun t => t q1), if_neg (fun t => t q2), if_neg (fun t => t q3), if_pos (show Int32.ofNat O < 10 from (n_lt (b := 10) (by omega) (by omega)).mpr qO)]
            rw [zl_e, n_suc, s_set7]
            simp only [zb1_some, s_sord0 qO, s_sord1 qO, s_sord2 qO, s_sord3 qO, s_sord4 qO, s_sord5 qO]
            rw [hF]
          have hf : ∀ i, i ≠ 7 → (i < 272 + O * 6 ∨ 272 + O * 6 + 6 ≤ i) → F i = f i := fun i i1 i2 => by rw [hF, upd_ne (by omega), upd_ne (by omega), upd_ne (by omega), upd_ne (by omega), upd_ne (by omega), upd_ne (by omega), upd_ne i1]
          refine Rs.ok x1' (B := B) (O := O + 1) ⟨⟨hB, by omega, by rw [hf 6 (by omega) (by omega)]; exact R.c.f6, by rw [hF]; simp (disch := omega) only [upd_ne, upd_at]⟩, R.g.same (Nat.le_refl _) (fun i _ _ => hf i (by omega) (by omega)), R.lm.same (fun i _ _ => hf i (by omega) (by omega)), fun b hb => (R.blk b hb).same (fun w hw => hf _ (by omega) (by omega)) (fun o o1 o2 o3 => ⟨by omega, hf _ (by omega) (by omega), hf _ (by omega) (by omega)⟩), R.uq.same (fun b hb => hf _ (by omega) (by omega)), fun o ho => ?_, R.sums.same (fun b hb => ⟨hf _ (by omega) (by omega), by rw [hf _ (by omega) (by omega)], hf _ (by omega) (by omega)⟩) (R.sums.roof (fun b hb => hf _ (by omega) (by omega)))⟩
          by_cases e : o = O
          · subst e
            exact ⟨⟨p, q, r, hr, hq, hp, hp', by rw [hF]; simp (disch := omega) only [upd_ne, upd_at], by rw [hF]; simp (disch := omega) only [upd_ne, upd_at], by rw [hF]; simp (disch := omega) only [upd_ne, upd_at]⟩, .inl ⟨by rw [hF]; simp (disch := omega) only [upd_ne, upd_at], by rw [hF]; simp (disch := omega) only [upd_ne, upd_at], by rw [hF]; simp (disch := omega) only [upd_ne, upd_at]⟩⟩
          · exact (R.ord o (by omega)).same (Nat.le_refl _) (fun w hw => hf _ (by omega) (by omega))
        · have : O = 10 := by omega
          subst this
          refine Rs.err R (r := -4) ?_
          rw [f_X6_takeOrder, s_size, s_size, s_size, s_cell7, R.c.f7]
          simp only [zb1_some, flag]
          rw [if_neg (fun t => t q1), if_neg (fun t => t q2), if_neg (fun t => t q3), if_neg (by decide)]
      · refine Rs.err R (r := -2) ?_
        rw [f_X6_takeOrder, s_size, s_size, s_size]
        simp only [zb1_some, flag]
        rw [if_neg (fun t => t q1), if_neg (fun t => t q2), if_pos q3]
    · refine Rs.err R (r := -2) ?_
      rw [f_X6_takeOrder, s_size, s_size]
      simp only [zb1_some, flag]
      rw [if_neg (fun t => t q1), if_pos q2]
  · refine Rs.err R (r := -2) ?_
    rw [f_X6_takeOrder, s_size]
    simp only [zb1_some, flag]
    rw [if_pos q1]
theorem st_give {k t B O : Nat} {f : Nat → Int32} (R : Inv f t B O) (p1 p2 : Int32) : Rs t (f_X6_giveBlock k f p1 p2) := by
  have hB := R.c.hB
  have hO := R.c.hO
  rcases h_ord R.c k p1 with ⟨o, o1, rfl, e1⟩ | ⟨-, e1⟩
  · rcases h_blk R.c k p2 with ⟨b, b1, rfl, e3⟩ | ⟨-, e3⟩
    · by_cases q : zgiv f o b = -6
      · refine Rs.err R (r := -5) ?_
        rw [f_X6_giveBlock, e1, e3, s_giv (by omega) (by omega), q]
        rfl
      · obtain ⟨c1, c2, c3⟩ := zgiv_c q
        obtain ⟨F, hF⟩ : ∃ F, F = upd (upd (upd f (272 + o * 6 + 3) 1) (272 + o * 6 + 4) (Int32.ofNat b)) (8 + b * 11 + 8) (Int32.ofNat o) := ⟨_, rfl⟩
        have x1 : f_X6_giveBlock k f (Int32.ofNat o) (Int32.ofNat b) = some (zgiv f o b, F) := by
          rw [f_X6_giveBlock, e1, e3, s_giv (by omega) (by omega)]
          simp only [zb1_some]
          rw [if_neg n10, if_neg n10, if_neg q, s_sord3 (by omega), zb1_some, s_sord4 (by omega), zb1_some, s_sblk8 (by omega), zb1_some, hF]
        refine Rs.ok x1 (R.own o1 b1 (fun i i1 i2 i3 => by rw [hF, upd_ne i3, upd_ne i2, upd_ne i1]) (.inl c1) (.inl ⟨c2, by rw [hF]; simp (disch := omega) only [upd_ne, upd_at], by rw [hF]; simp (disch := omega) only [upd_ne, upd_at], by rw [hF]; simp (disch := omega) only [upd_ne, upd_at]⟩) (fun c hc e h => .inr ?_))
        rw [c1]
        split <;> decide
    · exact Rs.err R (r := -1) (by rw [f_X6_giveBlock, e1, e3]; rfl)
  · exact Rs.err R (r := -1) (by rw [f_X6_giveBlock, e1]; rfl)
