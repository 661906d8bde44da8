/-! SIMPLE CHANGES -/
theorem Rel.set {f ms : Nat → Int32} {B O s : Nat} {v : Int32} (R : Rel f ms B O) (hs : s < 4) (hv : zLo s ≤ v ∧ v ≤ zHi s) : Rel (upd f s v) (upd ms s v) B O := by
  have hB := R.c.hB
  have hO := R.c.hO
  refine ⟨⟨hB, hO, by simp (disch := omega) only [upd_ne, upd_at]; exact R.c.f6, by simp (disch := omega) only [upd_ne, upd_at]; exact R.c.f7⟩, ⟨hB, hO, by simp (disch := omega) only [upd_ne, upd_at]; exact R.m.m5, by simp (disch := omega) only [upd_ne, upd_at]; exact R.m.m6⟩, ?_, R.ll.same (fun i _ _ => by simp (disch := omega) only [upd_ne, upd_at]) (fun i _ _ => by simp (disch := omega) only [upd_ne, upd_at]), R.lm.same (fun i _ _ => by simp (disch := omega) only [upd_ne, upd_at]), fun b hb => (R.blk b hb).same (fun w hw => by simp (disch := omega) only [upd_ne, upd_at]) (fun w hw => by simp (disch := omega) only [upd_ne, upd_at]) (fun o o1 o2 o3 o4 => ⟨o1, by simp (disch := omega) only [upd_ne, upd_at]; exact o3, by simp (disch := omega) only [upd_ne, upd_at]; exact o4⟩), R.uq.same (fun b hb => by simp (disch := omega) only [upd_ne, upd_at]), fun o ho => (R.ord o ho).same (Nat.le_refl _) (fun w hw => by simp (disch := omega) only [upd_ne, upd_at]) (fun w hw => by simp (disch := omega) only [upd_ne, upd_at]), R.sums.same (by simp (disch := omega) only [upd_ne, upd_at]) (by simp (disch := omega) only [upd_ne, upd_at]) (by simp (disch := omega) only [upd_ne, upd_at]) (by simp (disch := omega) only [upd_ne, upd_at]) (fun b hb => ⟨by simp (disch := omega) only [upd_ne, upd_at], by simp (disch := omega) only [upd_ne, upd_at], by simp (disch := omega) only [upd_ne, upd_at]⟩) (fun o ho => ⟨by simp (disch := omega) only [upd_ne, upd_at], by simp (disch := omega) only [upd_ne, upd_at]⟩)⟩
  have g := R.gen
  have c : s = 0 ∨ s = 1 ∨ s = 2 ∨ s = 3 := by omega
  obtain ⟨v1, v2⟩ := hv
  rw [i_le] at v1 v2
  unfold Gen at *
  rcases c with rfl | rfl | rfl | rfl
  · have t1 : (zLo 0).toInt = 0 := by decide
    have t2 : (zHi 0).toInt = 9 := by decide
    rw [t1] at v1
    rw [t2] at v2
    simp (disch := omega) only [upd_ne, upd_at]
    exact ⟨⟨trivial, g.1.2⟩, ⟨v1, v2⟩, g.2.2⟩
  · have t1 : (zLo 1).toInt = 1 := by decide
    have t2 : (zHi 1).toInt = 99 := by decide
    rw [t1] at v1
    rw [t2] at v2
    simp (disch := omega) only [upd_ne, upd_at]
    exact ⟨⟨g.1.1, trivial, g.1.2.2⟩, g.2.1, ⟨v1, v2⟩, g.2.2.2⟩
  · have t1 : (zLo 2).toInt = -20 := by decide
    have t2 : (zHi 2).toInt = 0 := by decide
    rw [t1] at v1
    rw [t2] at v2
    simp (disch := omega) only [upd_ne, upd_at]
    exact ⟨⟨g.1.1, g.1.2.1, trivial, g.1.2.2.2⟩, g.2.1, g.2.2.1, ⟨v1, v2⟩, g.2.2.2.2⟩
  · have t1 : (zLo 3).toInt = 0 := by decide
    have t2 : (zHi 3).toInt = 30 := by decide
    rw [t1] at v1
    rw [t2] at v2
    simp (disch := omega) only [upd_ne, upd_at]
    exact ⟨⟨g.1.1, g.1.2.1, g.1.2.2.1, trivial, g.1.2.2.2.2⟩, g.2.1, g.2.2.1, g.2.2.2.1, ⟨v1, v2⟩, g.2.2.2.2.2⟩
theorem i_add100 {x : Int32} (h1 : -20 ≤ x.toInt) (h2 : x.toInt ≤ 99) : ¬ x + 100 < 0 := by
  have t : (100 : Int32).toInt = 100 := by decide
  have t0 : (0 : Int32).toInt = 0 := by decide
  rw [i_lt, i_add (by rw [t]; omega) (by rw [t]; omega), t, t0]
  omega
theorem stp_set {k : Nat} {f ms : Nat → Int32} {B O : Nat} (R : Rel f ms B O) (p1 p2 : Int32) : Lay k f ms (f_X6_changeSetting k f p1 p2) (fun ah hi kp => f_X8_set k ms ah hi kp p1 p2) := by
  obtain ⟨⟨g0, g1, g2, g3, g4, g5⟩, ⟨r0, r0'⟩, ⟨r1, r1'⟩, ⟨r2, r2'⟩, ⟨r3, r3'⟩, -⟩ := R.gen
  by_cases h0 : p1 < 0
  · refine Lay.err R (r := -2) (by decide) (by rw [f_X6_changeSetting, if_pos h0]) (fun ah hi kp => ?_)
    rw [f_X8_set, if_neg (fun q => by rw [q] at h0; exact absurd h0 (by decide)), if_neg (fun q => by rw [q] at h0; exact absurd h0 (by decide)), if_neg (fun q => by rw [q] at h0; exact absurd h0 (by decide)), if_neg (fun q => by rw [q] at h0; exact absurd h0 (by decide)), if_pos rfl]
  · by_cases h4 : (4 : Int32) ≤ p1
    · refine Lay.err R (r := -2) (by decide) (by rw [f_X6_changeSetting, if_neg h0, if_pos h4]) (fun ah hi kp => ?_)
      rw [f_X8_set, if_neg (fun q => by rw [q] at h4; exact absurd h4 (by decide)), if_neg (fun q => by rw [q] at h4; exact absurd h4 (by decide)), if_neg (fun q => by rw [q] at h4; exact absurd h4 (by decide)), if_neg (fun q => by rw [q] at h4; exact absurd h4 (by decide)), if_pos rfl]
    · obtain ⟨s, s1, rfl⟩ := n_of (n := 4) h0 h4 (by omega)
      have e1 : f_X6_changeSetting k f (Int32.ofNat s) p2 = if ¬ p2 < zLo s ∧ ¬ zHi s < p2 then some (f s + 100, upd f s p2) else some (-2, f) := by
        rw [f_X6_changeSetting, if_neg h0, if_neg h4, n_zin s1 (by omega), zg_true, n_nat (by omega), s_cell (by omega), s_set (by omega)]
        simp only [zb1_some, zl_e]
        by_cases q1 : p2 < zLo s
        · rw [if_pos q1, if_neg (fun q => q.1 q1)]
        · rw [if_neg q1]
          by_cases q2 : zHi s < p2
          · rw [if_pos q2, if_neg (fun q => q.2 q2)]
          · rw [if_neg q2, if_pos ⟨q1, q2⟩]
      have e2 : ∀ ah hi kp, f_X8_set k ms ah hi kp (Int32.ofNat s) p2 = if ¬ p2 < zLo s ∧ ¬ zHi s < p2 then zb5 (f_X8_lays k ms ah hi kp (Int32.ofNat s) p2) (fun v35 ms36 ah37 hi38 kp39 => some (v35 + 100, ms36, ah37, hi38, kp39)) else some (-2, ms, ah, hi, kp) := by
        intro ah hi kp
        have c : s = 0 ∨ s = 1 ∨ s = 2 ∨ s = 3 := by omega
        rw [f_X8_set]
        simp only [m_in, zb1_some, zl_e, flag]
        rcases c with rfl | rfl | rfl | rfl
        · rw [if_pos (by decide)]
          rw [show zLo 0 = (0 : Int32) from rfl, show zHi 0 = (9 : Int32) from rfl]
          by_cases q : ¬ p2 < (0 : Int32) ∧ ¬ (9 : Int32) < p2
          · rw [if_pos q, if_neg (fun r => r q)]
          · rw [if_neg q, if_pos q]
        · rw [if_neg (by decide), if_pos (by decide)]
          rw [show zLo 1 = (1 : Int32) from rfl, show zHi 1 = (99 : Int32) from rfl]
          by_cases q : ¬ p2 < (1 : Int32) ∧ ¬ (99 : Int32) < p2
          · rw [if_pos q, if_neg (fun r => r q)]
          · rw [if_neg q, if_pos q]
        · rw [if_neg (by decide), if_neg (by decide), if_pos (by decide)]
          rw [show zLo 2 = (-20 : Int32) from rfl, show zHi 2 = (0 : Int32) from rfl]
          by_cases q : ¬ p2 < (-20 : Int32) ∧ ¬ (0 : Int32) < p2
          · rw [if_pos q, if_neg (fun r => r q)]
          · rw [if_neg q, if_pos q]
        · rw [if_neg (by decide), if_neg (by decide), if_neg (by decide), if_pos (by decide)]
          rw [show zLo 3 = (0 : Int32) from rfl, show zHi 3 = (30 : Int32) from rfl]
          by_cases q : ¬ p2 < (0 : Int32) ∧ ¬ (30 : Int32) < p2
          · rw [if_pos q, if_neg (fun r => r q), if_neg n10]
          · rw [if_neg q, if_pos q]
            rfl
      by_cases q : ¬ p2 < zLo s ∧ ¬ zHi s < p2
      · rw [if_pos q] at e1
        refine ⟨_, _, upd ms s p2, B, O, e1, R.set s1 ⟨?_, ?_⟩, .inr ⟨?_, fun ah hi kp ah1 hi1 kp1 l1 l2 => ?_⟩⟩
        · rw [i_le]
          have := q.1
          rw [i_lt] at this
          omega
        · rw [i_le]
          have := q.2
          rw [i_lt] at this
          omega
        · have c : s = 0 ∨ s = 1 ∨ s = 2 ∨ s = 3 := by omega
          rcases c with rfl | rfl | rfl | rfl
          · exact i_add100 (by omega) (by omega)
          · exact i_add100 (by omega) (by omega)
          · exact i_add100 (by omega) (by omega)
          · exact i_add100 (by omega) (by omega)
        · show f_X8_set k ms ah hi kp (Int32.ofNat s) p2 = _
          rw [e2, if_pos q, m_lays (by omega) l1 l2, zb5_some]
          have c : s = 0 ∨ s = 1 ∨ s = 2 ∨ s = 3 := by omega
          rcases c with rfl | rfl | rfl | rfl
          · rw [g0]
          · rw [g1]
          · rw [g2]
          · rw [g3]
      · rw [if_neg q] at e1
        exact Lay.err R (by decide) e1 (fun ah hi kp => by show f_X8_set k ms ah hi kp (Int32.ofNat s) p2 = _; rw [e2, if_neg q])
/-- a change of one block's place among yard and roof -/
theorem Rel.move {f ms : Nat → Int32} {B O b : Nat} {v : Int32} (R : Rel f ms B O) (hb : b < B) (hv : v = 0 ∨ v = 1) (ho : f (8 + b * 11 + 5) = 0 ∨ f (8 + b * 11 + 5) = 1) (hr : v = 1 → f (8 + b * 11 + 5) = 1 ∨ zcnt (fun b => decide (f (8 + b * 11 + 5) = 1)) B < 4) : Rel (upd f (8 + b * 11 + 5) v) (upd ms (12 + 10 * b + 4) v) B O := by
  have hB := R.c.hB
  have hO := R.c.hO
  have v34 : ¬ v = 3 ∧ ¬ v = 4 ∧ ¬ v = 2 := by rcases hv with rfl | rfl <;> decide
  have o34 : ¬ f (8 + b * 11 + 5) = 3 ∧ ¬ f (8 + b * 11 + 5) = 4 ∧ ¬ f (8 + b * 11 + 5) = 2 := by rcases ho with q | q <;> rw [q] <;> decide
  refine ⟨⟨hB, hO, by simp (disch := omega) only [upd_ne, upd_at]; exact R.c.f6, by simp (disch := omega) only [upd_ne, upd_at]; exact R.c.f7⟩, ⟨hB, hO, by simp (disch := omega) only [upd_ne, upd_at]; exact R.m.m5, by simp (disch := omega) only [upd_ne, upd_at]; exact R.m.m6⟩, R.gen.same (fun i _ => by simp (disch := omega) only [upd_ne, upd_at]) (fun i _ => by simp (disch := omega) only [upd_ne, upd_at]), R.ll.same (fun i _ _ => by simp (disch := omega) only [upd_ne, upd_at]) (fun i _ _ => by simp (disch := omega) only [upd_ne, upd_at]), R.lm.same (fun i _ _ => by simp (disch := omega) only [upd_ne, upd_at]), fun c hc => ?_, R.uq.same (fun b hb => by simp (disch := omega) only [upd_ne, upd_at]), fun o ho => (R.ord o ho).same (Nat.le_refl _) (fun w hw => by simp (disch := omega) only [upd_ne, upd_at]) (fun w hw => by simp (disch := omega) only [upd_ne, upd_at]), ?_⟩
  · by_cases e : c = b
    · subst e
      obtain ⟨h1, h2, h3, h4, h5, h6, h7, h8, h9, h10⟩ := R.blk c hc
      have m : mw (upd ms (12 + 10 * c + 4) v) c = mw ms c := by unfold mw; simp (disch := omega) only [upd_ne, upd_at]
      refine ⟨fun w hw => ?_, fun w w1 w2 => ?_, fun a ha => ?_, ?_, ?_, ?_, ?_, ?_, ?_, ?_⟩
      · simp (disch := omega) only [upd_ne, upd_at]; exact h1 w hw
      · by_cases q : w = 4
        · subst q; simp (disch := omega) only [upd_ne, upd_at]
        · simp (disch := omega) only [upd_ne, upd_at]; exact h2 w w1 w2
      · simp (disch := omega) only [upd_ne, upd_at]; exact h3 a ha
      · simp (disch := omega) only [upd_ne, upd_at]; exact h4
      · rw [m]; simp (disch := omega) only [upd_ne, upd_at]; exact h5
      · simp (disch := omega) only [upd_ne, upd_at]; exact h6
      · simp (disch := omega) only [upd_ne, upd_at]; exact h7
      · simp (disch := omega) only [upd_ne, upd_at]; exact fun q => absurd q v34.2.2
      · simp (disch := omega) only [upd_ne, upd_at]; exact fun _ => h9 o34.2.2
      · simp (disch := omega) only [upd_ne, upd_at]; intro q1 _
        obtain ⟨o, o1, o2, o3, o4⟩ := h10 q1 o34.1
        exact ⟨o, o1, o2, o3, o4⟩
    · exact (R.blk c hc).same (fun w hw => upd_ne (by omega)) (fun w hw => upd_ne (by omega)) (fun o o1 o2 o3 o4 => ⟨o1, by simp (disch := omega) only [upd_ne, upd_at]; exact o3, by simp (disch := omega) only [upd_ne, upd_at]; exact o4⟩)
  · obtain ⟨s1, s2, s3, s4, s5⟩ := R.sums
    have w4 : ∀ c, upd f (8 + b * 11 + 5) v (8 + c * 11 + 4) = f (8 + c * 11 + 4) := fun c => by simp (disch := omega) only [upd_ne, upd_at]
    have w10 : ∀ c, upd f (8 + b * 11 + 5) v (8 + c * 11 + 10) = f (8 + c * 11 + 10) := fun c => by simp (disch := omega) only [upd_ne, upd_at]
    have w5 : ∀ c, c < B → c ≠ b → upd f (8 + b * 11 + 5) v (8 + c * 11 + 5) = f (8 + c * 11 + 5) := fun c _ _ => by simp (disch := omega) only [upd_ne, upd_at]
    have wb : upd f (8 + b * 11 + 5) v (8 + b * 11 + 5) = v := upd_at
    have o5 : ∀ o, upd f (8 + b * 11 + 5) v (272 + o * 6 + 5) = f (272 + o * 6 + 5) := fun o => by simp (disch := omega) only [upd_ne, upd_at]
    have o3 : ∀ o, upd f (8 + b * 11 + 5) v (272 + o * 6 + 3) = f (272 + o * 6 + 3) := fun o => by simp (disch := omega) only [upd_ne, upd_at]
    unfold Sums
    simp only [w4, w10, o5, o3]
    have q4 : zsum (fun b => f (8 + b * 11 + 4)) (fun c => !decide (upd f (8 + b * 11 + 5) v (8 + c * 11 + 5) = 4)) B = zsum (fun b => f (8 + b * 11 + 4)) (fun b => !decide (f (8 + b * 11 + 5) = 4)) B := zsum_congr (fun c hc => by
      by_cases e : c = b
      · subst e; rw [wb]; simp [v34.2.1, o34.2.1]
      · rw [w5 c hc e]) (fun _ _ _ => rfl)
    have q3 : zsum (fun b => f (8 + b * 11 + 4)) (fun c => decide (upd f (8 + b * 11 + 5) v (8 + c * 11 + 5) = 3)) B = zsum (fun b => f (8 + b * 11 + 4)) (fun b => decide (f (8 + b * 11 + 5) = 3)) B := zsum_congr (fun c hc => by
      by_cases e : c = b
      · subst e; rw [wb]; simp [v34.1, o34.1]
      · rw [w5 c hc e]) (fun _ _ _ => rfl)
    have q1 := zcnt_chg (P := fun b => decide (f (8 + b * 11 + 5) = 1)) (Q := fun c => decide (upd f (8 + b * 11 + 5) v (8 + c * 11 + 5) = 1)) (b0 := b) B hb (fun c hc e => by rw [w5 c hc e])
    rw [q4, q3]
    refine ⟨by simp (disch := omega) only [upd_ne, upd_at]; exact s1, by simp (disch := omega) only [upd_ne, upd_at]; exact s2, by simp (disch := omega) only [upd_ne, upd_at]; exact s3, by simp (disch := omega) only [upd_ne, upd_at]; exact s4, ?_⟩
    rw [wb] at q1
    rcases hv with rfl | rfl
    · simp at q1
      split at q1 <;> omega
    · rcases hr rfl with r | r
      · rw [r] at q1
        simp at q1
        omega
      · simp at q1
        split at q1 <;> omega
theorem stp_shelter {k : Nat} {f ms : Nat → Int32} {B O : Nat} (R : Rel f ms B O) (hk : 25 ≤ k) (p1 : Int32) : Lay k f ms (f_X6_moveBlock k f p1) (fun ah hi kp => f_X8_shelter k ms ah hi kp p1) := by
  have hB := R.c.hB
  rcases j_blk R k p1 with ⟨b, b1, rfl, e1, e2⟩ | ⟨e1, e2⟩
  · have h := R.blk b b1
    have c4 : f (8 + b * 11 + 5) = ms (12 + 10 * b + 4) := h.2.1 4 (by omega) (by omega)
    have fl : ∀ b, b < B → f (8 + b * 11 + 5) = ms (12 + 10 * b + 4) := fun b hb => (R.blk b hb).2.1 4 (by omega) (by omega)
    have ez : zcnt (fun b => decide (ms (12 + 10 * b + 4) = 1)) B = zcnt (fun b => decide (f (8 + b * 11 + 5) = 1)) B := zcnt_congr (fun b hb => by rw [fl b hb])
    have z4 := R.sums.2.2.2.2
    have x1 : f_X6_moveBlock k f (Int32.ofNat b) = if ¬ (f (8 + b * 11 + 5) = 0 ∨ f (8 + b * 11 + 5) = 1) then some (-5, f) else if f (8 + b * 11 + 5) = 0 then (if ¬ zcnt (fun b => decide (f (8 + b * 11 + 5) = 1)) B < 4 then some (-4, f) else some (1, upd f (8 + b * 11 + 5) 1)) else some (0, upd f (8 + b * 11 + 5) 0) := by
      rw [f_X6_moveBlock, e1, s_hand (by omega), s_blk5 (by omega), s_roof R.c hk]
      simp only [zb1_some, flag, f_X6_moveBlock_b52, f_X6_moveBlock_b69, s_blk5 (show b < 24 by omega), s_sblk5 (show b < 24 by omega)]
      rw [if_neg n10]
      by_cases q0 : f (8 + b * 11 + 5) = 0
      · simp only [q0, if_true]
      · simp only [q0, if_false]
    have x2 : ∀ ah hi kp, f_X8_shelter k ms ah hi kp (Int32.ofNat b) = if ¬ (f (8 + b * 11 + 5) = 0 ∨ f (8 + b * 11 + 5) = 1) then some (-5, ms, ah, hi, kp) else if f (8 + b * 11 + 5) = 0 then (if zcnt (fun b => decide (f (8 + b * 11 + 5) = 1)) B = 4 then some (-4, ms, ah, hi, kp) else zb5 (f_X8_lays k ms ah hi kp (Int32.ofNat (12 + 10 * b + 4)) 1) (fun _ ms6 ah7 hi8 kp9 => some (1, ms6, ah7, hi8, kp9))) else zb5 (f_X8_lays k ms ah hi kp (Int32.ofNat (12 + 10 * b + 4)) 0) (fun _ ms6 ah7 hi8 kp9 => some (0, ms6, ah7, hi8, kp9)) := by
      intro ah hi kp
      have zl := zcnt_le (P := fun b => decide (f (8 + b * 11 + 5) = 1)) B
      rw [f_X8_shelter, e2, m_hand (by omega), m_isAt (by omega), m_under R.m hk, ez, ← c4]
      simp only [zb1_some, flag, f_X8_shelter_b43, f_X8_shelter_b58, m_at4]
      rw [if_neg n10]
      by_cases q : f (8 + b * 11 + 5) = 0 ∨ f (8 + b * 11 + 5) = 1
      · have nq : ¬ ¬ (f (8 + b * 11 + 5) = 0 ∨ f (8 + b * 11 + 5) = 1) := fun r => r q
        have n01 : ¬ (0 : Int32) = 1 := by decide
        rw [if_neg nq, if_neg nq]
        rcases q with q | q
        · have e4 : (Int32.ofNat (zcnt (fun b => decide (f (8 + b * 11 + 5) = 1)) B) = 4) ↔ zcnt (fun b => decide (f (8 + b * 11 + 5) = 1)) B = 4 := n_inj (b := 4) (by omega) (by omega)
          have q1 : ¬ f (8 + b * 11 + 5) = 1 := by rw [q]; exact n01
          simp only [e4, q1, not_false_eq_true, if_true, if_pos q]
        · have q0 : ¬ f (8 + b * 11 + 5) = 0 := by rw [q]; exact n10
          simp only [q, not_true_eq_false, if_false, if_neg q0, n10]
      · rw [if_pos q, if_pos q]
    by_cases q : f (8 + b * 11 + 5) = 0 ∨ f (8 + b * 11 + 5) = 1
    · rw [if_neg (fun r => r q)] at x1
      by_cases q0 : f (8 + b * 11 + 5) = 0
      · rw [if_pos q0] at x1
        by_cases qz : zcnt (fun b => decide (f (8 + b * 11 + 5) = 1)) B < 4
        · rw [if_neg (fun r => r qz)] at x1
          refine ⟨_, _, upd ms (12 + 10 * b + 4) 1, B, O, x1, R.move b1 (.inr rfl) q (fun _ => .inr qz), .inr ⟨by decide, fun ah hi kp ah1 hi1 kp1 l1 l2 => ?_⟩⟩
          show f_X8_shelter k ms ah hi kp (Int32.ofNat b) = _
          rw [x2, if_neg (fun r => r q), if_pos q0, if_neg (by omega), m_lays (by omega) l1 l2, zb5_some]
        · rw [if_pos qz] at x1
          refine Lay.err R (by decide) x1 (fun ah hi kp => ?_)
          show f_X8_shelter k ms ah hi kp (Int32.ofNat b) = _
          rw [x2, if_neg (fun r => r q), if_pos q0, if_pos (by omega)]
      · rw [if_neg q0] at x1
        refine ⟨_, _, upd ms (12 + 10 * b + 4) 0, B, O, x1, R.move b1 (.inl rfl) q (fun r => absurd r (by decide)), .inr ⟨by decide, fun ah hi kp ah1 hi1 kp1 l1 l2 => ?_⟩⟩
        show f_X8_shelter k ms ah hi kp (Int32.ofNat b) = _
        rw [x2, if_neg (fun r => r q), if_neg q0, m_lays (by omega) l1 l2, zb5_some]
    · rw [if_pos q] at x1
      exact Lay.err R (by decide) x1 (fun ah hi kp => by show f_X8_shelter k ms ah hi kp (Int32.ofNat b) = _; rw [x2, if_pos q])
  · exact Lay.err R (r := -1) (by decide) (by rw [f_X6_moveBlock, e1]; rfl) (fun ah hi kp => by show f_X8_shelter k ms ah hi kp p1 = _; rw [f_X8_shelter, e2]; rfl)
