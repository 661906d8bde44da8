/-! LOADING, UNLOADING -/
theorem Rel.spot {f ms f' ms' : Nat → Int32} {B O b : Nat} (R : Rel f ms B O) (hb : b < B)
    (hf : ∀ i, i ≠ 8 + b * 11 + 5 → i ≠ 8 + b * 11 + 9 → f' i = f i) (hm : ∀ i, i ≠ 12 + 10 * b + 4 → i ≠ 12 + 10 * b + 8 → ms' i = ms i)
    (e5 : f' (8 + b * 11 + 5) = ms' (12 + 10 * b + 4)) (e9 : f' (8 + b * 11 + 9) = ms' (12 + 10 * b + 8))
    (h5 : f (8 + b * 11 + 5) = 0 ∨ f (8 + b * 11 + 5) = 1 ∨ f (8 + b * 11 + 5) = 2) (h5' : f' (8 + b * 11 + 5) = 0 ∨ f' (8 + b * 11 + 5) = 2)
    (s1 : f' (8 + b * 11 + 5) = 2 → ∃ s, s < 15 ∧ f' (8 + b * 11 + 9) = Int32.ofNat s) (s2 : f' (8 + b * 11 + 5) = 0 → f' (8 + b * 11 + 9) = -6)
    (hu : ∀ c, c < B → c ≠ b → ¬ f' (8 + b * 11 + 9) = -6 → ¬ f (8 + c * 11 + 9) = f' (8 + b * 11 + 9)) : Rel f' ms' B O := by
  have hB := R.c.hB
  have hO := R.c.hO
  have n34 : ¬ f (8 + b * 11 + 5) = 3 ∧ ¬ f (8 + b * 11 + 5) = 4 := by rcases h5 with q | q | q <;> rw [q] <;> decide
  have m34 : ¬ f' (8 + b * 11 + 5) = 3 ∧ ¬ f' (8 + b * 11 + 5) = 4 ∧ ¬ f' (8 + b * 11 + 5) = 1 := by rcases h5' with q | q <;> rw [q] <;> decide
  refine ⟨⟨hB, hO, by rw [hf 6 (by omega) (by omega)]; exact R.c.f6, by rw [hf 7 (by omega) (by omega)]; exact R.c.f7⟩, ⟨hB, hO, by rw [hm 5 (by omega) (by omega)]; exact R.m.m5, by rw [hm 6 (by omega) (by omega)]; exact R.m.m6⟩, R.gen.same (fun i _ => hf i (by omega) (by omega)) (fun i _ => hm i (by omega) (by omega)), R.ll.same (fun i _ _ => hf i (by omega) (by omega)) (fun i _ _ => hm i (by omega) (by omega)), R.lm.same (fun i _ _ => hf i (by omega) (by omega)), fun c hc => ?_, ?_, fun p hp => (R.ord p hp).same (Nat.le_refl _) (fun w hw => hf _ (by omega) (by omega)) (fun w hw => hm _ (by omega) (by omega)), ?_⟩
  · by_cases e : c = b
    · subst e
      obtain ⟨h1, h2, h3, h4, h5a, h6, h7, h8, h9, h10⟩ := R.blk c hc
      have m : mw ms' c = mw ms c := by
        unfold mw
        rw [hm _ (by omega) (by omega), hm _ (by omega) (by omega), hm _ (by omega) (by omega), hm _ (by omega) (by omega)]
      have ff : ∀ w, w < 11 → w ≠ 5 → w ≠ 9 → f' (8 + c * 11 + w) = f (8 + c * 11 + w) := fun w w1 w2 w3 => hf _ (by omega) (by omega)
      refine ⟨fun w hw => ?_, fun w w1 w2 => ?_, fun a ha => ?_, ?_, ?_, ?_, ?_, s1, fun q => ?_, ?_⟩
      · rw [ff w (by omega) (by omega) (by omega), hm _ (by omega) (by omega)]; exact h1 w hw
      · by_cases q : w = 4
        · subst q; exact e5
        · by_cases q8 : w = 8
          · subst q8; exact e9
          · rw [ff (w + 1) (by omega) (by omega) (by omega), hm _ (by omega) (by omega)]; exact h2 w w1 w2
      · rw [ff a (by omega) (by omega) (by omega)]; exact h3 a ha
      · rw [ff 3 (by omega) (by omega) (by omega)]; exact h4
      · rw [ff 4 (by omega) (by omega) (by omega), m]; exact h5a
      · rw [ff 6 (by omega) (by omega) (by omega)]; exact h6
      · rw [ff 7 (by omega) (by omega) (by omega)]; exact h7
      · exact s2 (h5'.resolve_right q)
      · rw [ff 8 (by omega) (by omega) (by omega)]
        intro q _
        obtain ⟨o, o1, o2, o3, o4⟩ := h10 q n34.1
        exact ⟨o, o1, o2, by rw [hf _ (by omega) (by omega)]; exact o3, by rw [hf _ (by omega) (by omega)]; exact o4⟩
    · exact (R.blk c hc).same (fun w hw => hf _ (by omega) (by omega)) (fun w hw => hm _ (by omega) (by omega)) (fun o o1 o2 o3 o4 => ⟨o1, by rw [hf _ (by omega) (by omega)]; exact o3, by rw [hf _ (by omega) (by omega)]; exact o4⟩)
  · intro c hc d hd e n
    have e : f' (8 + c * 11 + 9) = f' (8 + d * 11 + 9) := e
    have n : ¬ f' (8 + c * 11 + 9) = -6 := n
    by_cases c1 : c = b
    · by_cases d1 : d = b
      · rw [c1, d1]
      · exfalso
        subst c1
        rw [hf (8 + d * 11 + 9) (by omega) (by omega)] at e
        exact hu d hd d1 n e.symm
    · by_cases d1 : d = b
      · exfalso
        subst d1
        rw [e] at n
        rw [hf (8 + c * 11 + 9) (by omega) (by omega)] at e
        exact hu c hc c1 n e
      · rw [hf (8 + c * 11 + 9) (by omega) (by omega), hf (8 + d * 11 + 9) (by omega) (by omega)] at e
        rw [hf (8 + c * 11 + 9) (by omega) (by omega)] at n
        exact R.uq c hc d hd e n
  · obtain ⟨t1, t2, t3, t4, t5⟩ := R.sums
    have x1 : zsum (fun b => f' (8 + b * 11 + 4)) (fun b => decide (f' (8 + b * 11 + 10) = -6)) B = zsum (fun b => f (8 + b * 11 + 4)) (fun b => decide (f (8 + b * 11 + 10) = -6)) B := zsum_congr (fun c hc => by rw [hf _ (by omega) (by omega)]) (fun c hc _ => hf _ (by omega) (by omega))
    have x2 : zsum (fun b => f' (8 + b * 11 + 4)) (fun b => !decide (f' (8 + b * 11 + 5) = 4)) B = zsum (fun b => f (8 + b * 11 + 4)) (fun b => !decide (f (8 + b * 11 + 5) = 4)) B := zsum_congr (fun c hc => by
      by_cases e : c = b
      · subst e; simp [n34.2, m34.2.1]
      · rw [hf _ (by omega) (by omega)]) (fun c hc _ => hf _ (by omega) (by omega))
    have x3 : zsum (fun b => f' (8 + b * 11 + 4)) (fun b => decide (f' (8 + b * 11 + 5) = 3)) B = zsum (fun b => f (8 + b * 11 + 4)) (fun b => decide (f (8 + b * 11 + 5) = 3)) B := zsum_congr (fun c hc => by
      by_cases e : c = b
      · subst e; simp [n34.1, m34.1]
      · rw [hf _ (by omega) (by omega)]) (fun c hc _ => hf _ (by omega) (by omega))
    have x4 : zsum (fun b => f' (272 + b * 6 + 5)) (fun b => decide (f' (272 + b * 6 + 3) = 2)) O = zsum (fun b => f (272 + b * 6 + 5)) (fun b => decide (f (272 + b * 6 + 3) = 2)) O := zsum_congr (fun c hc => by rw [hf _ (by omega) (by omega)]) (fun c hc _ => hf _ (by omega) (by omega))
    have x5 := zcnt_chg (P := fun b => decide (f (8 + b * 11 + 5) = 1)) (Q := fun b => decide (f' (8 + b * 11 + 5) = 1)) (b0 := b) B hb (fun c hc e => by rw [hf _ (by omega) (by omega)])
    unfold Sums
    rw [x1, x2, x3, x4, hm 8 (by omega) (by omega), hm 9 (by omega) (by omega), hm 10 (by omega) (by omega), hm 11 (by omega) (by omega)]
    refine ⟨t1, t2, t3, t4, ?_⟩
    have : decide (f' (8 + b * 11 + 5) = 1) = false := decide_eq_false m34.2.2
    rw [this] at x5
    simp at x5
    split at x5 <;> omega
theorem k_load {k l : Nat} {f ms : Nat → Int32} {B O : Nat} (R : Rel f ms B O) (hk : 25 ≤ k) (hl : l < 3) : ∃ r, ¬ r < 0 ∧ f_X1_loadOf k f (Int32.ofNat l) = some r ∧ f_X8_loadOf k ms (Int32.ofNat l) = some r := by
  have hB := R.c.hB
  have e3 := zsum_nat (w := fun b => f (8 + b * 11 + 4)) (W := fun b => (f (8 + b * 11 + 4)).toNatClampNeg) (P := zon (fun b => f (8 + b * 11 + 9)) l) B (fun b hb _ => (R.lw.1 b hb).1)
  have e4 := nsum_le (W := fun b => (f (8 + b * 11 + 4)).toNatClampNeg) (P := zon (fun b => f (8 + b * 11 + 9)) l) (M := 81000) B (fun b hb => (R.lw.1 b hb).2.1)
  have e5 : B * 81000 ≤ 24 * 81000 := Nat.mul_le_mul_right _ hB
  refine ⟨_, ?_, s_load R.c hk, ?_⟩
  · rw [e3]; exact n_lt0 (by omega)
  · rw [m_load R.m hk hl R.lw.um, zsum_congr (R.lw.on l) (fun b hb _ => by rw [(R.lw.1 b hb).2.2.1, ← (R.lw.1 b hb).1])]
theorem stp_load {k : Nat} {f ms : Nat → Int32} {B O : Nat} (R : Rel f ms B O) (hk : 25 ≤ k) (p1 p2 p3 : Int32) : Step f ms (f_X6_loadBlock k f p1 p2 p3) (f_X8_loads k ms p1 p2 p3) := by
  have hB := R.c.hB
  rcases j_blk R k p1 with ⟨b, b1, rfl, e1, e2⟩ | ⟨e1, e2⟩
  · rcases j_lor k p2 with ⟨l, l1, rfl, e3, e4⟩ | ⟨e3, e4⟩
    · have c4 : f (8 + b * 11 + 5) = ms (12 + 10 * b + 4) := (R.blk b b1).2.1 4 (by omega) (by omega)
      have x1 : f_X6_loadBlock k f (Int32.ofNat b) (Int32.ofNat l) p3 = if p3 < 0 then some (-1, f) else if p3 < 5 then zb1 (f_X1_isAtHand k f (Int32.ofNat b)) (fun v3 => if v3 = 0 then some (-5, f) else zb1 (f_X1_isFree k f (Int32.ofNat l) p3) (fun v4 => if v4 = 0 then some (-5, f) else zb1 (f_X5_setBlockCell k f (Int32.ofNat b) 5 2) (fun f5 => zb1 (f_X5_setBlockCell k f5 (Int32.ofNat b) 9 (5 * Int32.ofNat l + p3)) (fun f8 => zb1 (f_X1_loadOf k f8 (Int32.ofNat l)) (fun v9 => some (v9, f8)))))) else some (-1, f) := by
        rw [f_X6_loadBlock, e1, e3]
        simp only [zb1_some, zl_e]
        rw [if_neg n10, if_neg n10]
      have x2 : f_X8_loads k ms (Int32.ofNat b) (Int32.ofNat l) p3 = if ¬ (¬ p3 < 0 ∧ ¬ (4 : Int32) < p3) then some (-1, ms) else zb1 (f_X8_isHere k ms (Int32.ofNat b)) (fun v4 => if v4 = 0 then some (-5, ms) else zb1 (f_X8_blockAt k ms (Int32.ofNat l) p3) (fun v5 => if v5 = -6 then zb1 (f_X8_loadOf k (upd (upd ms (12 + 10 * b + 4) 2) (12 + 10 * b + 8) (5 * Int32.ofNat l + p3)) (Int32.ofNat l)) (fun v12 => some (v12, upd (upd ms (12 + 10 * b + 4) 2) (12 + 10 * b + 8) (5 * Int32.ofNat l + p3))) else some (-5, ms))) := by
        rw [f_X8_loads, e2, e4]
        simp only [zb1_some, m_in, flag, m_at4, m_at8]
        rw [if_neg n10, if_neg n10]
        simp (disch := omega) only [zl_e, zb1_some, zb2_some, zb3_some, zb4_some, zb5_some, m_g, n_nat, n_suc]
      by_cases q : ¬ p3 < 0 ∧ ¬ (4 : Int32) < p3
      · obtain ⟨p, -, p4, rfl⟩ := n_btw (a := 0) (b := 4) (by omega) (by omega) q
        rw [if_neg q.1, if_pos (show Int32.ofNat p < 5 from (n_lt (b := 5) (by omega) (by omega)).mpr (by omega)), s_hand (by omega), s_free R.c hk, n_5l] at x1
        rw [if_neg (fun r => r q), m_hand (by omega), m_blockAt' R.m hk, n_5l, ← c4] at x2
        simp only [zb1_some, flag] at x1 x2
        have pl := R.lw.place hB (show 5 * l + p < 2147483648 by omega)
        by_cases qh : f (8 + b * 11 + 5) = 0 ∨ f (8 + b * 11 + 5) = 1
        · rw [if_neg (fun r => r qh)] at x1 x2
          rcases pl.2.2 with ⟨z1, z2, z3⟩ | ⟨c, z1, z2, z3, z4⟩
          · rw [if_neg (fun r => r z3), s_sblk5 (by omega), zb1_some, s_sblk9 (by omega), zb1_some] at x1
            rw [if_pos z1] at x2
            obtain ⟨F, hF⟩ : ∃ F, F = upd (upd f (8 + b * 11 + 5) 2) (8 + b * 11 + 9) (Int32.ofNat (5 * l + p)) := ⟨_, rfl⟩
            obtain ⟨M, hM⟩ : ∃ M, M = upd (upd ms (12 + 10 * b + 4) 2) (12 + 10 * b + 8) (Int32.ofNat (5 * l + p)) := ⟨_, rfl⟩
            rw [← hF] at x1
            rw [← hM] at x2
            have R' : Rel F M B O := R.spot b1 (fun i i1 i2 => by rw [hF, upd_ne i2, upd_ne i1]) (fun i i1 i2 => by rw [hM, upd_ne i2, upd_ne i1]) (by rw [hF, hM]; simp (disch := omega) only [upd_ne, upd_at]) (by rw [hF, hM]; simp (disch := omega) only [upd_ne, upd_at]) (by rcases qh with w | w; exact .inl w; exact .inr (.inl w)) (by rw [hF]; simp (disch := omega) only [upd_ne, upd_at]; exact .inr trivial) (fun _ => ⟨5 * l + p, by omega, by rw [hF]; simp (disch := omega) only [upd_ne, upd_at]⟩) (fun t => by rw [hF] at t; simp (disch := omega) only [upd_ne, upd_at] at t; exact absurd t (by decide)) (fun c hc e _ t => by
              rw [hF] at t
              simp (disch := omega) only [upd_ne, upd_at] at t
              have := (b_empty (by omega)).mp z3 c hc
              rw [show zat (fun b => f (8 + b * 11 + 9)) (5 * l + p) c = true from decide_eq_true t] at this
              cases this)
            obtain ⟨r, r0, r1, r2⟩ := k_load (k := k) R' hk l1
            rw [r1, zb1_some] at x1
            rw [r2, zb1_some] at x2
            exact ⟨r, F, M, B, O, x1, x2, R', fun t => absurd t r0⟩
          · rw [if_pos z4] at x1
            rw [z2, if_neg (n_neg6 (by omega))] at x2
            exact Step.err R x1 x2
        · rw [if_pos qh] at x1 x2
          exact Step.err R x1 x2
      · rw [if_pos q] at x2
        have : (if p3 < 0 then some ((-1 : Int32), f) else if p3 < 5 then zb1 (f_X1_isAtHand k f (Int32.ofNat b)) (fun v3 => if v3 = 0 then some (-5, f) else zb1 (f_X1_isFree k f (Int32.ofNat l) p3) (fun v4 => if v4 = 0 then some (-5, f) else zb1 (f_X5_setBlockCell k f (Int32.ofNat b) 5 2) (fun f5 => zb1 (f_X5_setBlockCell k f5 (Int32.ofNat b) 9 (5 * Int32.ofNat l + p3)) (fun f8 => zb1 (f_X1_loadOf k f8 (Int32.ofNat l)) (fun v9 => some (v9, f8)))))) else some (-1, f)) = some (-1, f) := by
          by_cases q0 : p3 < 0
          · rw [if_pos q0]
          · rw [if_neg q0]
            by_cases q5 : p3 < 5
            · exfalso
              refine q ⟨q0, fun r => ?_⟩
              have t4 : (4 : Int32).toInt = 4 := by decide
              have t5 : (5 : Int32).toInt = 5 := by decide
              rw [i_lt, t4] at r
              rw [i_lt, t5] at q5
              omega
            · rw [if_neg q5]
        rw [this] at x1
        exact Step.err R x1 x2
    · exact Step.err R (r := -1) (by rw [f_X6_loadBlock, e1, e3]; rfl) (by rw [f_X8_loads, e2, e4]; rfl)
  · exact Step.err R (r := -1) (by rw [f_X6_loadBlock, e1]; rfl) (by rw [f_X8_loads, e2]; rfl)
theorem d_5 : ∀ s, s < 15 → Int32.ofNat s / 5 = Int32.ofNat (s / 5) := by decide +kernel
theorem stp_unload {k : Nat} {f ms : Nat → Int32} {B O : Nat} (R : Rel f ms B O) (hk : 25 ≤ k) (p1 : Int32) : Lay k f ms (f_X6_unloadBlock k f p1) (fun ah hi kp => f_X8_unload k ms ah hi kp p1) := by
  have hB := R.c.hB
  rcases j_blk R k p1 with ⟨b, b1, rfl, e1, e2⟩ | ⟨e1, e2⟩
  · have h := R.blk b b1
    have c4 : f (8 + b * 11 + 5) = ms (12 + 10 * b + 4) := h.2.1 4 (by omega) (by omega)
    have c8 : f (8 + b * 11 + 9) = ms (12 + 10 * b + 8) := h.2.1 8 (by omega) (by omega)
    by_cases q : f (8 + b * 11 + 5) = 2
    · obtain ⟨s, s1, s2⟩ := h.2.2.2.2.2.2.2.1 q
      obtain ⟨F, hF⟩ : ∃ F, F = upd (upd f (8 + b * 11 + 5) 0) (8 + b * 11 + 9) (-6) := ⟨_, rfl⟩
      obtain ⟨M, hM⟩ : ∃ M, M = upd (upd ms (12 + 10 * b + 8) (-6)) (12 + 10 * b + 4) 0 := ⟨_, rfl⟩
      have R' : Rel F M B O := R.spot b1 (fun i i1 i2 => by rw [hF, upd_ne i2, upd_ne i1]) (fun i i1 i2 => by rw [hM, upd_ne i1, upd_ne i2]) (by rw [hF, hM]; simp (disch := omega) only [upd_ne, upd_at]) (by rw [hF, hM]; simp (disch := omega) only [upd_ne, upd_at]) (.inr (.inr q)) (by rw [hF]; simp (disch := omega) only [upd_ne, upd_at]; exact .inl trivial) (fun t => by rw [hF] at t; simp (disch := omega) only [upd_ne, upd_at] at t; exact absurd t (by decide)) (fun _ => by rw [hF]; simp (disch := omega) only [upd_ne, upd_at]) (fun c hc e t => by rw [hF] at t; simp (disch := omega) only [upd_ne, upd_at] at t; exact absurd trivial t)
      obtain ⟨r, r0, r1, r2⟩ := k_load (k := k) (l := s / 5) R' hk (by omega)
      have x1 : f_X6_unloadBlock k f (Int32.ofNat b) = some (r, F) := by
        rw [f_X6_unloadBlock, e1, s_blk5 (by omega), s_blk9 (by omega)]
        simp only [zb1_some, zl_e]
        rw [if_neg n10, if_pos q, s2, d_5 s s1, s_sblk5 (by omega), zb1_some, s_sblk9 (by omega), zb1_some, ← hF, r1, zb1_some]
      refine ⟨r, F, M, B, O, x1, R', .inr ⟨r0, fun ah hi kp ah1 hi1 kp1 l1 l2 => ?_⟩⟩
      show f_X8_unload k ms ah hi kp (Int32.ofNat b) = _
      rw [f_X8_unload, e2, m_isAt (by omega), ← c4, q, m_at8, m_at4]
      simp only [zb1_some]
      rw [if_neg n10, if_pos trivial, if_neg n10, m_lays (by omega) l1 l2, zb5_some]
      simp (disch := omega) only [zl_e, zb1_some, zb2_some, zb3_some, zb4_some, zb5_some, m_g, n_nat, n_suc]
      rw [← c8, s2, d_5 s s1, ← hM, r2, zb1_some]
    · refine Lay.err R (r := -5) (by decide) ?_ (fun ah hi kp => ?_)
      · rw [f_X6_unloadBlock, e1, s_blk5 (by omega)]
        simp only [zb1_some]
        rw [if_neg n10, if_neg q]
      · show f_X8_unload k ms ah hi kp (Int32.ofNat b) = _
        rw [f_X8_unload, e2, m_isAt (by omega), ← c4, if_neg q]
        rfl
  · exact Lay.err R (r := -1) (by decide) (by rw [f_X6_unloadBlock, e1]; rfl) (fun ah hi kp => by show f_X8_unload k ms ah hi kp p1 = _; rw [f_X8_unload, e2]; rfl)
