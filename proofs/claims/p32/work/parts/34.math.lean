/-! TAKING BACK, LOADING, UNLOADING, QUARRYING -/
theorem st_take {k t B O : Nat} {f : Nat → Int32} (R : Inv f t B O) (p1 : Int32) : Rs t (f_X6_takeBlockAway k f p1) := by
  have hO := R.c.hO
  have hB := R.c.hB
  rcases h_ord R.c k p1 with ⟨o, o1, rfl, e1⟩ | ⟨-, e1⟩
  · by_cases q : f (272 + o * 6 + 3) = 1
    · obtain ⟨b, b1, b2⟩ : ∃ b, b < B ∧ f (272 + o * 6 + 4) = Int32.ofNat b := by
        rcases (R.ord o o1).2 with r | r | r
        · rw [r.1] at q; exact absurd q (by decide)
        · exact r.2.1
        · exact r.2.1
      obtain ⟨F, hF⟩ : ∃ F, F = upd (upd (upd f (272 + o * 6 + 3) 0) (272 + o * 6 + 4) (-6)) (8 + b * 11 + 8) (-6) := ⟨_, rfl⟩
      have x1 : f_X6_takeBlockAway k f (Int32.ofNat o) = some (Int32.ofNat b, F) := by
        rw [f_X6_takeBlockAway, e1, s_ord3 (by omega), s_ord4 (by omega)]
        simp only [zb1_some]
        rw [if_neg n10, if_pos q, b2, s_sord3 (by omega), zb1_some, s_sord4 (by omega), zb1_some, s_sblk8 (by omega), zb1_some, hF]
      exact Rs.ok x1 (R.own o1 b1 (fun i i1 i2 i3 => by rw [hF, upd_ne i3, upd_ne i2, upd_ne i1]) (.inr q) (.inr ⟨by rw [hF]; simp (disch := omega) only [upd_ne, upd_at], by rw [hF]; simp (disch := omega) only [upd_ne, upd_at], by rw [hF]; simp (disch := omega) only [upd_ne, upd_at]⟩) (fun c hc e h => .inl (fun r => e ((n_inj (by omega) (by omega)).mp (r.symm.trans b2)))))
    · refine Rs.err R (r := -5) ?_
      rw [f_X6_takeBlockAway, e1, s_ord3 (by omega)]
      simp only [zb1_some]
      rw [if_neg n10, if_neg q]
  · exact Rs.err R (r := -1) (by rw [f_X6_takeBlockAway, e1]; rfl)
/-- the load of a lorry -/
theorem s_ld {k l t B O σ : Nat} {f : Nat → Int32} (R : InvS f t B O σ) (hk : 25 ≤ k) : f_X1_loadOf k f (Int32.ofNat l) = some (Int32.ofNat (nsum (zw f) (zon (fun b => f (8 + b * 11 + 9)) l) B)) ∧ nsum (zw f) (zon (fun b => f (8 + b * 11 + 9)) l) B ≤ 1944000 := by
  have hB := R.c.hB
  have e3 := zsum_nat (w := fun b => f (8 + b * 11 + 4)) (W := zw f) (P := zon (fun b => f (8 + b * 11 + 9)) l) B (fun b hb _ => (R.blk b hb).wt.1)
  have e4 := nsum_le (W := zw f) (P := zon (fun b => f (8 + b * 11 + 9)) l) (M := 81000) B (fun b hb => (R.blk b hb).wt.2)
  have e5 : B * 81000 ≤ 24 * 81000 := Nat.mul_le_mul_right _ hB
  exact ⟨by rw [s_load R.c hk, e3], by omega⟩
theorem ld_ok {k t B O b l p : Nat} {f : Nat → Int32} (R : Inv f t B O) (hk : 25 ≤ k) (b1 : b < B) (l1 : l < 3) (p1 : p < 5) (h5 : f (8 + b * 11 + 5) = 0 ∨ f (8 + b * 11 + 5) = 1) (hz : zbs (zat (fun b => f (8 + b * 11 + 9)) (5 * l + p)) B = 0) :
    ∃ r F, f_X6_loadBlock k f (Int32.ofNat b) (Int32.ofNat l) (Int32.ofNat p) = some (r, F) ∧ ¬ r < 0 ∧ F = upd (upd f (8 + b * 11 + 5) 2) (8 + b * 11 + 9) (Int32.ofNat (5 * l + p)) ∧ Inv F t B O := by
  have hB := R.c.hB
  obtain ⟨F, hF⟩ : ∃ F, F = upd (upd f (8 + b * 11 + 5) 2) (8 + b * 11 + 9) (Int32.ofNat (5 * l + p)) := ⟨_, rfl⟩
  have R' : Inv F t B O := by
    have rc := roof_chg (f := f) (f' := F) b1 (fun c hc e => by rw [hF]; simp (disch := omega) only [upd_ne, upd_at])
    have f5 : F (8 + b * 11 + 5) = 2 := by rw [hF]; simp (disch := omega) only [upd_ne, upd_at]
    have z4 := R.sums.2
    have h := R.place (f' := F) (v := 2) b1 (fun i i1 i2 => by rw [hF, upd_ne i2, upd_ne i1]) (by rcases h5 with w | w; exact .inl w; exact .inr (.inl w)) (by omega) f5 (fun _ => ⟨5 * l + p, by omega, by rw [hF, upd_at]⟩) (fun q => absurd rfl q) (fun c hc e _ h => by
      rw [hF, upd_at] at h
      have := (b_empty (by omega)).mp hz c hc
      rw [show zat (fun b => f (8 + b * 11 + 9)) (5 * l + p) c = true from decide_eq_true h] at this
      cases this) (by
      rw [f5, if_neg (show ¬ (2 : Int32) = 1 by decide)] at rc
      omega)
    rw [if_neg (by omega)] at h
    exact h
  obtain ⟨y1, y2⟩ := s_ld (k := k) (l := l) R' hk
  refine ⟨Int32.ofNat (nsum (zw F) (zon (fun b => F (8 + b * 11 + 9)) l) B), F, ?_, ?_, hF, R'⟩
  · rw [f_X6_loadBlock, h_blk1 R.c k b1, zb1_some, if_neg n10, h_lor1 k l1, zb1_some, if_neg n10, if_neg (n_lt0 (by omega)), if_pos (show Int32.ofNat p < 5 from (n_lt (b := 5) (by omega) (by omega)).mpr (by omega)), s_hand (by omega), s_free R.c hk]
    simp only [zb1_some, zl_e, flag]
    rw [if_neg (fun r => r h5), if_neg (fun r => r hz), s_sblk5 (by omega), zb1_some, n_5l, s_sblk9 (by omega), zb1_some, ← hF, y1, zb1_some]
  · exact n_lt0 (by omega)
/-- what loading answers where it doesn't load -/
theorem ld_no {k t B O : Nat} {f : Nat → Int32} (R : Inv f t B O) (hk : 25 ≤ k) (p1 p2 p3 : Int32) : (∃ r, r < 0 ∧ f_X6_loadBlock k f p1 p2 p3 = some (r, f)) ∨ ∃ b l p, b < B ∧ l < 3 ∧ p < 5 ∧ p1 = Int32.ofNat b ∧ p2 = Int32.ofNat l ∧ p3 = Int32.ofNat p ∧ (f (8 + b * 11 + 5) = 0 ∨ f (8 + b * 11 + 5) = 1) ∧ zbs (zat (fun b => f (8 + b * 11 + 9)) (5 * l + p)) B = 0 := by
  have hB := R.c.hB
  rcases h_blk R.c k p1 with ⟨b, b1, rfl, e1⟩ | ⟨-, e1⟩
  · rcases h_lor k p2 with ⟨l, l1, rfl, e3⟩ | ⟨-, e3⟩
    · have x1 : f_X6_loadBlock k f (Int32.ofNat b) (Int32.ofNat l) p3 = if p3 < 0 then some (-1, f) else if p3 < 5 then zb1 (f_X1_isAtHand k f (Int32.ofNat b)) (fun v3 => if v3 = 0 then some (-5, f) else zb1 (f_X1_isFree k f (Int32.ofNat l) p3) (fun v4 => if v4 = 0 then some (-5, f) else zb1 (f_X5_setBlockCell k f (Int32.ofNat b) 5 2) (fun f5 => zb1 (f_X5_setBlockCell k f5 (Int32.ofNat b) 9 (5 * Int32.ofNat l + p3)) (fun f8 => zb1 (f_X1_loadOf k f8 (Int32.ofNat l)) (fun v9 => some (v9, f8)))))) else some (-1, f) := by
        rw [f_X6_loadBlock, e1, e3]
        simp only [zb1_some, zl_e]
        rw [if_neg n10, if_neg n10]
      by_cases q0 : p3 < 0
      · rw [if_pos q0] at x1
        exact .inl ⟨-1, by decide, x1⟩
      · rw [if_neg q0] at x1
        by_cases q5 : p3 < 5
        · have q : ¬ p3 < 0 ∧ ¬ (4 : Int32) < p3 := ⟨q0, fun r => by
            have t4 : (4 : Int32).toInt = 4 := by decide
            have t5 : (5 : Int32).toInt = 5 := by decide
            rw [i_lt, t4] at r
            rw [i_lt, t5] at q5
            omega⟩
          obtain ⟨p, -, p4, rfl⟩ := n_btw (a := 0) (b := 4) (by omega) (by omega) q
          rw [if_pos q5, s_hand (by omega), s_free R.c hk] at x1
          simp only [zb1_some, flag] at x1
          by_cases qh : f (8 + b * 11 + 5) = 0 ∨ f (8 + b * 11 + 5) = 1
          · rw [if_neg (fun r => r qh)] at x1
            by_cases qz : zbs (zat (fun b => f (8 + b * 11 + 9)) (5 * l + p)) B = 0
            · exact .inr ⟨b, l, p, b1, l1, by omega, rfl, rfl, rfl, qh, qz⟩
            · rw [if_pos qz] at x1
              exact .inl ⟨-5, by decide, x1⟩
          · rw [if_pos qh] at x1
            exact .inl ⟨-5, by decide, x1⟩
        · rw [if_neg q5] at x1
          exact .inl ⟨-1, by decide, x1⟩
    · exact .inl ⟨-1, by decide, by rw [f_X6_loadBlock, e1, e3]; rfl⟩
  · exact .inl ⟨-1, by decide, by rw [f_X6_loadBlock, e1]; rfl⟩
theorem st_load {k t B O : Nat} {f : Nat → Int32} (R : Inv f t B O) (hk : 25 ≤ k) (p1 p2 p3 : Int32) : Rs t (f_X6_loadBlock k f p1 p2 p3) := by
  rcases ld_no (k := k) R hk p1 p2 p3 with ⟨r, -, e⟩ | ⟨b, l, p, b1, l1, p1', rfl, rfl, rfl, h5, hz⟩
  · exact Rs.err R e
  · obtain ⟨r, F, e, -, -, R'⟩ := ld_ok (k := k) R hk b1 l1 p1' h5 hz
    exact Rs.ok e R'
theorem st_unload {k t B O : Nat} {f : Nat → Int32} (R : Inv f t B O) (hk : 25 ≤ k) (p1 : Int32) : Rs t (f_X6_unloadBlock k f p1) := by
  have hB := R.c.hB
  rcases h_blk R.c k p1 with ⟨b, b1, rfl, e1⟩ | ⟨-, e1⟩
  · by_cases q : f (8 + b * 11 + 5) = 2
    · obtain ⟨s, s1, s2⟩ := (R.blk b b1).2.2.2.2.2.2.1 q
      obtain ⟨F, hF⟩ : ∃ F, F = upd (upd f (8 + b * 11 + 5) 0) (8 + b * 11 + 9) (-6) := ⟨_, rfl⟩
      have R' : Inv F t B O := by
        have rc := roof_chg (f := f) (f' := F) b1 (fun c hc e => by rw [hF]; simp (disch := omega) only [upd_ne, upd_at])
        have f5 : F (8 + b * 11 + 5) = 0 := by rw [hF]; simp (disch := omega) only [upd_ne, upd_at]
        have f9 : F (8 + b * 11 + 9) = -6 := by rw [hF]; simp (disch := omega) only [upd_ne, upd_at]
        have z4 := R.sums.2
        have h := R.place (f' := F) (v := 0) b1 (fun i i1 i2 => by rw [hF, upd_ne i2, upd_ne i1]) (.inr (.inr q)) (by omega) f5 (fun r => by omega) (fun _ => f9) (fun c hc e n => absurd f9 n) (by
          rw [f5, if_neg (show ¬ (0 : Int32) = 1 by decide)] at rc
          omega)
        rw [if_neg (by omega)] at h
        exact h
      obtain ⟨y1, y2⟩ := s_ld (k := k) (l := s / 5) R' hk
      refine Rs.ok (r := Int32.ofNat (nsum (zw F) (zon (fun b => F (8 + b * 11 + 9)) (s / 5)) B)) ?_ R'
      rw [f_X6_unloadBlock, e1, s_blk5 (by omega), s_blk9 (by omega)]
      simp only [zb1_some, zl_e]
      rw [if_neg n10, if_pos q, s2, d_5 s s1, s_sblk5 (by omega), zb1_some, s_sblk9 (by omega), zb1_some, ← hF, y1, zb1_some]
    · refine Rs.err R (r := -5) ?_
      rw [f_X6_unloadBlock, e1, s_blk5 (by omega)]
      simp only [zb1_some]
      rw [if_neg n10, if_neg q]
  · exact Rs.err R (r := -1) (by rw [f_X6_unloadBlock, e1]; rfl)
/-- one block more -/
theorem InvS.addB {f f' : Nat → Int32} {t B O σ : Nat} (R : InvS f t B O σ) (hB : B < 24) (hf : ∀ i, i ≠ 6 → ¬ inB B i → f' i = f i) (h6 : f' 6 = Int32.ofNat (B + 1))
    (hn : IB f' O B) (h9 : f' (8 + B * 11 + 9) = -6) (hw : f' (8 + B * 11 + 5) = 0 ∨ f' (8 + B * 11 + 5) = 1) (hz : f' (8 + B * 11 + 5) = 1 → zcnt (fun b => decide (f (8 + b * 11 + 5) = 1)) B < 4) (hs : ¬ f' (8 + B * 11 + 10) = -6 → zw f' B ≤ σ) : InvS f' t (B + 1) O (if f' (8 + B * 11 + 10) = -6 then σ else σ - zw f' B) := by
  have hO := R.c.hO
  have ff : ∀ b, b < B → ∀ w, w < 11 → f' (8 + b * 11 + w) = f (8 + b * 11 + w) := fun b hb w w1 => hf _ (by omega) (by unfold inB; omega)
  have fo : ∀ o w, o < O → w < 6 → f' (272 + o * 6 + w) = f (272 + o * 6 + w) := fun o w _ _ => hf _ (by omega) (by unfold inB; omega)
  refine ⟨⟨by omega, hO, h6, by rw [hf 7 (by omega) (by unfold inB; omega)]; exact R.c.f7⟩, R.g.same (Nat.le_refl _) (fun i _ _ => hf i (by omega) (by unfold inB; omega)), R.lm.same (fun i _ _ => hf i (by omega) (by unfold inB; omega)), fun c hc => ?_, ?_, fun p hp => (R.ord p hp).same (by omega) (fun w hw => fo p w hp hw), ?_⟩
  · by_cases e : c = B
    · rw [e]; exact hn
    · exact (R.blk c (by omega)).same (fun w hw => ff c (by omega) w hw) (fun o o1 o2 o3 => ⟨o1, fo o 3 o1 (by omega), fo o 4 o1 (by omega)⟩)
  · intro c hc d hd e n
    have e : f' (8 + c * 11 + 9) = f' (8 + d * 11 + 9) := e
    have n : ¬ f' (8 + c * 11 + 9) = -6 := n
    have c1 : c ≠ B := fun q => n (by rw [q]; exact h9)
    have d1 : d ≠ B := fun q => n (by rw [e, q]; exact h9)
    rw [ff c (by omega) 9 (by omega)] at e n
    rw [ff d (by omega) 9 (by omega)] at e
    exact R.uq c (by omega) d (by omega) e n
  · obtain ⟨t1, t5⟩ := R.sums
    have w4 : ¬ f' (8 + B * 11 + 5) = 4 := by rcases hw with q | q <;> rw [q] <;> decide
    have zz : ∀ c, c < B → zw f' c = zw f c := fun c hc => by unfold zw; rw [ff c hc 4 (by omega)]
    have x1 : nsum (zw f') (fun b => decide (f' (8 + b * 11 + 10) = -6)) B = nsum (zw f) (fun b => decide (f (8 + b * 11 + 10) = -6)) B := nsum_congr (fun c hc => by rw [ff c hc 10 (by omega)]) (fun c hc _ => zz c hc)
    have x2 : nsum (zw f') (fun b => !decide (f' (8 + b * 11 + 5) = 4)) B = nsum (zw f) (fun b => !decide (f (8 + b * 11 + 5) = 4)) B := nsum_congr (fun c hc => by rw [ff c hc 5 (by omega)]) (fun c hc _ => zz c hc)
    have x5 : zcnt (fun b => decide (f' (8 + b * 11 + 5) = 1)) B = zcnt (fun b => decide (f (8 + b * 11 + 5) = 1)) B := zcnt_congr (fun c hc => by rw [ff c hc 5 (by omega)])
    unfold IS
    rw [nsum, nsum, zcnt, x1, x2, x5]
    have y4 : (!decide (f' (8 + B * 11 + 5) = 4)) = true := by simp [w4]
    rw [y4]
    simp only [if_true, decide_eq_true_eq]
    refine ⟨?_, ?_⟩
    · by_cases q : f' (8 + B * 11 + 10) = -6
      · rw [if_pos q, if_pos q]
        omega
      · rw [if_neg q, if_neg q]
        have := hs q
        omega
    · by_cases q : f' (8 + B * 11 + 5) = 1
      · have := hz q
        rw [if_pos q]
        omega
      · rw [if_neg q]
        exact t5
theorem st_quarry {k t B O : Nat} {f : Nat → Int32} (R : Inv f t B O) (p1 p2 p3 p4 : Int32) : Rs t (f_X6_quarryBlock k f p1 p2 p3 p4) := by
  have hB := R.c.hB
  by_cases q1 : ¬ p1 < 1 ∧ ¬ (300 : Int32) < p1
  · by_cases q2 : ¬ p2 < 1 ∧ ¬ (300 : Int32) < p2
    · by_cases q3 : ¬ p3 < 1 ∧ ¬ (300 : Int32) < p3
      · by_cases q4 : ¬ p4 < 20 ∧ ¬ (30 : Int32) < p4
        · have x1 : f_X6_quarryBlock k f p1 p2 p3 p4 = if Int32.ofNat B < 24 then f_X6_addBlock k f p1 p2 p3 p4 else some (-4, f) := by
            have t1 : ¬ (30 : Int32) < p4 ↔ p4 ≤ (30 : Int32) := by rw [i_lt, i_le]; omega
            rw [f_X6_quarryBlock, s_size, s_size, s_size, s_cell6, R.c.f6]
            simp only [zb1_some, flag]
            rw [if_neg (fun t => t q1), if_neg (fun t => t q2), if_neg (fun t => t q3), if_neg q4.1]
            first
              | rw [if_neg q4.2]
              | rw [if_pos (t1.mp q4.2)]
            cases f_X6_addBlock k f p1 p2 p3 p4 with
            | none => rfl
            | some v => rfl
          by_cases qB : B < 24
          · rw [if_pos (show Int32.ofNat B < 24 from (n_lt (b := 24) (by omega) (by omega)).mpr qB)] at x1
            obtain ⟨F, e, F6, fr, F0, F1, F2, F3, F4, F5, F6', F7, F8, F9, F10⟩ := s_add (k := k) (O := O) (s0 := p1) (s1 := p2) (s2 := p3) (d := p4) R.c.f6 qB
            rw [e] at x1
            obtain ⟨x, x1', x2', rfl⟩ := n_btw (a := 1) (b := 300) (by omega) (by omega) q1
            obtain ⟨y, y1', y2', rfl⟩ := n_btw (a := 1) (b := 300) (by omega) (by omega) q2
            obtain ⟨z, z1', z2', rfl⟩ := n_btw (a := 1) (b := 300) (by omega) (by omega) q3
            obtain ⟨d, d1', d2', rfl⟩ := n_btw (a := 20) (b := 30) (by omega) (by omega) q4
            have bk : IB F O B := by
              refine ⟨fun a ha => ?_, ⟨d, d1', d2', F3⟩, by rw [F0, F1, F2, F3, F4], ⟨0, by omega, F5⟩, ⟨3, by omega, F6'⟩, .inl F7, fun t => ?_, fun _ => F9, .inl F8, .inl F10⟩
              · have c : a = 0 ∨ a = 1 ∨ a = 2 := by omega
                rcases c with rfl | rfl | rfl
                · exact ⟨x, x1', x2', F0⟩
                · exact ⟨y, y1', y2', F1⟩
                · exact ⟨z, z1', z2', F2⟩
              · rw [F5] at t; exact absurd t (by decide)
            have h := R.addB qB fr F6 bk F9 (.inl F5) (fun t => by rw [F5] at t; exact absurd t (by decide)) (fun n => absurd F10 n)
            rw [if_pos F10] at h
            exact Rs.ok x1 h
          · have : B = 24 := by omega
            subst this
            rw [if_neg (by decide)] at x1
            exact Rs.err R x1
        · refine Rs.err R (r := -2) ?_
          rw [f_X6_quarryBlock, s_size, s_size, s_size]
          simp only [zb1_some, flag]
          rw [if_neg (fun t => t q1), if_neg (fun t => t q2), if_neg (fun t => t q3)]
          by_cases a : p4 < 20
          · rw [if_pos a]
          · rw [if_neg a]
            have a2 : (30 : Int32) < p4 := Decidable.not_not.mp (fun t => q4 ⟨a, t⟩)
            have a3 : ¬ p4 ≤ (30 : Int32) := by rw [i_lt] at a2; rw [i_le]; omega
            first
              | rw [if_pos a2]
              | rw [if_neg a3]
      · refine Rs.err R (r := -2) ?_
        rw [f_X6_quarryBlock, s_size, s_size, s_size]
        simp only [zb1_some, flag]
        rw [if_neg (fun t => t q1), if_neg (fun t => t q2), if_pos q3]
    · refine Rs.err R (r := -2) ?_
      rw [f_X6_quarryBlock, s_size, s_size]
      simp only [zb1_some, flag]
      rw [if_neg (fun t => t q1), if_pos q2]
  · refine Rs.err R (r := -2) ?_
    rw [f_X6_quarryBlock, s_size]
    simp only [zb1_some, flag]
    rw [if_pos q1]
