/-! GIVING, TAKING BACK, LOADING, UNLOADING -/
theorem Rel.own {f ms f' ms' : Nat → Int32} {B O o b : Nat} (R : Rel f ms B O) (ho : o < O) (hb : b < B)
    (hf : ∀ i, i ≠ 272 + o * 6 + 3 → i ≠ 272 + o * 6 + 4 → i ≠ 8 + b * 11 + 8 → f' i = f i) (hm : ∀ i, i ≠ 252 + 6 * o + 3 → i ≠ 252 + 6 * o + 4 → i ≠ 12 + 10 * b + 7 → ms' i = ms i)
    (e3 : f' (272 + o * 6 + 3) = ms' (252 + 6 * o + 3)) (e4 : f' (272 + o * 6 + 4) = ms' (252 + 6 * o + 4)) (e8 : f' (8 + b * 11 + 8) = ms' (12 + 10 * b + 7))
    (h3 : ¬ f (272 + o * 6 + 3) = 2) (h3' : ¬ f' (272 + o * 6 + 3) = 2) (hv : f' (272 + o * 6 + 3) = 1 → f' (272 + o * 6 + 4) = Int32.ofNat b)
    (h8 : ¬ f' (8 + b * 11 + 8) = -6 → f' (8 + b * 11 + 8) = Int32.ofNat o ∧ f' (272 + o * 6 + 3) = 1)
    (hx : f (272 + o * 6 + 3) = 1 → f (272 + o * 6 + 4) = Int32.ofNat b) : Rel f' ms' B O := by
  have hB := R.c.hB
  have hO := R.c.hO
  refine ⟨⟨hB, hO, by rw [hf 6 (by omega) (by omega) (by omega)]; exact R.c.f6, by rw [hf 7 (by omega) (by omega) (by omega)]; exact R.c.f7⟩, ⟨hB, hO, by rw [hm 5 (by omega) (by omega) (by omega)]; exact R.m.m5, by rw [hm 6 (by omega) (by omega) (by omega)]; exact R.m.m6⟩, R.gen.same (fun i _ => hf i (by omega) (by omega) (by omega)) (fun i _ => hm i (by omega) (by omega) (by omega)), R.ll.same (fun i _ _ => hf i (by omega) (by omega) (by omega)) (fun i _ _ => hm i (by omega) (by omega) (by omega)), R.lm.same (fun i _ _ => hf i (by omega) (by omega) (by omega)), fun c hc => ?_, R.uq.same (fun b hb => hf _ (by omega) (by omega) (by omega)), fun p hp => ?_, ?_⟩
  · by_cases e : c = b
    · subst e
      obtain ⟨h1, h2, h3, h4, h5, h6, h7, h8', h9, h10⟩ := R.blk c hc
      have m : mw ms' c = mw ms c := by
        unfold mw
        rw [hm _ (by omega) (by omega) (by omega), hm _ (by omega) (by omega) (by omega), hm _ (by omega) (by omega) (by omega), hm _ (by omega) (by omega) (by omega)]
      have ff : ∀ w, w < 11 → w ≠ 8 → f' (8 + c * 11 + w) = f (8 + c * 11 + w) := fun w w1 w2 => hf _ (by omega) (by omega) (by omega)
      refine ⟨fun w hw => ?_, fun w w1 w2 => ?_, fun a ha => ?_, ?_, ?_, ?_, ?_, ?_, ?_, ?_⟩
      · rw [ff w (by omega) (by omega), hm _ (by omega) (by omega) (by omega)]; exact h1 w hw
      · by_cases q : w = 7
        · subst q; exact e8
        · rw [ff (w + 1) (by omega) (by omega), hm _ (by omega) (by omega) (by omega)]; exact h2 w w1 w2
      · rw [ff a (by omega) (by omega)]; exact h3 a ha
      · rw [ff 3 (by omega) (by omega)]; exact h4
      · rw [ff 4 (by omega) (by omega), m]; exact h5
      · rw [ff 6 (by omega) (by omega)]; exact h6
      · rw [ff 7 (by omega) (by omega)]; exact h7
      · rw [ff 5 (by omega) (by omega), ff 9 (by omega) (by omega)]; exact h8'
      · rw [ff 5 (by omega) (by omega), ff 9 (by omega) (by omega)]; exact h9
      · intro q _
        obtain ⟨a1, a2⟩ := h8 q
        exact ⟨o, ho, a1, a2, hv a2⟩
    · refine (R.blk c hc).same (fun w hw => hf _ (by omega) (by omega) (by omega)) (fun w hw => hm _ (by omega) (by omega) (by omega)) (fun p p1 p2 p3 p4 => ?_)
      have : p ≠ o := fun q => by
        subst q
        have := hx p3
        rw [p4] at this
        exact e ((n_inj (by omega) (by omega)).mp this)
      exact ⟨p1, by rw [hf _ (by omega) (by omega) (by omega)]; exact p3, by rw [hf _ (by omega) (by omega) (by omega)]; exact p4⟩
  · by_cases e : p = o
    · subst e
      obtain ⟨g1, g2, g3⟩ := R.ord p hp
      refine ⟨fun w hw => ?_, fun a ha => ?_, fun q => ⟨b, hb, hv q⟩⟩
      · by_cases w3 : w = 3
        · subst w3; exact e3
        · by_cases w4 : w = 4
          · subst w4; exact e4
          · rw [hf _ (by omega) (by omega) (by omega), hm _ (by omega) (by omega) (by omega)]; exact g1 w hw
      · rw [hf _ (by omega) (by omega) (by omega)]; exact g2 a ha
    · exact (R.ord p hp).same (Nat.le_refl _) (fun w hw => hf _ (by omega) (by omega) (by omega)) (fun w hw => hm _ (by omega) (by omega) (by omega))
  · obtain ⟨s1, s2, s3, s4, s5⟩ := R.sums
    have w4 : ∀ c, f' (8 + c * 11 + 4) = f (8 + c * 11 + 4) ∨ B ≤ c := fun c => by
      by_cases h : c < B
      · exact .inl (hf _ (by omega) (by omega) (by omega))
      · exact .inr (by omega)
    have x1 : zsum (fun b => f' (8 + b * 11 + 4)) (fun b => decide (f' (8 + b * 11 + 10) = -6)) B = zsum (fun b => f (8 + b * 11 + 4)) (fun b => decide (f (8 + b * 11 + 10) = -6)) B := zsum_congr (fun c hc => by rw [hf _ (by omega) (by omega) (by omega)]) (fun c hc _ => hf _ (by omega) (by omega) (by omega))
    have x2 : zsum (fun b => f' (8 + b * 11 + 4)) (fun b => !decide (f' (8 + b * 11 + 5) = 4)) B = zsum (fun b => f (8 + b * 11 + 4)) (fun b => !decide (f (8 + b * 11 + 5) = 4)) B := zsum_congr (fun c hc => by rw [hf _ (by omega) (by omega) (by omega)]) (fun c hc _ => hf _ (by omega) (by omega) (by omega))
    have x3 : zsum (fun b => f' (8 + b * 11 + 4)) (fun b => decide (f' (8 + b * 11 + 5) = 3)) B = zsum (fun b => f (8 + b * 11 + 4)) (fun b => decide (f (8 + b * 11 + 5) = 3)) B := zsum_congr (fun c hc => by rw [hf _ (by omega) (by omega) (by omega)]) (fun c hc _ => hf _ (by omega) (by omega) (by omega))
    have x4 : zsum (fun b => f' (272 + b * 6 + 5)) (fun b => decide (f' (272 + b * 6 + 3) = 2)) O = zsum (fun b => f (272 + b * 6 + 5)) (fun b => decide (f (272 + b * 6 + 3) = 2)) O := zsum_congr (fun c hc => by
      by_cases e : c = o
      · subst e; simp [h3, h3']
      · rw [hf _ (by omega) (by omega) (by omega)]) (fun c hc _ => hf _ (by omega) (by omega) (by omega))
    have x5 : zcnt (fun b => decide (f' (8 + b * 11 + 5) = 1)) B = zcnt (fun b => decide (f (8 + b * 11 + 5) = 1)) B := zcnt_congr (fun c hc => by rw [hf _ (by omega) (by omega) (by omega)])
    unfold Sums
    rw [x1, x2, x3, x4, x5, hm 8 (by omega) (by omega) (by omega), hm 9 (by omega) (by omega) (by omega), hm 10 (by omega) (by omega) (by omega), hm 11 (by omega) (by omega) (by omega)]
    exact ⟨s1, s2, s3, s4, s5⟩
theorem zgiv_c {f : Nat → Int32} {o b : Nat} (h : ¬ zgiv f o b = -6) : f (272 + o * 6 + 3) = 0 ∧ ¬ f (8 + b * 11 + 5) = 3 ∧ f (8 + b * 11 + 8) = -6 := by
  unfold zgiv at h
  by_cases q : f (272 + o * 6 + 3) = 0 ∧ ¬ f (8 + b * 11 + 5) = 3 ∧ ¬ f (8 + b * 11 + 5) = 4 ∧ f (8 + b * 11 + 8) = -6 ∧ f (8 + b * 11 + 7) = 0
  · exact ⟨q.1, q.2.1, q.2.2.2.1⟩
  · rw [if_neg q] at h; exact absurd rfl h
theorem stp_give {k : Nat} {f ms so : Nat → Int32} {B O : Nat} (R : Rel f ms B O) (hk : 25 ≤ k) (p1 p2 : Int32) : StepD f ms (f_X6_giveBlock k f p1 p2) (f_X8_gives k ms so p1 p2) := by
  have hO := R.c.hO
  have hB := R.c.hB
  rcases j_ord R k p1 with ⟨o, o1, rfl, e1, e2⟩ | ⟨e1, e2⟩
  · rcases j_blk R k p2 with ⟨b, b1, rfl, e3, e4⟩ | ⟨e3, e4⟩
    · obtain ⟨s1, e⟩ := m_giv (k := k) (ms := ms) (so := so) hk (show o < 10 by omega) (show b < 24 by omega)
      have eg := k_surs R o1 b1
      by_cases q : zgiv f o b = -6
      · refine StepD.err R (r := -5) (s1 := s1) ?_ ?_
        · rw [f_X6_giveBlock, e1, e3, s_giv (by omega) (by omega), q]
          rfl
        · rw [f_X8_gives, e2, e4, e, eg, q]
          rfl
      · obtain ⟨c1, c2, c3⟩ := zgiv_c q
        obtain ⟨F, hF⟩ : ∃ F, F = upd (upd (upd f (272 + o * 6 + 3) 1) (272 + o * 6 + 4) (Int32.ofNat b)) (8 + b * 11 + 8) (Int32.ofNat o) := ⟨_, rfl⟩
        obtain ⟨M, hM⟩ : ∃ M, M = upd (upd (upd ms (252 + 6 * o + 3) 1) (252 + 6 * o + 4) (Int32.ofNat b)) (12 + 10 * b + 7) (Int32.ofNat o) := ⟨_, rfl⟩
        have x1 : f_X6_giveBlock k f (Int32.ofNat o) (Int32.ofNat b) = some (zgiv f o b, F) := by
          rw [f_X6_giveBlock, e1, e3, s_giv (by omega) (by omega)]
          simp only [zb1_some]
          rw [if_neg n10, if_neg n10, if_neg q, s_sord3 (by omega), zb1_some, s_sord4 (by omega), zb1_some, s_sblk8 (by omega), zb1_some, hF]
        obtain ⟨s2, em⟩ := m_exc (k := k) (ms := M) (so := s1) hk (show o < 10 by omega) (show b < 24 by omega)
        have ex : mexc M o b = zgiv f o b := by
          have : mexc M o b = mexc ms o b := by
            unfold mexc
            rw [hM]
            simp (disch := omega) only [upd_ne, upd_at]
          rw [this, mgiv_exc (by rw [eg]; exact q), eg]
        have y1 : f_X8_gives k ms so (Int32.ofNat o) (Int32.ofNat b) = some (zgiv f o b, M, s2) := by
          rw [f_X8_gives, e2, e4, e, eg, if_neg q]
          simp only [zb1_some, zb2_some, m_oat3, m_oat4, m_at7]
          rw [if_neg n10, if_neg n10, if_neg n10]
          simp (disch := omega) only [zl_e, zb1_some, zb2_some, zb3_some, zb4_some, zb5_some, m_g, n_nat, n_suc]
          rw [← hM, em, zb2_some, ex]
        refine ⟨_, F, M, s2, B, O, x1, y1, R.own o1 b1 (fun i i1 i2 i3 => by rw [hF, upd_ne i3, upd_ne i2, upd_ne i1]) (fun i i1 i2 i3 => by rw [hM, upd_ne i3, upd_ne i2, upd_ne i1]) (by rw [hF, hM]; simp (disch := omega) only [upd_ne, upd_at]) (by rw [hF, hM]; simp (disch := omega) only [upd_ne, upd_at]) (by rw [hF, hM]; simp (disch := omega) only [upd_ne, upd_at]) (by rw [c1]; decide) (by rw [hF]; simp (disch := omega) only [upd_ne, upd_at]; decide) (fun _ => by rw [hF]; simp (disch := omega) only [upd_ne, upd_at]) (fun _ => ⟨by rw [hF]; simp (disch := omega) only [upd_ne, upd_at], by rw [hF]; simp (disch := omega) only [upd_ne, upd_at]⟩) (fun t => by rw [c1] at t; exact absurd t (by decide)), fun t => ?_⟩
        exfalso
        have hs : ¬ zgiv f o b < 0 := by
          unfold zgiv at q ⊢
          by_cases w : f (272 + o * 6 + 3) = 0 ∧ ¬ f (8 + b * 11 + 5) = 3 ∧ ¬ f (8 + b * 11 + 5) = 4 ∧ f (8 + b * 11 + 8) = -6 ∧ f (8 + b * 11 + 7) = 0
          · rw [if_pos w] at q ⊢
            unfold zsur at q ⊢
            split
            · rename_i h
              rw [if_pos h] at q
              obtain ⟨⟨a1, a2⟩, ⟨b1', b2⟩, ⟨d1, d2⟩⟩ := h
              obtain ⟨-, -, -, -, ⟨v0, v1⟩, -⟩ := R.gen
              have t0 : (0 : Int32).toInt = 0 := by decide
              rw [i_lt, t0] at a1 b1' d1
              rw [i_lt] at a2 b2 d2
              generalize zmx (f (8 + b * 11 + 0)) (zmx (f (8 + b * 11 + 1)) (f (8 + b * 11 + 2))) - f (272 + o * 6 + 0) = X at *
              generalize zmn (f (8 + b * 11 + 0)) (zmn (f (8 + b * 11 + 1)) (f (8 + b * 11 + 2))) - f (272 + o * 6 + 2) = Z at *
              generalize f (8 + b * 11 + 0) + f (8 + b * 11 + 1) + f (8 + b * 11 + 2) - zmx (f (8 + b * 11 + 0)) (zmx (f (8 + b * 11 + 1)) (f (8 + b * 11 + 2))) - zmn (f (8 + b * 11 + 0)) (zmn (f (8 + b * 11 + 1)) (f (8 + b * 11 + 2))) - f (272 + o * 6 + 1) = Y at *
              have y1 : (X + Y).toInt = X.toInt + Y.toInt := i_add (by omega) (by omega)
              rw [i_lt, t0, i_add (by rw [y1]; omega) (by rw [y1]; omega), y1]
              omega
            · rename_i h
              rw [if_neg h] at q
              exact absurd rfl q
          · rw [if_neg w] at q; exact absurd rfl q
        exact hs t
    · exact StepD.err R (r := -1) (s1 := so) (by rw [f_X6_giveBlock, e1, e3]; rfl) (by rw [f_X8_gives, e2, e4]; rfl)
  · exact StepD.err R (r := -1) (s1 := so) (by rw [f_X6_giveBlock, e1]; rfl) (by rw [f_X8_gives, e2]; rfl)
theorem stp_take {k : Nat} {f ms : Nat → Int32} {B O : Nat} (R : Rel f ms B O) (p1 : Int32) : Lay k f ms (f_X6_takeBlockAway k f p1) (fun ah hi kp => f_X8_takeBack k ms ah hi kp p1) := by
  have hO := R.c.hO
  have hB := R.c.hB
  rcases j_ord R k p1 with ⟨o, o1, rfl, e1, e2⟩ | ⟨e1, e2⟩
  · have h3 : f (272 + o * 6 + 3) = ms (252 + 6 * o + 3) := (R.ord o o1).1 3 (by omega)
    have h4 : f (272 + o * 6 + 4) = ms (252 + 6 * o + 4) := (R.ord o o1).1 4 (by omega)
    by_cases q : f (272 + o * 6 + 3) = 1
    · obtain ⟨b, b1, b2⟩ := (R.ord o o1).2.2 q
      obtain ⟨F, hF⟩ : ∃ F, F = upd (upd (upd f (272 + o * 6 + 3) 0) (272 + o * 6 + 4) (-6)) (8 + b * 11 + 8) (-6) := ⟨_, rfl⟩
      obtain ⟨M, hM⟩ : ∃ M, M = upd (upd (upd ms (252 + 6 * o + 3) 0) (252 + 6 * o + 4) (-6)) (12 + 10 * b + 7) (-6) := ⟨_, rfl⟩
      have x1 : f_X6_takeBlockAway k f (Int32.ofNat o) = some (Int32.ofNat b, F) := by
        rw [f_X6_takeBlockAway, e1, s_ord3 (by omega), s_ord4 (by omega)]
        simp only [zb1_some]
        rw [if_neg n10, if_pos q, b2, s_sord3 (by omega), zb1_some, s_sord4 (by omega), zb1_some, s_sblk8 (by omega), zb1_some, hF]
      refine ⟨_, F, M, B, O, x1, R.own o1 b1 (fun i i1 i2 i3 => by rw [hF, upd_ne i3, upd_ne i2, upd_ne i1]) (fun i i1 i2 i3 => by rw [hM, upd_ne i3, upd_ne i2, upd_ne i1]) (by rw [hF, hM]; simp (disch := omega) only [upd_ne, upd_at]) (by rw [hF, hM]; simp (disch := omega) only [upd_ne, upd_at]) (by rw [hF, hM]; simp (disch := omega) only [upd_ne, upd_at]) (by rw [q]; decide) (by rw [hF]; simp (disch := omega) only [upd_ne, upd_at]; decide) (fun t => by rw [hF] at t; simp (disch := omega) only [upd_ne, upd_at] at t; exact absurd t (by decide)) (fun t => by rw [hF] at t; simp (disch := omega) only [upd_ne, upd_at] at t; exact absurd trivial t) (fun _ => b2), .inr ⟨n_lt0 (by omega), fun ah hi kp ah1 hi1 kp1 l1 l2 => ?_⟩⟩
      show f_X8_takeBack k ms ah hi kp (Int32.ofNat o) = _
      rw [f_X8_takeBack, e2]
      simp only [zb1_some, m_oat3, m_oat4]
      rw [if_neg n10]
      simp (disch := omega) only [zl_e, zb1_some, zb2_some, zb3_some, zb4_some, zb5_some, m_g, n_nat, n_suc]
      rw [← h3, if_pos q, m_lays (by omega) l1 l2, zb5_some]
      rw [upd_ne (by omega), ← h4, b2, m_at7]
      simp (disch := omega) only [zl_e, zb1_some, zb2_some, zb3_some, zb4_some, zb5_some, m_g, n_nat, n_suc]
      rw [hM]
    · refine Lay.err R (r := -5) (by decide) ?_ (fun ah hi kp => ?_)
      · rw [f_X6_takeBlockAway, e1, s_ord3 (by omega)]
        simp only [zb1_some]
        rw [if_neg n10, if_neg q]
      · show f_X8_takeBack k ms ah hi kp (Int32.ofNat o) = _
        rw [f_X8_takeBack, e2]
        simp only [zb1_some, m_oat3]
        rw [if_neg n10]
        simp (disch := omega) only [zl_e, zb1_some, zb2_some, zb3_some, zb4_some, zb5_some, m_g, n_nat, n_suc]
        rw [← h3, if_neg q]
  · exact Lay.err R (r := -1) (by decide) (by rw [f_X6_takeBlockAway, e1]; rfl) (fun ah hi kp => by show f_X8_takeBack k ms ah hi kp p1 = _; rw [f_X8_takeBack, e2]; rfl)
