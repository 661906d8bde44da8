/-! THE LAW: on every script it answers 1 -/
set_option maxHeartbeats 4000000 in
theorem law_loop {k L : Nat} {xs : Nat → Int32} (hk : 3000 ≤ k) (hL : L ≤ 2560) : ∀ (N i : Nat) (f : Nat → Int32) (g : Nat → Nat → Int32) (n h : Nat) (sw : Nat → Nat → Int32) (fl sg : Nat → Int32) (l : Nat) (pa pk : Int32) (pn : Nat → Int32) (pf pg : Int32) (ms ah hi sl sv pd so : Nat → Int32) (po wr : Int32) (to : Nat → Int32) (B O : Nat) (T : Nat → Nat), i ≤ L + 5 → L + 5 - i < N → Rel f ms B O → HR g n h hi → Slo sw fl sl sv → Txt sg l T → Txt pd l T →
    f_L_law_b18 k L xs N f g (Int32.ofNat n) (Int32.ofNat h) sw fl sg (Int32.ofNat l) pa pk pn pf pg ms ah hi (Int32.ofNat h) sl sv pd (Int32.ofNat l) so po wr to (Int32.ofNat i) = some 1 := by
  intro N
  induction N with
  | zero => intro i _ _ _ _ _ _ _ _ _ _ _ _ _ _ _ _ _ _ _ _ _ _ _ _ _ _ _ h; omega
  | succ N ih =>
    intro i f g n h sw fl sg l pa pk pn pf pg ms ah hi sl sv pd so po wr to B O T hi0 hN R H S t t2
    rw [f_L_law_b18, zl_e]
    by_cases c : i + 5 ≤ L
    · have e5 : (Int32.ofNat L - 5).toInt = (L : Int) - 5 := by
        rw [show (5 : Int32) = Int32.ofNat 5 from rfl, n_sub (by omega), i_nat (by omega)]
        omega
      rw [if_neg (show ¬ Int32.ofNat L - 5 < Int32.ofNat i from fun r => by rw [i_lt, e5, i_nat (by omega)] at r; omega), m_rd (by omega) (by omega), zl_e]
      generalize xs i &&& 31 = v3
      by_cases c0 : v3 = 0
      · rw [if_pos c0]
        obtain ⟨r, f1, g1, n1, h1, m1, a1, hi1, B1, O1, e1, e2, R1, H1⟩ : Chg (f_X7_set k f g (Int32.ofNat n) (Int32.ofNat h) (xs (i + 1)) (xs (i + 2))) (f_X8_set k ms ah hi (Int32.ofNat h) (xs (i + 1)) (xs (i + 2))) := chg_lay (by omega) R H (stp_set R _ _)
        rw [a_1 c hL, a_2 c hL, e1, zb5_some, a_1 c hL, a_2 c hL, e2, zb5_some, if_pos rfl, a_5]
        exact ih (i + 5) _ _ _ _ _ _ _ _ _ _ _ _ _ _ _ _ _ _ _ _ _ _ _ _ _ _ (by omega) (by omega) R1 H1 S t t2
      rw [if_neg c0]
      by_cases c1 : v3 = 1
      · rw [if_pos c1]
        obtain ⟨r, f1, g1, n1, h1, m1, a1, hi1, s1, B1, O1, e1, e2, R1, H1⟩ : ChgD (f_X7_quarry k f g (Int32.ofNat n) (Int32.ofNat h) (xs (i + 1)) (xs (i + 2)) (xs (i + 3)) (xs (i + 4))) (f_X8_quarry k ms ah hi (Int32.ofNat h) so (xs (i + 1)) (xs (i + 2)) (xs (i + 3)) (xs (i + 4))) := chg_try (by omega) R H (by rw [md_q]; exact (stp_quarry R (by omega) _ _ _ _).d)
        rw [a_1 c hL, a_2 c hL, a_3 c hL, a_4 c hL, e1, zb5_some, a_1 c hL, a_2 c hL, a_3 c hL, a_4 c hL, e2, zb6_some, if_pos rfl, a_5]
        exact ih (i + 5) _ _ _ _ _ _ _ _ _ _ _ _ _ _ _ _ _ _ _ _ _ _ _ _ _ _ (by omega) (by omega) R1 H1 S t t2
      rw [if_neg c1]
      by_cases c2 : v3 = 2
      · rw [if_pos c2]
        obtain ⟨r, f1, g1, n1, h1, m1, a1, hi1, s1, B1, O1, e1, e2, R1, H1⟩ : ChgD (f_X7_cut k f g (Int32.ofNat n) (Int32.ofNat h) (xs (i + 1)) (xs (i + 2)) (xs (i + 3))) (f_X8_cut k ms ah hi (Int32.ofNat h) so (xs (i + 1)) (xs (i + 2)) (xs (i + 3))) := chg_try (by omega) R H (by rw [md_c]; exact (stp_cut R (by omega) _ _ _).d)
        rw [a_1 c hL, a_2 c hL, a_3 c hL, e1, zb5_some, a_1 c hL, a_2 c hL, a_3 c hL, e2, zb6_some, if_pos rfl, a_5]
        exact ih (i + 5) _ _ _ _ _ _ _ _ _ _ _ _ _ _ _ _ _ _ _ _ _ _ _ _ _ _ (by omega) (by omega) R1 H1 S t t2
      rw [if_neg c2]
      by_cases c3 : v3 = 3
      · rw [if_pos c3]
        obtain ⟨r, f1, g1, n1, h1, m1, a1, hi1, B1, O1, e1, e2, R1, H1⟩ : Chg (f_X7_shelter k f g (Int32.ofNat n) (Int32.ofNat h) (xs (i + 1))) (f_X8_shelter k ms ah hi (Int32.ofNat h) (xs (i + 1))) := chg_lay (by omega) R H (stp_shelter R (by omega) _)
        rw [a_1 c hL, e1, zb5_some, a_1 c hL, e2, zb5_some, if_pos rfl, a_5]
        exact ih (i + 5) _ _ _ _ _ _ _ _ _ _ _ _ _ _ _ _ _ _ _ _ _ _ _ _ _ _ (by omega) (by omega) R1 H1 S t t2
      rw [if_neg c3]
      by_cases c4 : v3 = 4
      · rw [if_pos c4]
        obtain ⟨r, f1, g1, n1, h1, m1, a1, hi1, s1, B1, O1, e1, e2, R1, H1⟩ : ChgD (f_X7_order k f g (Int32.ofNat n) (Int32.ofNat h) (xs (i + 1)) (xs (i + 2)) (xs (i + 3))) (f_X8_order k ms ah hi (Int32.ofNat h) so (xs (i + 1)) (xs (i + 2)) (xs (i + 3))) := chg_try (by omega) R H (by rw [md_o]; exact stp_order R (by omega) _ _ _)
        rw [a_1 c hL, a_2 c hL, a_3 c hL, e1, zb5_some, a_1 c hL, a_2 c hL, a_3 c hL, e2, zb6_some, if_pos rfl, a_5]
        exact ih (i + 5) _ _ _ _ _ _ _ _ _ _ _ _ _ _ _ _ _ _ _ _ _ _ _ _ _ _ (by omega) (by omega) R1 H1 S t t2
      rw [if_neg c4]
      by_cases c5 : v3 = 5
      · rw [if_pos c5]
        obtain ⟨r, f1, g1, n1, h1, m1, a1, hi1, s1, B1, O1, e1, e2, R1, H1⟩ : ChgD (f_X7_give k f g (Int32.ofNat n) (Int32.ofNat h) (xs (i + 1)) (xs (i + 2))) (f_X8_give k ms ah hi (Int32.ofNat h) so (xs (i + 1)) (xs (i + 2))) := chg_try (by omega) R H (by rw [md_g]; exact stp_give R (by omega) _ _)
        rw [a_1 c hL, a_2 c hL, e1, zb5_some, a_1 c hL, a_2 c hL, e2, zb6_some, if_pos rfl, a_5]
        exact ih (i + 5) _ _ _ _ _ _ _ _ _ _ _ _ _ _ _ _ _ _ _ _ _ _ _ _ _ _ (by omega) (by omega) R1 H1 S t t2
      rw [if_neg c5]
      by_cases c6 : v3 = 6
      · rw [if_pos c6]
        obtain ⟨r, f1, g1, n1, h1, m1, a1, hi1, B1, O1, e1, e2, R1, H1⟩ : Chg (f_X7_takeBack k f g (Int32.ofNat n) (Int32.ofNat h) (xs (i + 1))) (f_X8_takeBack k ms ah hi (Int32.ofNat h) (xs (i + 1))) := chg_lay (by omega) R H (stp_take R _)
        rw [a_1 c hL, e1, zb5_some, a_1 c hL, e2, zb5_some, if_pos rfl, a_5]
        exact ih (i + 5) _ _ _ _ _ _ _ _ _ _ _ _ _ _ _ _ _ _ _ _ _ _ _ _ _ _ (by omega) (by omega) R1 H1 S t t2
      rw [if_neg c6]
      by_cases c7 : v3 = 7
      · rw [if_pos c7]
        obtain ⟨r, f1, g1, n1, h1, m1, a1, hi1, B1, O1, e1, e2, R1, H1⟩ : Chg (f_X7_limits k f g (Int32.ofNat n) (Int32.ofNat h) (xs (i + 1)) (xs (i + 2)) (xs (i + 3)) (xs (i + 4))) (f_X8_limits k ms ah hi (Int32.ofNat h) (xs (i + 1)) (xs (i + 2)) (xs (i + 3)) (xs (i + 4))) := chg_lay (by omega) R H (stp_limits R _ _ _ _)
        rw [a_1 c hL, a_2 c hL, a_3 c hL, a_4 c hL, e1, zb5_some, a_1 c hL, a_2 c hL, a_3 c hL, a_4 c hL, e2, zb5_some, if_pos rfl, a_5]
        exact ih (i + 5) _ _ _ _ _ _ _ _ _ _ _ _ _ _ _ _ _ _ _ _ _ _ _ _ _ _ (by omega) (by omega) R1 H1 S t t2
      rw [if_neg c7]
      by_cases c8 : v3 = 8
      · rw [if_pos c8]
        obtain ⟨r, f1, g1, n1, h1, m1, a1, hi1, s1, B1, O1, e1, e2, R1, H1⟩ : ChgD (f_X7_load k f g (Int32.ofNat n) (Int32.ofNat h) (xs (i + 1)) (xs (i + 2)) (xs (i + 3))) (f_X8_load k ms ah hi (Int32.ofNat h) so (xs (i + 1)) (xs (i + 2)) (xs (i + 3))) := chg_try (by omega) R H (by rw [md_l]; exact (stp_load R (by omega) _ _ _).d)
        rw [a_1 c hL, a_2 c hL, a_3 c hL, e1, zb5_some, a_1 c hL, a_2 c hL, a_3 c hL, e2, zb6_some, if_pos rfl, a_5]
        exact ih (i + 5) _ _ _ _ _ _ _ _ _ _ _ _ _ _ _ _ _ _ _ _ _ _ _ _ _ _ (by omega) (by omega) R1 H1 S t t2
      rw [if_neg c8]
      by_cases c9 : v3 = 9
      · rw [if_pos c9]
        obtain ⟨r, f1, g1, n1, h1, m1, a1, hi1, B1, O1, e1, e2, R1, H1⟩ : Chg (f_X7_unload k f g (Int32.ofNat n) (Int32.ofNat h) (xs (i + 1))) (f_X8_unload k ms ah hi (Int32.ofNat h) (xs (i + 1))) := chg_lay (by omega) R H (stp_unload R (by omega) _)
        rw [a_1 c hL, e1, zb5_some, a_1 c hL, e2, zb5_some, if_pos rfl, a_5]
        exact ih (i + 5) _ _ _ _ _ _ _ _ _ _ _ _ _ _ _ _ _ _ _ _ _ _ _ _ _ _ (by omega) (by omega) R1 H1 S t t2
      rw [if_neg c9]
      by_cases c10 : v3 = 10
      · rw [if_pos c10]
        obtain ⟨r, f1, g1, n1, h1, m1, a1, hi1, s1, B1, O1, e1, e2, R1, H1⟩ : ChgD (f_X7_leave k f g (Int32.ofNat n) (Int32.ofNat h) (xs (i + 1))) (f_X8_leave k ms ah hi (Int32.ofNat h) so (xs (i + 1))) := chg_try (by omega) R H (by rw [md_d]; exact (stp_leave R (by omega) _).d)
        rw [a_1 c hL, e1, zb5_some, a_1 c hL, e2, zb6_some, if_pos rfl, a_5]
        exact ih (i + 5) _ _ _ _ _ _ _ _ _ _ _ _ _ _ _ _ _ _ _ _ _ _ _ _ _ _ (by omega) (by omega) R1 H1 S t t2
      rw [if_neg c10]
      by_cases c11 : v3 = 11
      · rw [if_pos c11]
        obtain ⟨r, f1, g1, n1, h1, m1, a1, hi1, s1, B1, O1, e1, e2, R1, H1⟩ : ChgD (f_X7_night k f g (Int32.ofNat n) (Int32.ofNat h) (xs (i + 1))) (f_X8_night k ms ah hi (Int32.ofNat h) so (xs (i + 1))) := chg_try (by omega) R H (by rw [md_n]; exact (stp_night R (by omega) _).d)
        rw [a_1 c hL, e1, zb5_some, a_1 c hL, e2, zb6_some, if_pos rfl, a_5]
        exact ih (i + 5) _ _ _ _ _ _ _ _ _ _ _ _ _ _ _ _ _ _ _ _ _ _ _ _ _ _ (by omega) (by omega) R1 H1 S t t2
      rw [if_neg c11]
      by_cases c12 : v3 = 12
      · rw [if_pos c12]
        obtain ⟨r, e1, e2⟩ := op_of (k := k) R (xs (i + 1)) (xs (i + 2))
        rw [a_1 c hL, a_2 c hL, e1, zb1_some, a_1 c hL, a_2 c hL, e2, zb1_some, if_pos rfl, a_5]
        exact ih (i + 5) _ _ _ _ _ _ _ _ _ _ _ _ _ _ _ _ _ _ _ _ _ _ _ _ _ _ (by omega) (by omega) R H S t t2
      rw [if_neg c12]
      by_cases c13 : v3 = 13
      · rw [if_pos c13]
        obtain ⟨r, s1, e1, e2⟩ := op_ofOrder (k := k) (so := so) R (by omega) (xs (i + 1)) (xs (i + 2))
        rw [a_1 c hL, a_2 c hL, e1, zb1_some, a_1 c hL, a_2 c hL, e2, zb2_some, if_pos rfl, a_5]
        exact ih (i + 5) _ _ _ _ _ _ _ _ _ _ _ _ _ _ _ _ _ _ _ _ _ _ _ _ _ _ (by omega) (by omega) R H S t t2
      rw [if_neg c13]
      by_cases c14 : v3 = 14
      · rw [if_pos c14]
        obtain ⟨r, e1, e2⟩ := op_ofLorry (k := k) R (by omega) (xs (i + 1)) (xs (i + 2))
        rw [a_1 c hL, a_2 c hL, e1, zb1_some, a_1 c hL, a_2 c hL, e2, zb1_some, if_pos rfl, a_5]
        exact ih (i + 5) _ _ _ _ _ _ _ _ _ _ _ _ _ _ _ _ _ _ _ _ _ _ _ _ _ _ (by omega) (by omega) R H S t t2
      rw [if_neg c14]
      by_cases c15 : v3 = 15
      · rw [if_pos c15]
        obtain ⟨r, e1, e2⟩ := op_count (k := k) R (by omega) (Int32.ofNat h) (Int32.ofNat l) (xs (i + 1))
        rw [a_1 c hL, e1, zb1_some, a_1 c hL, e2, zb1_some, if_pos rfl, a_5]
        exact ih (i + 5) _ _ _ _ _ _ _ _ _ _ _ _ _ _ _ _ _ _ _ _ _ _ _ _ _ _ (by omega) (by omega) R H S t t2
      rw [if_neg c15]
      by_cases c16 : v3 = 16
      · rw [if_pos c16]
        obtain ⟨r, e1, e2⟩ := op_mean (k := k) R (by omega)
        rw [e1, zb1_some, e2, zb1_some, zl_e, lg_self, if_pos rfl, a_5]
        exact ih (i + 5) _ _ _ _ _ _ _ _ _ _ _ _ _ _ _ _ _ _ _ _ _ _ _ _ _ _ (by omega) (by omega) R H S t t2
      rw [if_neg c16]
      by_cases c17 : v3 = 17
      · rw [if_pos c17]
        obtain ⟨r, e1, e2⟩ := op_why (k := k) R (by omega) (xs (i + 1))
        rw [a_1 c hL, e1, zb1_some, a_1 c hL, e2, zb1_some, if_pos rfl, a_5]
        exact ih (i + 5) _ _ _ _ _ _ _ _ _ _ _ _ _ _ _ _ _ _ _ _ _ _ _ _ _ _ (by omega) (by omega) R H S t t2
      rw [if_neg c17]
      by_cases c18 : v3 = 18
      · rw [if_pos c18]
        obtain ⟨r, s1, e1, e2⟩ := op_bestBlock (k := k) (so := so) R (by omega) (xs (i + 1))
        rw [a_1 c hL, e1, zb1_some, a_1 c hL, e2, zb2_some, if_pos rfl, a_5]
        exact ih (i + 5) _ _ _ _ _ _ _ _ _ _ _ _ _ _ _ _ _ _ _ _ _ _ _ _ _ _ (by omega) (by omega) R H S t t2
      rw [if_neg c18]
      by_cases c19 : v3 = 19
      · rw [if_pos c19]
        obtain ⟨r, s1, e1, e2⟩ := op_fit (k := k) (so := so) R (by omega) (xs (i + 1)) (xs (i + 2)) (xs (i + 3))
        rw [a_1 c hL, a_2 c hL, a_3 c hL, e1, zb1_some, a_1 c hL, a_2 c hL, a_3 c hL, e2, zb2_some, if_pos rfl, a_5]
        exact ih (i + 5) _ _ _ _ _ _ _ _ _ _ _ _ _ _ _ _ _ _ _ _ _ _ _ _ _ _ (by omega) (by omega) R H S t t2
      rw [if_neg c19]
      by_cases c20 : v3 = 20
      · rw [if_pos c20]
        obtain ⟨r, e1, e2⟩ := op_frost (k := k) R (by omega)
        rw [e1, zb1_some, e2, zb1_some, if_pos rfl, a_5]
        exact ih (i + 5) _ _ _ _ _ _ _ _ _ _ _ _ _ _ _ _ _ _ _ _ _ _ _ _ _ _ (by omega) (by omega) R H S t t2
      rw [if_neg c20]
      by_cases c21 : v3 = 21
      · rw [if_pos c21]
        obtain ⟨r, e1, e2⟩ := op_place (k := k) R (by omega) (xs (i + 1)) (xs (i + 2))
        rw [a_1 c hL, a_2 c hL, e1, zb1_some, a_1 c hL, a_2 c hL, e2, zb1_some, if_pos rfl, a_5]
        exact ih (i + 5) _ _ _ _ _ _ _ _ _ _ _ _ _ _ _ _ _ _ _ _ _ _ _ _ _ _ (by omega) (by omega) R H S t t2
      rw [if_neg c21]
      by_cases c22 : v3 = 22
      · rw [if_pos c22]
        rw [a_1 c hL, zl_e, zl_e, a_2 c hL, zl_e, zl_e, zl_e]
        obtain ⟨r, s1, p1, l1, T1, e1, e2, t3, t4⟩ := op_put (k := k) (by omega) t t2 ((xs (i + 1)).toInt64 <<< ((32 : Int32).toInt64 &&& 63) ||| (xs (i + 2)).toInt64 &&& (4294967295 : Int64))
        rw [e1, zb3_some, a_1 c hL, zl_e, zl_e, a_2 c hL, zl_e, zl_e, zl_e, e2, zb3_some, if_pos rfl, a_5]
        exact ih (i + 5) _ _ _ _ _ _ _ _ _ _ _ _ _ _ _ _ _ _ _ _ _ _ _ _ _ _ (by omega) (by omega) R H S t3 t4
      rw [if_neg c22]
      by_cases c23 : v3 = 23
      · rw [if_pos c23]
        rw [f_X7_wipe, f_X3_clear, zl_e, zb2_some, zb2_some, f_X8_wipe, zl_e, zb2_some, if_pos rfl, a_5]
        exact ih (i + 5) _ _ _ _ _ _ _ 0 _ _ _ _ _ _ _ _ _ _ _ _ _ _ _ _ _ _ (by omega) (by omega) R H S (txt_0 _) (txt_0 _)
      rw [if_neg c23]
      by_cases c24 : v3 = 24
      · rw [if_pos c24]
        obtain ⟨r, pa1, pk1, pn1, pf1, pg1, po1, wr1, to1, e1, e2⟩ := op_fault (k := k) (pa := pa) (pk := pk) (pn := pn) (pf := pf) (pg := pg) (ms := ms) (so := so) (po := po) (wr := wr) (to := to) (by omega) t t2
        rw [e1, zb6_some, e2, zb6_some, if_pos rfl, a_5]
        exact ih (i + 5) _ _ _ _ _ _ _ _ _ _ _ _ _ _ _ _ _ _ _ _ _ _ _ _ _ _ (by omega) (by omega) R H S t t2
      rw [if_neg c24]
      by_cases c25 : v3 = 25
      · rw [if_pos c25]
        obtain ⟨r, f1, g1, n1, h1, l1, pa1, pk1, pn1, pf1, pg1, m1, a1, hi1, so1, po1, wr1, to1, B1, O1, e1, e2, R1, H1, hl1⟩ := op_carry (k := k) (pa := pa) (pk := pk) (pn := pn) (pf := pf) (pg := pg) (ah := ah) (so := so) (po := po) (wr := wr) (to := to) (by omega) R H t t2
        rw [e1, zb11_some, e2, zb10_some, if_pos rfl, a_5]
        rcases hl1 with rfl | rfl
        · exact ih (i + 5) _ _ _ _ _ _ _ _ _ _ _ _ _ _ _ _ _ _ _ _ _ _ _ _ _ _ (by omega) (by omega) R1 H1 S t t2
        · exact ih (i + 5) _ _ _ _ _ _ _ _ _ _ _ _ _ _ _ _ _ _ _ _ _ _ _ _ _ _ (by omega) (by omega) R1 H1 S (txt_0 _) (txt_0 _)
      rw [if_neg c25]
      by_cases c26 : v3 = 26
      · rw [if_pos c26]
        obtain ⟨r, f1, n1, h1, m1, B1, O1, e1, e2, R1, H1⟩ := op_undo (k := k) (by omega) R H
        rw [e1, zb4_some, e2, zb3_some, if_pos rfl, a_5]
        exact ih (i + 5) _ _ _ _ _ _ _ _ _ _ _ _ _ _ _ _ _ _ _ _ _ _ _ _ _ _ (by omega) (by omega) R1 H1 S t t2
      rw [if_neg c26]
      by_cases c27 : v3 = 27
      · rw [if_pos c27]
        obtain ⟨r, sw1, fl1, sl1, sv1, e1, e2, S1⟩ := op_save (k := k) (by omega) R S (xs (i + 1))
        rw [a_1 c hL, e1, zb3_some, a_1 c hL, e2, zb3_some, if_pos rfl, a_5]
        exact ih (i + 5) _ _ _ _ _ _ _ _ _ _ _ _ _ _ _ _ _ _ _ _ _ _ _ _ _ _ (by omega) (by omega) R H S1 t t2
      rw [if_neg c27]
      by_cases c28 : v3 = 28
      · rw [if_pos c28]
        obtain ⟨r, f1, g1, n1, h1, m1, a1, hi1, B1, O1, e1, e2, R1, H1⟩ := op_restore (k := k) (ah := ah) (by omega) R H S (xs (i + 1))
        rw [a_1 c hL, e1, zb5_some, a_1 c hL, e2, zb5_some, if_pos rfl, a_5]
        exact ih (i + 5) _ _ _ _ _ _ _ _ _ _ _ _ _ _ _ _ _ _ _ _ _ _ _ _ _ _ (by omega) (by omega) R1 H1 S t t2
      rw [if_neg c28]
      rw [a_5]
      exact ih (i + 5) _ _ _ _ _ _ _ _ _ _ _ _ _ _ _ _ _ _ _ _ _ _ _ _ _ _ (by omega) (by omega) R H S t t2
    · rw [if_pos (show Int32.ofNat L - 5 < Int32.ofNat i from by
        have e5 : (Int32.ofNat L - 5).toInt = (L : Int) - 5 := by
          have t5 : (5 : Int32).toInt = 5 := by decide
          rw [i_sub (by rw [i_nat (by omega), t5]; omega) (by rw [i_nat (by omega), t5]; omega), i_nat (by omega), t5]
        rw [i_lt, e5, i_nat (by omega)]
        omega)]
theorem law_1 {k L : Nat} {xs : Nat → Int32} (hk : 3000 + L ≤ k) (hL : L ≤ 2560) : f_law k L xs zf0 (fun _ _ => 0) 0 0 (fun _ _ => 0) (fun _ => 0) (fun _ => 0) 0 0 0 (fun _ => 0) 0 0 zm0 (fun _ => 0) (fun _ => 0) 0 (fun _ => 0) (fun _ => 0) (fun _ => 0) 0 (fun _ => 0) 0 0 (fun _ => 0) = some 1 := by
  rw [f_law]
  exact law_loop (k := k) (L := L) (xs := xs) (by omega) hL k 0 zf0 (fun _ _ => 0) 0 0 (fun _ _ => 0) (fun _ => 0) (fun _ => 0) 0 0 0 (fun _ => 0) 0 0 zm0 (fun _ => 0) (fun _ => 0) (fun _ => 0) (fun _ => 0) (fun _ => 0) (fun _ => 0) 0 0 (fun _ => 0) 0 0 (fun _ => 0) (by omega) (by omega) rel_0 ⟨by omega, by omega, fun j hj => absurd hj (Nat.not_lt_zero _)⟩ (fun i _ => ⟨rfl, fun h => absurd rfl h⟩) (txt_0 _) (txt_0 _)
