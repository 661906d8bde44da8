/-! TEXTS: carrying out -/
theorem isL_of {x : Nat} (h : (zpt x).length ≠ 0) : isL x ∧ ncnt (zpt x) = zct x := by
  rcases zpt_c (x := x) with ⟨hz, rfl⟩ | ⟨hz, rfl⟩ | ⟨hz, rfl⟩ | ⟨hz, rfl⟩ | ⟨hz, rfl⟩ | ⟨hz, rfl⟩ | ⟨hz, rfl⟩ | ⟨hz, -⟩
  · exact ⟨.inl rfl, by decide⟩
  · exact ⟨.inr (.inl rfl), by decide⟩
  · exact ⟨.inr (.inr (.inl rfl)), by decide⟩
  · exact ⟨.inr (.inr (.inr (.inl rfl))), by decide⟩
  · exact ⟨.inr (.inr (.inr (.inr (.inl rfl)))), by decide⟩
  · exact ⟨.inr (.inr (.inr (.inr (.inr (.inl rfl))))), by decide⟩
  · exact ⟨.inr (.inr (.inr (.inr (.inr (.inr rfl))))), by decide⟩
  · rw [hz] at h; exact absurd rfl h
theorem zct_pos (x : Nat) : 1 ≤ zct x := by
  unfold zct
  repeat (first | (split; omega) | split)
  all_goals omega
theorem co_loop {k l n0 h0 : Nat} {sg pd : Nat → Int32} {T : Nat → Nat} {g : Nat → Nat → Int32} {nx hz : Int32} (hk : 25 ≤ k) (t : Txt sg l T) (t' : Txt pd l T) : ∀ (n e p j N N' : Nat) (f ms so to : Nat → Int32) (B O : Nat) (pk : Int32) (pn : Nat → Int32) (pf pg : Int32), ft T l n e = none → Sta T p e → p ≤ l → e ≤ l → 2 * j ≤ e → n + 2 ≤ N → n + 2 ≤ N' → Rel f ms B O →
    ∃ j' f' ms' so' B' O' pa' pk' pn' pf' pg' po' wr' to', f_X7_carryOut_b35 k sg N f g nx hz (Int32.ofNat l) (Int32.ofNat p) pk pn pf pg (Int32.ofNat j) = f_X7_carryOut_b64 k sg f' g nx hz (Int32.ofNat l) pa' pk' pn' pf' pg' (Int32.ofNat j') ∧
      f_X8_goes_b14 k pd (Int32.ofNat l) 1 N' ms so (Int32.ofNat e) 0 to (Int32.ofNat j) 1 = some (Int32.ofNat j', ms', so', po', wr', to') ∧ Rel f' ms' B' O' ∧ j' ≤ 80 := by
  have hl := t.1
  intro n
  induction n with
  | zero => intro e p j N N' f ms so to B O pk pn pf pg h; rw [ft] at h; cases h
  | succ n ih =>
    intro e p j N N' f ms so to B O pk pn pf pg hft hs hp he hj hN hN' R
    obtain ⟨N1, rfl⟩ : ∃ N1, N = N1 + 1 := ⟨N - 1, by omega⟩
    obtain ⟨N2, rfl⟩ : ∃ N2, N' = N2 + 1 := ⟨N' - 1, by omega⟩
    obtain ⟨c1, c2, c3⟩ := rdo_c t he
    rw [ft] at hft
    have ok : (rdo T e).1 = true := by
      by_cases ok : (rdo T e).1 = true
      · exact ok
      · rw [if_neg ok] at hft; cases hft
    rw [if_pos ok] at hft
    obtain ⟨d1, d2, d3⟩ := c3 ok
    have hzp : (zpt (T e)).length ≠ 0 := fun z => by
      unfold rdo at ok
      rw [if_pos z] at ok
      cases ok
    obtain ⟨hL, hc⟩ := isL_of hzp
    have z1 := zct_pos (T e)
    obtain ⟨pn', pf', pg', e1, on⟩ := s_b18 (k := k) (pn := pn) (pf := pf) (pg := pg) hk t he
    obtain ⟨o1, o2⟩ := on ok
    obtain ⟨to', e2, om⟩ := m_rdo (k := k) (to := to) hk t' he
    obtain ⟨u1, u2⟩ := om ok
    rw [if_pos ok] at e1 e2
    rw [d2, hc] at o1 o2 u2
    have same : ∀ a, a < zct (T e) → to' (1 + a) = pn' a := fun a ha => by rw [u2 a ha, o2 a ha]
    obtain ⟨r, f', ms', s1, B', O', hx, hy, R', he'⟩ := stp_does (k := k) (so := so) (pn := pn') (a := to' 1) (b := to' 2) (c := to' 3) (d := to' 4) R hk hL (same 0 (by omega)) (fun h => same 1 (by omega)) (fun h => same 2 (by omega)) (fun h => same 3 (by omega))
    have x1 : f_X7_carryOut_b35 k sg (N1 + 1) f g nx hz (Int32.ofNat l) (Int32.ofNat p) pk pn pf pg (Int32.ofNat j) = if r < 0 then f_X7_carryOut_b64 k sg f' g nx hz (Int32.ofNat l) (Int32.ofNat (rdo T e).2.1) (Int32.ofNat (T e)) pn' pf' pg' (Int32.ofNat j) else f_X7_carryOut_b35 k sg N1 f' g nx hz (Int32.ofNat l) (Int32.ofNat (rdo T e).2.1) (Int32.ofNat (T e)) pn' pf' pg' (Int32.ofNat (j + 1)) := by
      rw [f_X7_carryOut_b35, if_neg (n_80 (by omega)), s_read t hp hs, e1, zb6_some, if_neg n10, o1, hx, zb2_some, zl_e, n_suc]
    have x2 : f_X8_goes_b14 k pd (Int32.ofNat l) 1 (N2 + 1) ms so (Int32.ofNat e) 0 to (Int32.ofNat j) 1 = if r < 0 then f_X8_goes_b68 k pd (Int32.ofNat l) 1 (f_X8_goes_b14 k pd (Int32.ofNat l) 1 N2) ms' s1 (Int32.ofNat (rdo T e).2.1) 0 to' (Int32.ofNat j) 0 else f_X8_goes_b68 k pd (Int32.ofNat l) 1 (f_X8_goes_b14 k pd (Int32.ofNat l) 1 N2) ms' s1 (Int32.ofNat (rdo T e).2.1) 0 to' (Int32.ofNat j) 1 := by
      rw [f_X8_goes_b14, if_neg n10, e2, zb3_some, if_neg n10, zl_e, zl_e, zl_e, zl_e, zl_e, u1, hy, zb3_some]
    by_cases r0 : r < 0
    · rw [if_pos r0] at x1 x2
      rw [f_X8_goes_b68, if_pos rfl, m_b81z, Int32.add_zero, m_end (by omega)] at x2
      exact ⟨j, f', ms', s1, B', O', _, _, _, _, _, _, _, _, x1, x2, R', by omega⟩
    · rw [if_neg r0] at x1 x2
      rw [f_X8_goes_b68, if_neg n10, m_b81 t' c2, n_suc] at x2
      by_cases ql : (rdo T e).2.1 = l
      · rw [if_pos ql, m_end (by omega)] at x2
        obtain ⟨N3, rfl⟩ : ∃ N3, N1 = N3 + 1 := ⟨N1 - 1, by omega⟩
        have q59 : T (rdo T e).2.1 ≠ 59 := by rw [ql, t.2.2 l (Nat.le_refl _)]; omega
        have z1 : f_X7_carryOut_b35 k sg (N3 + 1) f' g nx hz (Int32.ofNat l) (Int32.ofNat (rdo T e).2.1) (Int32.ofNat (T e)) pn' pf' pg' (Int32.ofNat (j + 1)) = f_X7_carryOut_b64 k sg f' g nx hz (Int32.ofNat l) (Int32.ofNat (rdo T e).2.1) (Int32.ofNat (T e)) pn' pf' pg' (Int32.ofNat (j + 1)) := by
          rw [f_X7_carryOut_b35, if_neg (n_80 (by omega)), s_read_no t c2 (by omega) q59, zb6_some, if_pos rfl]
        exact ⟨j + 1, f', ms', s1, B', O', _, _, _, _, _, _, _, _, x1.trans z1, x2, R', by omega⟩
      · rw [if_neg ql] at hft x2
        by_cases q59 : T (rdo T e).2.1 = 59
        · rw [if_pos q59] at hft x2
          obtain ⟨j', f2, ms2, so2, B2, O2, pa2, pk2, pn2, pf2, pg2, po2, wr2, to2, y1, y2, y3, y4⟩ := ih ((rdo T e).2.1 + 1) (rdo T e).2.1 (j + 1) N1 N2 f' ms' s1 to' B' O' (Int32.ofNat (T e)) pn' pf' pg' hft (.inr ⟨by omega, q59, rfl⟩) c2 (by omega) (by omega) (by omega) (by omega) R'
          exact ⟨j', f2, ms2, so2, B2, O2, pa2, pk2, pn2, pf2, pg2, po2, wr2, to2, x1.trans y1, x2.trans y2, y3, y4⟩
        · rw [if_neg q59] at hft; cases hft
theorem op_carry {k l n h B O : Nat} {f ms ah hi sg pn pd so to : Nat → Int32} {g : Nat → Nat → Int32} {T : Nat → Nat} {pa pk pf pg po wr : Int32} (hk : 2000 ≤ k) (R : Rel f ms B O) (H : HR g n h hi) (t : Txt sg l T) (t' : Txt pd l T) :
    ∃ r f1 g1 n1 h1 l1 pa1 pk1 pn1 pf1 pg1 m1 a1 hi1 so1 po1 wr1 to1 B1 O1, f_X7_carryOut k f g (Int32.ofNat n) (Int32.ofNat h) sg (Int32.ofNat l) pa pk pn pf pg = some (r, f1, g1, Int32.ofNat n1, Int32.ofNat h1, Int32.ofNat l1, pa1, pk1, pn1, pf1, pg1) ∧
      f_X8_carryOut k ms ah hi (Int32.ofNat h) pd (Int32.ofNat l) so po wr to = some (r, m1, a1, hi1, Int32.ofNat h1, Int32.ofNat l1, so1, po1, wr1, to1) ∧ Rel f1 m1 B1 O1 ∧ HR g1 n1 h1 hi1 ∧ (l1 = l ∨ l1 = 0) := by
  have hl := t.1
  obtain ⟨pa', pk', pn', pf', pg', e⟩ := s_fault (k := k) (pn := pn) (pa := pa) (pk := pk) (pf := pf) (pg := pg) hk t
  obtain ⟨x', po', wr', to', e2, hh⟩ := m_goes0 (k := k) (ms := ms) (so := so) (to := to) (po := po) (wr := wr) hk t'
  rw [f_X7_carryOut, e, zb6_some, f_X8_carryOut, e2, zb6_some]
  rcases hh with ⟨h1, h2⟩ | ⟨q, q1, h1, h2, h3⟩
  · rw [if_pos (by rw [h1]; rfl), if_pos h2, s_note H.1, zb1_some, f_X3_rewind, zl_e, zb1_some]
    obtain ⟨a1, ea, er⟩ := m_looks (k := k) (ms := ms) hk ah
    obtain ⟨hi1, eh, r1, r2⟩ := m_records (k := k) (ah := a1) (hi := hi) hk H.2.1
    rw [ea, zb1_some, eh, zb2_some]
    obtain ⟨j', f2, ms2, so2, B2, O2, pa2, pk2, pn2, pf2, pg2, po2, wr2, to2, y1, y2, y3, y4⟩ := co_loop (k := k) (n0 := 0) (h0 := 0) (g := ring f g n) (nx := Int32.ofNat n) (hz := Int32.ofNat h) (by omega) t t' 41 0 0 0 k k f ms so to' B O pk' pn' pf' pg' h1 (.inl ⟨rfl, rfl⟩) (by omega) (by omega) (by omega) (by omega) (by omega) R
    have z1 : f_X7_carryOut_b35 k sg k f (ring f g n) (Int32.ofNat n) (Int32.ofNat h) (Int32.ofNat l) 0 pk' pn' pf' pg' 0 = _ := y1
    have z2 : f_X8_goes k ms pd (Int32.ofNat l) so po' wr' to' 1 = some (Int32.ofNat j', ms2, so2, po2, wr2, to2) := by
      rw [f_X8_goes, zl_e, show zbo 0 = true by decide, zg_true, zl_e]
      exact y2
    rw [z1, z2, zb6_some, zl_e, f_X7_carryOut_b64, f_X3_clear, zl_e, zb2_some, s_settle H.1 H.2.1 (n_lt0 (by omega)), zb3_some]
    exact ⟨_, f2, _, _, _, 0, _, _, _, _, _, ms2, a1, hi1, so2, _, _, _, B2, O2, rfl, rfl, y3, H.put R er r1 r2, .inr rfl⟩
  · have nq : ¬ zfa (ft T l 41 0) = -6 := by
      rw [h1]
      exact n_neg6 (by omega)
    rw [if_neg nq, if_neg (by rw [h2]; exact n10)]
    exact ⟨-3, f, g, n, h, l, _, _, _, _, _, ms, ah, hi, so, _, _, _, B, O, rfl, rfl, R, H, .inl rfl⟩
