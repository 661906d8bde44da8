/-! NEW BLOCKS -/
def inB (B i : Nat) : Prop := 8 + B * 11 ≤ i ∧ i < 8 + B * 11 + 11
def inM (B i : Nat) : Prop := 12 + 10 * B ≤ i ∧ i < 12 + 10 * B + 10
theorem s_add {k B O : Nat} {f : Nat → Int32} {s0 s1 s2 d : Int32} (h6 : f 6 = Int32.ofNat B) (hB : B < 24) : ∃ F, f_X6_addBlock k f s0 s1 s2 d = some (Int32.ofNat B, F) ∧ F 6 = Int32.ofNat (B + 1) ∧ (∀ i, i ≠ 6 → ¬ inB B i → F i = f i) ∧
    F (8 + B * 11 + 0) = s0 ∧ F (8 + B * 11 + 1) = s1 ∧ F (8 + B * 11 + 2) = s2 ∧ F (8 + B * 11 + 3) = d ∧ F (8 + B * 11 + 4) = s0 * s1 * s2 * d / 10000 ∧ F (8 + B * 11 + 5) = 0 ∧ F (8 + B * 11 + 6) = 3 ∧ F (8 + B * 11 + 7) = 0 ∧ F (8 + B * 11 + 8) = -6 ∧ F (8 + B * 11 + 9) = -6 ∧ F (8 + B * 11 + 10) = -6 := by
  refine ⟨_, by
    rw [f_X6_addBlock, s_cell6, h6]
    simp only [zb1_some, zl_e]
    rw [n_suc, s_set6]
    simp only [zb1_some, s_sblk0 hB, s_sblk1 hB, s_sblk2 hB, s_sblk3 hB, s_sblk4 hB, s_sblk5 hB, s_sblk6 hB, s_sblk7 hB, s_sblk8 hB, s_sblk9 hB, s_sblk10 hB]
    rfl, ?_⟩
  refine ⟨by simp (disch := omega) only [upd_ne, upd_at], fun i i1 i2 => ?_, by simp (disch := omega) only [upd_ne, upd_at], by simp (disch := omega) only [upd_ne, upd_at], by simp (disch := omega) only [upd_ne, upd_at], by simp (disch := omega) only [upd_ne, upd_at], by simp (disch := omega) only [upd_ne, upd_at], by simp (disch := omega) only [upd_ne, upd_at], by simp (disch := omega) only [upd_ne, upd_at], by simp (disch := omega) only [upd_ne, upd_at], by simp (disch := omega) only [upd_ne, upd_at], by simp (disch := omega) only [upd_ne, upd_at], by simp (disch := omega) only [upd_ne, upd_at]⟩
  unfold inB at i2
  rw [upd_ne (by omega), upd_ne (by omega), upd_ne (by omega), upd_ne (by omega), upd_ne (by omega), upd_ne (by omega), upd_ne (by omega), upd_ne (by omega), upd_ne (by omega), upd_ne (by omega), upd_ne (by omega), upd_ne (by omega)]
theorem m_new_loop {k B : Nat} {p1 p2 p3 p4 : Int32} (hB : B < 24) : ∀ n j (ms : Nat → Int32), j ≤ 10 → 10 - j < n → (∀ w, w < j → ms (12 + 10 * B + w) = 0) → ∃ M, f_X8_newBlock_b21 k p1 p2 p3 p4 n ms (Int32.ofNat B) (Int32.ofNat j) = some (Int32.ofNat B, M) ∧ (∀ i, ¬ inM B i → M i = ms i) ∧
    M (12 + 10 * B + 0) = p1 ∧ M (12 + 10 * B + 1) = p2 ∧ M (12 + 10 * B + 2) = p3 ∧ M (12 + 10 * B + 3) = p4 ∧ M (12 + 10 * B + 4) = 0 ∧ M (12 + 10 * B + 5) = 0 ∧ M (12 + 10 * B + 6) = 0 ∧ M (12 + 10 * B + 7) = -6 ∧ M (12 + 10 * B + 8) = -6 ∧ M (12 + 10 * B + 9) = -6 := by
  intro n
  induction n with
  | zero => intro j _ _ h; omega
  | succ n ih =>
    intro j ms hj hn hz
    by_cases h : j < 10
    · obtain ⟨M, e, fr, rest⟩ := ih (j + 1) (upd ms (12 + 10 * B + j) 0) (by omega) (by omega) (fun w hw => by
        by_cases q : w = j
        · subst q; simp (disch := omega) only [upd_ne, upd_at]
        · rw [upd_ne (by omega)]; exact hz w (by omega))
      refine ⟨M, ?_, fun i hi => ?_, rest⟩
      · rw [f_X8_newBlock_b21, if_neg (show ¬ (10 : Int32) ≤ Int32.ofNat j from fun t => absurd ((n_le (a := 10) (by omega) (by omega)).mp t) (by omega)), m_at]
        simp (disch := omega) only [zl_e, zb1_some, zb2_some, zb3_some, zb4_some, zb5_some, m_g, n_nat, n_suc]
        exact e
      · rw [fr i hi]
        unfold inM at hi
        rw [upd_ne (by omega)]
    · have : j = 10 := by omega
      subst this
      refine ⟨_, by
        rw [f_X8_newBlock_b21, if_pos (by decide), m_at0, m_at1, m_at2, m_at3, m_at7, m_at8, m_at9]
        simp (disch := omega) only [zl_e, zb1_some, zb2_some, zb3_some, zb4_some, zb5_some, m_g, n_nat, n_suc]
        rfl, fun i hi => ?_, by simp (disch := omega) only [upd_ne, upd_at], by simp (disch := omega) only [upd_ne, upd_at], by simp (disch := omega) only [upd_ne, upd_at], by simp (disch := omega) only [upd_ne, upd_at], ?_, ?_, ?_, by simp (disch := omega) only [upd_ne, upd_at], by simp (disch := omega) only [upd_ne, upd_at], by simp (disch := omega) only [upd_ne, upd_at]⟩
      · unfold inM at hi
        rw [upd_ne (by omega), upd_ne (by omega), upd_ne (by omega), upd_ne (by omega), upd_ne (by omega), upd_ne (by omega), upd_ne (by omega)]
      · simp (disch := omega) only [upd_ne, upd_at]; exact hz 4 (by omega)
      · simp (disch := omega) only [upd_ne, upd_at]; exact hz 5 (by omega)
      · simp (disch := omega) only [upd_ne, upd_at]; exact hz 6 (by omega)
theorem m_new {k B : Nat} {ms : Nat → Int32} {p1 p2 p3 p4 : Int32} (hk : 25 ≤ k) (h5 : ms 5 = Int32.ofNat B) (hB : B < 24) : ∃ M, f_X8_newBlock k ms p1 p2 p3 p4 = some (Int32.ofNat B, M) ∧ M 5 = Int32.ofNat (B + 1) ∧ (∀ i, i ≠ 5 → ¬ inM B i → M i = ms i) ∧
    M (12 + 10 * B + 0) = p1 ∧ M (12 + 10 * B + 1) = p2 ∧ M (12 + 10 * B + 2) = p3 ∧ M (12 + 10 * B + 3) = p4 ∧ M (12 + 10 * B + 4) = 0 ∧ M (12 + 10 * B + 5) = 0 ∧ M (12 + 10 * B + 6) = 0 ∧ M (12 + 10 * B + 7) = -6 ∧ M (12 + 10 * B + 8) = -6 ∧ M (12 + 10 * B + 9) = -6 := by
  obtain ⟨M, e, fr, rest⟩ := m_new_loop (k := k) (p1 := p1) (p2 := p2) (p3 := p3) (p4 := p4) hB k 0 (upd ms 5 (Int32.ofNat (B + 1))) (by omega) (by omega) (fun w hw => by omega)
  refine ⟨M, ?_, ?_, fun i i1 i2 => ?_, rest⟩
  · rw [f_X8_newBlock]
    simp only [zl_e]
    rw [h5, n_suc]
    exact e
  · rw [fr 5 (by unfold inM; omega)]; simp (disch := omega) only [upd_ne, upd_at]
  · rw [fr i i2, upd_ne i1]
/-- the relation with one block more -/
theorem Rel.addB {f ms f' ms' : Nat → Int32} {B O : Nat} (R : Rel f ms B O) (hB : B < 24) (hf : ∀ i, i ≠ 6 → ¬ inB B i → f' i = f i) (hm : ∀ i, i ≠ 5 → i ≠ 8 → i ≠ 9 → ¬ inM B i → ms' i = ms i) (h6 : f' 6 = Int32.ofNat (B + 1)) (h5 : ms' 5 = Int32.ofNat (B + 1))
    (hn : Blk f' ms' O B) (h9 : f' (8 + B * 11 + 9) = -6) (hw : f' (8 + B * 11 + 5) = 0 ∨ f' (8 + B * 11 + 5) = 1) (hz : f' (8 + B * 11 + 5) = 1 → zcnt (fun b => decide (f (8 + b * 11 + 5) = 1)) B < 4)
    (m8 : ms' 8 = if f' (8 + B * 11 + 10) = -6 then ms 8 + f' (8 + B * 11 + 4) else ms 8) (m9 : ms' 9 = if f' (8 + B * 11 + 10) = -6 then ms 9 else ms 9 - f' (8 + B * 11 + 4)) : Rel f' ms' (B + 1) O := by
  have hO := R.c.hO
  have ff : ∀ b, b < B → ∀ w, w < 11 → f' (8 + b * 11 + w) = f (8 + b * 11 + w) := fun b hb w w1 => hf _ (by omega) (by unfold inB; omega)
  have fo : ∀ o w, o < O → w < 6 → f' (272 + o * 6 + w) = f (272 + o * 6 + w) := fun o w _ _ => hf _ (by omega) (by unfold inB; omega)
  refine ⟨⟨by omega, hO, h6, by rw [hf 7 (by omega) (by unfold inB; omega)]; exact R.c.f7⟩, ⟨by omega, hO, h5, by rw [hm 6 (by omega) (by omega) (by omega) (by unfold inM; omega)]; exact R.m.m6⟩, ?_, R.ll.same (fun i _ _ => hf i (by omega) (by unfold inB; omega)) (fun i _ _ => hm i (by omega) (by omega) (by omega) (by unfold inM; omega)), R.lm.same (fun i _ _ => hf i (by omega) (by unfold inB; omega)), fun c hc => ?_, ?_, fun p hp => (R.ord p hp).same (by omega) (fun w hw => fo p w hp hw) (fun w hw => hm _ (by omega) (by omega) (by omega) (by unfold inM; omega)), ?_⟩
  · have g := R.gen
    unfold Gen at *
    rw [hf 0 (by omega) (by unfold inB; omega), hf 1 (by omega) (by unfold inB; omega), hf 2 (by omega) (by unfold inB; omega), hf 3 (by omega) (by unfold inB; omega), hf 4 (by omega) (by unfold inB; omega), hf 5 (by omega) (by unfold inB; omega), hm 0 (by omega) (by omega) (by omega) (by unfold inM; omega), hm 1 (by omega) (by omega) (by omega) (by unfold inM; omega), hm 2 (by omega) (by omega) (by omega) (by unfold inM; omega), hm 3 (by omega) (by omega) (by omega) (by unfold inM; omega), hm 4 (by omega) (by omega) (by omega) (by unfold inM; omega), hm 7 (by omega) (by omega) (by omega) (by unfold inM; omega)]
    exact g
  · by_cases e : c = B
    · rw [e]; exact hn
    · exact (R.blk c (by omega)).same (fun w hw => ff c (by omega) w hw) (fun w hw => hm _ (by omega) (by omega) (by omega) (by unfold inM; omega)) (fun o o1 o2 o3 o4 => ⟨o1, by rw [fo o 3 o1 (by omega)]; exact o3, by rw [fo o 4 o1 (by omega)]; exact o4⟩)
  · intro c hc d hd e n
    have e : f' (8 + c * 11 + 9) = f' (8 + d * 11 + 9) := e
    have n : ¬ f' (8 + c * 11 + 9) = -6 := n
    have c1 : c ≠ B := fun q => n (by rw [q]; exact h9)
    have d1 : d ≠ B := fun q => n (by rw [e, q]; exact h9)
    rw [ff c (by omega) 9 (by omega)] at e n
    rw [ff d (by omega) 9 (by omega)] at e
    exact R.uq c (by omega) d (by omega) e n
  · obtain ⟨t1, t2, t3, t4, t5⟩ := R.sums
    have w34 : ¬ f' (8 + B * 11 + 5) = 3 ∧ ¬ f' (8 + B * 11 + 5) = 4 := by rcases hw with q | q <;> rw [q] <;> decide
    have x1 : zsum (fun b => f' (8 + b * 11 + 4)) (fun b => decide (f' (8 + b * 11 + 10) = -6)) B = zsum (fun b => f (8 + b * 11 + 4)) (fun b => decide (f (8 + b * 11 + 10) = -6)) B := zsum_congr (fun c hc => by rw [ff c hc 10 (by omega)]) (fun c hc _ => ff c hc 4 (by omega))
    have x2 : zsum (fun b => f' (8 + b * 11 + 4)) (fun b => !decide (f' (8 + b * 11 + 5) = 4)) B = zsum (fun b => f (8 + b * 11 + 4)) (fun b => !decide (f (8 + b * 11 + 5) = 4)) B := zsum_congr (fun c hc => by rw [ff c hc 5 (by omega)]) (fun c hc _ => ff c hc 4 (by omega))
    have x3 : zsum (fun b => f' (8 + b * 11 + 4)) (fun b => decide (f' (8 + b * 11 + 5) = 3)) B = zsum (fun b => f (8 + b * 11 + 4)) (fun b => decide (f (8 + b * 11 + 5) = 3)) B := zsum_congr (fun c hc => by rw [ff c hc 5 (by omega)]) (fun c hc _ => ff c hc 4 (by omega))
    have x4 : zsum (fun b => f' (272 + b * 6 + 5)) (fun b => decide (f' (272 + b * 6 + 3) = 2)) O = zsum (fun b => f (272 + b * 6 + 5)) (fun b => decide (f (272 + b * 6 + 3) = 2)) O := zsum_congr (fun c hc => by rw [fo c 3 hc (by omega)]) (fun c hc _ => fo c 5 hc (by omega))
    have x5 : zcnt (fun b => decide (f' (8 + b * 11 + 5) = 1)) B = zcnt (fun b => decide (f (8 + b * 11 + 5) = 1)) B := zcnt_congr (fun c hc => by rw [ff c hc 5 (by omega)])
    unfold Sums
    rw [zsum, zsum, zsum, zcnt, x1, x2, x3, x4, x5, m8, m9, hm 10 (by omega) (by omega) (by omega) (by unfold inM; omega), hm 11 (by omega) (by omega) (by omega) (by unfold inM; omega)]
    have y4 : (!decide (f' (8 + B * 11 + 5) = 4)) = true := by simp [w34.2]
    have y3 : decide (f' (8 + B * 11 + 5) = 3) = false := by simp [w34.1]
    rw [y4, y3]
    simp only [if_true, Bool.false_eq_true, if_false]
    refine ⟨?_, ?_, t3, t4, ?_⟩
    · by_cases q : f' (8 + B * 11 + 10) = -6
      · simp only [q, decide_true, if_true]; rw [t1]
      · simp only [q, decide_false, if_false, Bool.false_eq_true]; exact t1
    · by_cases q : f' (8 + B * 11 + 10) = -6
      · simp only [q, decide_true, if_true]
        rw [t2]
        generalize zsum (fun b => f (8 + b * 11 + 4)) (fun b => decide (f (8 + b * 11 + 10) = -6)) B = X
        generalize zsum (fun b => f (8 + b * 11 + 4)) (fun b => !decide (f (8 + b * 11 + 5) = 4)) B = Y
        rw [Int32.add_comm Y, ← Int32.sub_sub, Int32.add_sub_cancel]
      · simp only [q, decide_false, if_false, Bool.false_eq_true]
        rw [t2, Int32.sub_sub]
    · by_cases q : f' (8 + B * 11 + 5) = 1
      · have := hz q
        simp only [q, decide_true, if_true]
        omega
      · simp only [q, decide_false, if_false, Bool.false_eq_true]
        exact t5
theorem stp_quarry {k : Nat} {f ms : Nat → Int32} {B O : Nat} (R : Rel f ms B O) (hk : 25 ≤ k) (p1 p2 p3 p4 : Int32) : Step f ms (f_X6_quarryBlock k f p1 p2 p3 p4) (f_X8_quarries k ms p1 p2 p3 p4) := by
  have hB := R.c.hB
  by_cases q1 : ¬ p1 < 1 ∧ ¬ (300 : Int32) < p1
  · by_cases q2 : ¬ p2 < 1 ∧ ¬ (300 : Int32) < p2
    · by_cases q3 : ¬ p3 < 1 ∧ ¬ (300 : Int32) < p3
      · by_cases q4 : ¬ p4 < 20 ∧ ¬ (30 : Int32) < p4
        · have x1 : f_X6_quarryBlock k f p1 p2 p3 p4 = if Int32.ofNat B < 24 then f_X6_addBlock k f p1 p2 p3 p4 else some (-4, f) := by
            have t1 : ¬ (30 : Int32) < p4 ↔ p4 ≤ (30 : Int32) := by rw [i_lt, i_le]; omega
            rw [f_X6_quarryBlock, s_size, s_size, s_size, s_cell6, R.c.f6]
            simp only [zb1_some, flag]
            rw [if_neg (fun t => t q1), if_neg (fun t => t q2), if_neg (fun t => t q3), if_neg q4.1]
            first
              | rw [if_neg q4.2]
              | rw [if_pos (t1.mp q4.2)]
            cases f_X6_addBlock k f p1 p2 p3 p4 with
            | none => rfl
            | some v => rfl
          have y1 : f_X8_quarries k ms p1 p2 p3 p4 = if Int32.ofNat B = 24 then some (-4, ms) else zb2 (f_X8_newBlock k ms p1 p2 p3 p4) (fun v6 ms7 => zb1 (f_X8_at k v6 5) (fun v8 => zg (zin v8 324) (zl (upd ms7 v8.toNatClampNeg 3) (fun ms9 => zl (ms9 8) (fun v10 => zb1 (f_X8_weight k ms9 v6) (fun v11 => zl (v10 + v11) (fun v12 => zl (upd ms9 8 v12) (fun ms13 => some (v6, ms13))))))))) := by
            rw [f_X8_quarries, m_size, m_size, m_size, m_in]
            simp only [zb1_some, flag]
            rw [if_neg (fun t => t q1), if_neg (fun t => t q2), if_neg (fun t => t q3), if_neg (fun t => t q4), zl_e, R.m.m5]
          by_cases qB : B < 24
          · rw [if_pos (show Int32.ofNat B < 24 from (n_lt (b := 24) (by omega) (by omega)).mpr qB)] at x1
            rw [if_neg (show ¬ Int32.ofNat B = 24 from fun t => absurd ((n_inj (b := 24) (by omega) (by omega)).mp t) (by omega))] at y1
            obtain ⟨F, e, F6, fr, F0, F1, F2, F3, F4, F5, F6', F7, F8, F9, F10⟩ := s_add (k := k) (O := O) (s0 := p1) (s1 := p2) (s2 := p3) (d := p4) R.c.f6 qB
            obtain ⟨N, e', N5, gr, N0, N1, N2, N3, N4, N5', N6, N7, N8, N9⟩ := m_new (k := k) (p1 := p1) (p2 := p2) (p3 := p3) (p4 := p4) hk R.m.m5 qB
            rw [e] at x1
            rw [e', zb2_some, m_at5, zb1_some] at y1
            simp (disch := omega) only [zl_e, m_g, n_nat, m_weight, zb1_some] at y1
            obtain ⟨M, hM⟩ : ∃ M, M = upd (upd N (12 + 10 * B + 5) 3) 8 (upd N (12 + 10 * B + 5) 3 8 + mw (upd N (12 + 10 * B + 5) 3) B) := ⟨_, rfl⟩
            rw [← hM] at y1
            obtain ⟨x, x1', x2', rfl⟩ := n_btw (a := 1) (b := 300) (by omega) (by omega) q1
            obtain ⟨y, y1', y2', rfl⟩ := n_btw (a := 1) (b := 300) (by omega) (by omega) q2
            obtain ⟨z, z1', z2', rfl⟩ := n_btw (a := 1) (b := 300) (by omega) (by omega) q3
            obtain ⟨d, d1', d2', rfl⟩ := n_btw (a := 20) (b := 30) (by omega) (by omega) q4
            have Mb : ∀ w, w < 10 → w ≠ 5 → M (12 + 10 * B + w) = N (12 + 10 * B + w) := fun w w1 w2 => by rw [hM, upd_ne (by omega), upd_ne (by omega)]
            have M5 : M (12 + 10 * B + 5) = 3 := by rw [hM]; simp (disch := omega) only [upd_ne, upd_at]
            have mwM : mw M B = F (8 + B * 11 + 4) := by
              unfold mw
              rw [Mb 0 (by omega) (by omega), Mb 1 (by omega) (by omega), Mb 2 (by omega) (by omega), Mb 3 (by omega) (by omega), N0, N1, N2, N3, F4]
            have mwN : mw (upd N (12 + 10 * B + 5) 3) B = F (8 + B * 11 + 4) := by
              unfold mw
              simp (disch := omega) only [upd_ne, upd_at]
              rw [N0, N1, N2, N3, F4]
            have bk : Blk F M O B := by
              refine ⟨fun w hw => ?_, fun w w1 w2 => ?_, fun a ha => ?_, ⟨d, d1', d2', F3⟩, mwM.symm, ⟨3, by omega, F6'⟩, .inl F7, fun t => ?_, fun _ => F9, fun t _ => absurd F8 t⟩
              · rw [Mb w (by omega) (by omega)]
                have c : w = 0 ∨ w = 1 ∨ w = 2 ∨ w = 3 := by omega
                rcases c with rfl | rfl | rfl | rfl
                · rw [F0, N0]
                · rw [F1, N1]
                · rw [F2, N2]
                · rw [F3, N3]
              · have c : w = 4 ∨ w = 5 ∨ w = 6 ∨ w = 7 ∨ w = 8 ∨ w = 9 := by omega
                rcases c with rfl | rfl | rfl | rfl | rfl | rfl
                · rw [Mb 4 (by omega) (by omega), N4]; exact F5
                · rw [M5]; exact F6'
                · rw [Mb 6 (by omega) (by omega), N6]; exact F7
                · rw [Mb 7 (by omega) (by omega), N7]; exact F8
                · rw [Mb 8 (by omega) (by omega), N8]; exact F9
                · rw [Mb 9 (by omega) (by omega), N9]; exact F10
              · have c : a = 0 ∨ a = 1 ∨ a = 2 := by omega
                rcases c with rfl | rfl | rfl
                · exact ⟨x, x1', x2', F0⟩
                · exact ⟨y, y1', y2', F1⟩
                · exact ⟨z, z1', z2', F2⟩
              · rw [F5] at t; exact absurd t (by decide)
            refine ⟨_, F, M, B + 1, O, x1, y1, R.addB qB fr (fun i i5 i8 i9 im => ?_) F6 (by rw [hM, upd_ne (by omega), upd_ne (by omega)]; exact N5) bk F9 (.inl F5) (fun t => by rw [F5] at t; exact absurd t (by decide)) ?_ ?_, fun t => absurd t (n_lt0 (by omega))⟩
            · rw [hM, upd_ne i8, upd_ne (by unfold inM at im; omega)]; exact gr i i5 im
            · rw [if_pos F10, hM, upd_at, mwN, upd_ne (by omega), gr 8 (by omega) (by unfold inM; omega)]
            · rw [if_pos F10, hM, upd_ne (by omega), upd_ne (by omega), gr 9 (by omega) (by unfold inM; omega)]
          · have : B = 24 := by omega
            subst this
            rw [if_neg (by decide)] at x1
            rw [if_pos (by decide)] at y1
            exact Step.err R x1 y1
        · have x1 : f_X6_quarryBlock k f p1 p2 p3 p4 = some (-2, f) := by
            rw [f_X6_quarryBlock, s_size, s_size, s_size]
            simp only [zb1_some, flag]
            rw [if_neg (fun t => t q1), if_neg (fun t => t q2), if_neg (fun t => t q3)]
            by_cases a : p4 < 20
            · rw [if_pos a]
            · rw [if_neg a]
              have a2 : (30 : Int32) < p4 := Decidable.not_not.mp (fun t => q4 ⟨a, t⟩)
              have a3 : ¬ p4 ≤ (30 : Int32) := by rw [i_lt] at a2; rw [i_le]; omega
              first
                | rw [if_pos a2]
                | rw [if_neg a3]
          exact Step.err R x1 (by
            rw [f_X8_quarries, m_size, m_size, m_size, m_in]
            simp only [zb1_some, flag]
            rw [if_neg (fun t => t q1), if_neg (fun t => t q2), if_neg (fun t => t q3), if_pos q4])
      · exact Step.err R (r := -2) (by
          rw [f_X6_quarryBlock, s_size, s_size, s_size]
          simp only [zb1_some, flag]
          rw [if_neg (fun t => t q1), if_neg (fun t => t q2), if_pos q3]) (by
          rw [f_X8_quarries, m_size, m_size, m_size]
          simp only [zb1_some, flag]
          rw [if_neg (fun t => t q1), if_neg (fun t => t q2), if_pos q3])
    · exact Step.err R (r := -2) (by
        rw [f_X6_quarryBlock, s_size, s_size]
        simp only [zb1_some, flag]
        rw [if_neg (fun t => t q1), if_pos q2]) (by
        rw [f_X8_quarries, m_size, m_size]
        simp only [zb1_some, flag]
        rw [if_neg (fun t => t q1), if_pos q2])
  · exact Step.err R (r := -2) (by
      rw [f_X6_quarryBlock, s_size]
      simp only [zb1_some, flag]
      rw [if_pos q1]) (by
      rw [f_X8_quarries, m_size]
      simp only [zb1_some, flag]
      rw [if_pos q1])
