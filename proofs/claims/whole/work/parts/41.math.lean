/-! LIMITS, NEW ORDERS -/
theorem Rel.limits {f ms : Nat → Int32} {B O l x y z : Nat} (R : Rel f ms B O) (hl : l < 3) (hx : 100 ≤ x ∧ x ≤ 30000) (hy : 100 ≤ y ∧ y ≤ 30000) (hz : 100 ≤ z ∧ z ≤ 30000) :
    Rel (upd (upd (upd f (332 + l * 4 + 0) (Int32.ofNat x)) (332 + l * 4 + 1) (Int32.ofNat y)) (332 + l * 4 + 2) (Int32.ofNat z)) (upd (upd (upd ms (312 + 4 * l + 0) (Int32.ofNat x)) (312 + 4 * l + 1) (Int32.ofNat y)) (312 + 4 * l + 2) (Int32.ofNat z)) B O := by
  have hB := R.c.hB
  have hO := R.c.hO
  refine ⟨⟨hB, hO, by simp (disch := omega) only [upd_ne, upd_at]; exact R.c.f6, by simp (disch := omega) only [upd_ne, upd_at]; exact R.c.f7⟩, ⟨hB, hO, by simp (disch := omega) only [upd_ne, upd_at]; exact R.m.m5, by simp (disch := omega) only [upd_ne, upd_at]; exact R.m.m6⟩, R.gen.same (fun i _ => by simp (disch := omega) only [upd_ne, upd_at]) (fun i _ => by simp (disch := omega) only [upd_ne, upd_at]), fun m hm w hw => ?_, fun m hm w hw => ?_, fun b hb => (R.blk b hb).same (fun w hw => by simp (disch := omega) only [upd_ne, upd_at]) (fun w hw => by simp (disch := omega) only [upd_ne, upd_at]) (fun o o1 o2 o3 o4 => ⟨o1, by simp (disch := omega) only [upd_ne, upd_at]; exact o3, by simp (disch := omega) only [upd_ne, upd_at]; exact o4⟩), R.uq.same (fun b hb => by simp (disch := omega) only [upd_ne, upd_at]), fun o ho => (R.ord o ho).same (Nat.le_refl _) (fun w hw => by simp (disch := omega) only [upd_ne, upd_at]) (fun w hw => by simp (disch := omega) only [upd_ne, upd_at]), R.sums.same (by simp (disch := omega) only [upd_ne, upd_at]) (by simp (disch := omega) only [upd_ne, upd_at]) (by simp (disch := omega) only [upd_ne, upd_at]) (by simp (disch := omega) only [upd_ne, upd_at]) (fun b hb => ⟨by simp (disch := omega) only [upd_ne, upd_at], by simp (disch := omega) only [upd_ne, upd_at], by simp (disch := omega) only [upd_ne, upd_at]⟩) (fun o ho => ⟨by simp (disch := omega) only [upd_ne, upd_at], by simp (disch := omega) only [upd_ne, upd_at]⟩)⟩
  · by_cases e : m = l
    · subst e
      have c : w = 0 ∨ w = 1 ∨ w = 2 ∨ w = 3 := by omega
      rcases c with rfl | rfl | rfl | rfl
      · simp (disch := omega) only [upd_ne, upd_at]
      · simp (disch := omega) only [upd_ne, upd_at]
      · simp (disch := omega) only [upd_ne, upd_at]
      · simp (disch := omega) only [upd_ne, upd_at]; exact R.ll m hm 3 (by omega)
    · rw [upd_ne (by omega), upd_ne (by omega), upd_ne (by omega), upd_ne (by omega), upd_ne (by omega), upd_ne (by omega)]
      exact R.ll m hm w hw
  · by_cases e : m = l
    · subst e
      have c : w = 0 ∨ w = 1 ∨ w = 2 := by omega
      rcases c with rfl | rfl | rfl
      · exact ⟨x, hx.1, hx.2, by simp (disch := omega) only [upd_ne, upd_at]⟩
      · exact ⟨y, hy.1, hy.2, by simp (disch := omega) only [upd_ne, upd_at]⟩
      · exact ⟨z, hz.1, hz.2, by simp (disch := omega) only [upd_ne, upd_at]⟩
    · rw [upd_ne (by omega), upd_ne (by omega), upd_ne (by omega)]
      exact R.lm m hm w hw
theorem s_limit {k : Nat} {p : Int32} : f_X6_isLimit k p = some (if ¬ p < 100 ∧ ¬ (30000 : Int32) < p then 1 else 0) := by
  rw [f_X6_isLimit]
  by_cases h : p < 100
  · simp [h]
  · by_cases h1 : (30000 : Int32) < p <;> simp [h, h1]
/-- a number between two is a natural number -/
theorem n_btw {p : Int32} {a b : Nat} (ha : a < 2147483648) (hb : b < 2147483648) (h : ¬ p < Int32.ofNat a ∧ ¬ Int32.ofNat b < p) : ∃ n, a ≤ n ∧ n ≤ b ∧ p = Int32.ofNat n := by
  obtain ⟨h1, h2⟩ := h
  rw [i_lt, i_nat ha] at h1
  rw [i_lt, i_nat hb] at h2
  refine ⟨p.toInt.toNat, by omega, by omega, ?_⟩
  rw [i_eq, i_nat (by omega)]
  omega
theorem stp_limits {k : Nat} {f ms : Nat → Int32} {B O : Nat} (R : Rel f ms B O) (p1 p2 p3 p4 : Int32) : Lay k f ms (f_X6_changeLimits k f p1 p2 p3 p4) (fun ah hi kp => f_X8_limits k ms ah hi kp p1 p2 p3 p4) := by
  rcases j_lor k p1 with ⟨l, l1, rfl, e1, e2⟩ | ⟨e1, e2⟩
  · have x1 : f_X6_changeLimits k f (Int32.ofNat l) p2 p3 p4 = if ¬ (¬ p2 < 100 ∧ ¬ (30000 : Int32) < p2) then some (-2, f) else if ¬ (¬ p3 < 100 ∧ ¬ (30000 : Int32) < p3) then some (-2, f) else if ¬ (¬ p4 < 100 ∧ ¬ (30000 : Int32) < p4) then some (-2, f) else some (1, upd (upd (upd f (332 + l * 4 + 0) p2) (332 + l * 4 + 1) p3) (332 + l * 4 + 2) p4) := by
      rw [f_X6_changeLimits, e1, s_limit, s_limit, s_limit]
      simp only [zb1_some, flag, s_slor0 l1, s_slor1 l1, s_slor2 l1]
      rw [if_neg n10]
    have x2 : ∀ ah hi kp, f_X8_limits k ms ah hi kp (Int32.ofNat l) p2 p3 p4 = if ¬ (¬ p2 < 100 ∧ ¬ (30000 : Int32) < p2) then some (-2, ms, ah, hi, kp) else if ¬ (¬ p3 < 100 ∧ ¬ (30000 : Int32) < p3) then some (-2, ms, ah, hi, kp) else if ¬ (¬ p4 < 100 ∧ ¬ (30000 : Int32) < p4) then some (-2, ms, ah, hi, kp) else zb5 (f_X8_lays k ms ah hi kp (Int32.ofNat (312 + 4 * l + 0)) p2) (fun _ ms7 ah8 hi9 kp10 => some (1, upd (upd ms7 (312 + 4 * l + 1) p3) (312 + 4 * l + 2) p4, ah8, hi9, kp10)) := by
      intro ah hi kp
      rw [f_X8_limits, e2]
      simp only [m_in, zb1_some, flag, m_lat0, m_lat1, m_lat2]
      rw [if_neg n10]
      simp (disch := omega) only [zl_e, zb1_some, zb2_some, zb3_some, zb4_some, zb5_some, m_g, n_nat, n_suc]
    by_cases q2 : ¬ p2 < 100 ∧ ¬ (30000 : Int32) < p2
    · by_cases q3 : ¬ p3 < 100 ∧ ¬ (30000 : Int32) < p3
      · by_cases q4 : ¬ p4 < 100 ∧ ¬ (30000 : Int32) < p4
        · have y2 : ∀ ah hi kp, f_X8_limits k ms ah hi kp (Int32.ofNat l) p2 p3 p4 = _ := fun ah hi kp => by rw [x2, if_neg (fun r => r q2), if_neg (fun r => r q3), if_neg (fun r => r q4)]
          rw [if_neg (fun r => r q2), if_neg (fun r => r q3), if_neg (fun r => r q4)] at x1
          obtain ⟨n2, a2, b2, c2⟩ := n_btw (a := 100) (b := 30000) (by omega) (by omega) q2
          obtain ⟨n3, a3, b3, c3⟩ := n_btw (a := 100) (b := 30000) (by omega) (by omega) q3
          obtain ⟨n4, a4, b4, c4⟩ := n_btw (a := 100) (b := 30000) (by omega) (by omega) q4
          refine ⟨_, _, upd (upd (upd ms (312 + 4 * l + 0) p2) (312 + 4 * l + 1) p3) (312 + 4 * l + 2) p4, B, O, x1, by rw [c2, c3, c4]; exact R.limits l1 ⟨a2, b2⟩ ⟨a3, b3⟩ ⟨a4, b4⟩, .inr ⟨by decide, fun ah hi kp ah1 hi1 kp1 l1 l2 => ?_⟩⟩
          show f_X8_limits k ms ah hi kp (Int32.ofNat l) p2 p3 p4 = _
          rw [y2, m_lays (by omega) l1 l2, zb5_some]
        · rw [if_neg (fun r => r q2), if_neg (fun r => r q3), if_pos q4] at x1
          exact Lay.err R (by decide) x1 (fun ah hi kp => by show f_X8_limits k ms ah hi kp (Int32.ofNat l) p2 p3 p4 = _; rw [x2, if_neg (fun r => r q2), if_neg (fun r => r q3), if_pos q4])
      · rw [if_neg (fun r => r q2), if_pos q3] at x1
        exact Lay.err R (by decide) x1 (fun ah hi kp => by show f_X8_limits k ms ah hi kp (Int32.ofNat l) p2 p3 p4 = _; rw [x2, if_neg (fun r => r q2), if_pos q3])
    · rw [if_pos q2] at x1
      exact Lay.err R (by decide) x1 (fun ah hi kp => by show f_X8_limits k ms ah hi kp (Int32.ofNat l) p2 p3 p4 = _; rw [x2, if_pos q2])
  · exact Lay.err R (r := -1) (by decide) (by rw [f_X6_changeLimits, e1]; rfl) (fun ah hi kp => by show f_X8_limits k ms ah hi kp p1 p2 p3 p4 = _; rw [f_X8_limits, e2]; rfl)
/-! new orders -/
theorem s_size {k : Nat} {p : Int32} : f_X7_isSize k p = some (if ¬ p < 1 ∧ ¬ (300 : Int32) < p then 1 else 0) := by
  rw [f_X7_isSize]
  by_cases h : p < 1
  · simp [h]
  · by_cases h1 : (300 : Int32) < p <;> simp [h, h1]
theorem m_size {k : Nat} {p : Int32} : f_X8_isSize k p = some (if ¬ p < 1 ∧ ¬ (300 : Int32) < p then 1 else 0) := by
  rw [f_X8_isSize, m_in, zb1_some, zbo_if, zg_true]
theorem zmx_n {a b : Nat} (ha : a < 2147483648) (hb : b < 2147483648) : zmx (Int32.ofNat a) (Int32.ofNat b) = Int32.ofNat (max a b) := by
  unfold zmx
  by_cases h : a < b
  · rw [if_pos ((n_lt ha hb).mpr h), show max a b = b by omega]
  · rw [if_neg (fun q => h ((n_lt ha hb).mp q)), show max a b = a by omega]
theorem zmn_n {a b : Nat} (ha : a < 2147483648) (hb : b < 2147483648) : zmn (Int32.ofNat a) (Int32.ofNat b) = Int32.ofNat (min a b) := by
  unfold zmn
  by_cases h : b < a
  · rw [if_pos ((n_lt hb ha).mpr h), show min a b = b by omega]
  · rw [if_neg (fun q => h ((n_lt hb ha).mp q)), show min a b = a by omega]
theorem srt_n {x y z : Nat} (hx : 1 ≤ x ∧ x ≤ 300) (hy : 1 ≤ y ∧ y ≤ 300) (hz : 1 ≤ z ∧ z ≤ 300) : ∃ p q r, (1 ≤ p ∧ p ≤ 300) ∧ (1 ≤ q ∧ q ≤ 300) ∧ (1 ≤ r ∧ r ≤ 300) ∧ zmx (Int32.ofNat x) (zmx (Int32.ofNat y) (Int32.ofNat z)) = Int32.ofNat p ∧ Int32.ofNat x + Int32.ofNat y + Int32.ofNat z - zmx (Int32.ofNat x) (zmx (Int32.ofNat y) (Int32.ofNat z)) - zmn (Int32.ofNat x) (zmn (Int32.ofNat y) (Int32.ofNat z)) = Int32.ofNat q ∧ zmn (Int32.ofNat x) (zmn (Int32.ofNat y) (Int32.ofNat z)) = Int32.ofNat r := by
  have e1 : zmx (Int32.ofNat x) (zmx (Int32.ofNat y) (Int32.ofNat z)) = Int32.ofNat (max x (max y z)) := by rw [zmx_n (by omega) (by omega), zmx_n (by omega) (by omega)]
  have e2 : zmn (Int32.ofNat x) (zmn (Int32.ofNat y) (Int32.ofNat z)) = Int32.ofNat (min x (min y z)) := by rw [zmn_n (by omega) (by omega), zmn_n (by omega) (by omega)]
  refine ⟨max x (max y z), x + y + z - max x (max y z) - min x (min y z), min x (min y z), by omega, by omega, by omega, e1, ?_, e2⟩
  rw [e1, e2, n_add, n_add, n_sub (by omega), n_sub (by omega)]
/-- the relation with one order more -/
theorem Rel.addO {f ms f' ms' : Nat → Int32} {B O : Nat} (R : Rel f ms B O) (hO : O < 10) (hf : ∀ i, i ≠ 7 → (i < 272 + O * 6 ∨ 272 + O * 6 + 6 ≤ i) → f' i = f i) (hm : ∀ i, i ≠ 6 → (i < 252 + 6 * O ∨ 252 + 6 * O + 6 ≤ i) → ms' i = ms i) (h7 : f' 7 = Int32.ofNat (O + 1)) (h6 : ms' 6 = Int32.ofNat (O + 1))
    (hn : Ord f' ms' B O) (h3 : f' (272 + O * 6 + 3) = 0) : Rel f' ms' B (O + 1) := by
  have hB := R.c.hB
  refine ⟨⟨hB, by omega, by rw [hf 6 (by omega) (by omega)]; exact R.c.f6, h7⟩, ⟨hB, by omega, by rw [hm 5 (by omega) (by omega)]; exact R.m.m5, h6⟩, ?_, R.ll.same (fun i _ _ => hf i (by omega) (by omega)) (fun i _ _ => hm i (by omega) (by omega)), R.lm.same (fun i _ _ => hf i (by omega) (by omega)), fun b hb => (R.blk b hb).same (fun w hw => hf _ (by omega) (by omega)) (fun w hw => hm _ (by omega) (by omega)) (fun o o1 o2 o3 o4 => ⟨by omega, by rw [hf _ (by omega) (by omega)]; exact o3, by rw [hf _ (by omega) (by omega)]; exact o4⟩), R.uq.same (fun b hb => hf _ (by omega) (by omega)), fun o ho => ?_, ?_⟩
  · have g := R.gen
    unfold Gen at *
    rw [hf 0 (by omega) (by omega), hf 1 (by omega) (by omega), hf 2 (by omega) (by omega), hf 3 (by omega) (by omega), hf 4 (by omega) (by omega), hf 5 (by omega) (by omega), hm 0 (by omega) (by omega), hm 1 (by omega) (by omega), hm 2 (by omega) (by omega), hm 3 (by omega) (by omega), hm 4 (by omega) (by omega), hm 7 (by omega) (by omega)]
    exact g
  · by_cases e : o = O
    · rw [e]; exact hn
    · exact (R.ord o (by omega)).same (Nat.le_refl _) (fun w hw => hf _ (by omega) (by omega)) (fun w hw => hm _ (by omega) (by omega))
  · have s := R.sums.same (f' := f') (ms' := ms') (hm 8 (by omega) (by omega)) (hm 9 (by omega) (by omega)) (hm 10 (by omega) (by omega)) (hm 11 (by omega) (by omega)) (fun b hb => ⟨hf _ (by omega) (by omega), hf _ (by omega) (by omega), hf _ (by omega) (by omega)⟩) (fun o ho => ⟨hf _ (by omega) (by omega), hf _ (by omega) (by omega)⟩)
    obtain ⟨s1, s2, s3, s4, s5⟩ := s
    refine ⟨s1, s2, s3, ?_, s5⟩
    rw [zsum, if_neg (by rw [h3]; decide)]
    exact s4
/-- a step of both sides inside 'does': the reference may use its scratch -/
def StepD (f ms : Nat → Int32) (x : Option (Int32 × (Nat → Int32))) (y : Option (Int32 × (Nat → Int32) × (Nat → Int32))) : Prop :=
  ∃ r f' ms' s1 B' O', x = some (r, f') ∧ y = some (r, ms', s1) ∧ Rel f' ms' B' O' ∧ (r < 0 → f' = f ∧ ms' = ms)
theorem StepD.err {f ms s1 : Nat → Int32} {B O : Nat} {r : Int32} {x : Option (Int32 × (Nat → Int32))} {y : Option (Int32 × (Nat → Int32) × (Nat → Int32))} (R : Rel f ms B O) (hx : x = some (r, f)) (hy : y = some (r, ms, s1)) : StepD f ms x y := ⟨r, f, ms, s1, B, O, hx, hy, R, fun _ => ⟨rfl, rfl⟩⟩
theorem Step.d {f ms so : Nat → Int32} {x y : Option (Int32 × (Nat → Int32))} (h : Step f ms x y) : StepD f ms x (zb2 y (fun v ms' => some (v, ms', so))) := by
  obtain ⟨r, f', ms', B', O', hx, hy, hR, he⟩ := h
  exact ⟨r, f', ms', so, B', O', hx, by rw [hy, zb2_some], hR, he⟩
theorem stp_order {k : Nat} {f ms so : Nat → Int32} {B O : Nat} (R : Rel f ms B O) (hk : 25 ≤ k) (p1 p2 p3 : Int32) : StepD f ms (f_X6_takeOrder k f p1 p2 p3) (f_X8_orders k ms so p1 p2 p3) := by
  have hO := R.c.hO
  have hB := R.c.hB
  by_cases q1 : ¬ p1 < 1 ∧ ¬ (300 : Int32) < p1
  · by_cases q2 : ¬ p2 < 1 ∧ ¬ (300 : Int32) < p2
    · by_cases q3 : ¬ p3 < 1 ∧ ¬ (300 : Int32) < p3
      · by_cases qO : O < 10
        · obtain ⟨x, x1, x2, rfl⟩ := n_btw (a := 1) (b := 300) (by omega) (by omega) q1
          obtain ⟨y, y1, y2, rfl⟩ := n_btw (a := 1) (b := 300) (by omega) (by omega) q2
          obtain ⟨z, z1, z2, rfl⟩ := n_btw (a := 1) (b := 300) (by omega) (by omega) q3
          obtain ⟨p, q, r, hp, hq, hr, e1, e2, e3⟩ := srt_n ⟨x1, x2⟩ ⟨y1, y2⟩ ⟨z1, z2⟩
          obtain ⟨s1, es, es0, es1, es2⟩ := m_sorts (k := k) (so := so) (a := Int32.ofNat x) (b := Int32.ofNat y) (c := Int32.ofNat z)
          rw [e1] at es0
          rw [e2] at es1
          rw [e3] at es2
          obtain ⟨F, hF⟩ : ∃ F, F = upd (upd (upd (upd (upd (upd (upd f 7 (Int32.ofNat (O + 1))) (272 + O * 6 + 0) (Int32.ofNat p)) (272 + O * 6 + 1) (Int32.ofNat q)) (272 + O * 6 + 2) (Int32.ofNat r)) (272 + O * 6 + 3) 0) (272 + O * 6 + 4) (-6)) (272 + O * 6 + 5) (-6) := ⟨_, rfl⟩
          obtain ⟨M, hM⟩ : ∃ M, M = upd (upd (upd (upd (upd (upd (upd ms 6 (Int32.ofNat (O + 1))) (252 + 6 * O + 0) (Int32.ofNat p)) (252 + 6 * O + 1) (Int32.ofNat q)) (252 + 6 * O + 2) (Int32.ofNat r)) (252 + 6 * O + 3) 0) (252 + 6 * O + 4) (-6)) (252 + 6 * O + 5) (-6) := ⟨_, rfl⟩
          have x1' : f_X6_takeOrder k f (Int32.ofNat x) (Int32.ofNat y) (Int32.ofNat z) = some (Int32.ofNat O, F) := by
            rw [f_X6_takeOrder, s_size, s_size, s_size, s_cell7, R.c.f7, s_great, s_middle, s_least, e2, e1, e3]
            simp only [zb1_some, flag]
            rw [if_neg (fun t => t q1), if_neg (fun t => t q2), if_neg (fun t => t q3), if_pos (show Int32.ofNat O < 10 from (n_lt (b := 10) (by omega) (by omega)).mpr qO)]
            rw [zl_e, n_suc, s_set7]
            simp only [zb1_some, s_sord0 qO, s_sord1 qO, s_sord2 qO, s_sord3 qO, s_sord4 qO, s_sord5 qO]
            rw [hF]
          have y1' : f_X8_orders k ms so (Int32.ofNat x) (Int32.ofNat y) (Int32.ofNat z) = some (Int32.ofNat O, M, s1) := by
            rw [f_X8_orders, m_size, m_size, m_size, es]
            simp only [zb1_some, flag, zl_e]
            rw [if_neg (fun t => t q1), if_neg (fun t => t q2), if_neg (fun t => t q3), R.m.m6, if_neg (show ¬ Int32.ofNat O = 10 from fun t => absurd ((n_inj (b := 10) (by omega) (by omega)).mp t) (by omega)), n_suc]
            obtain ⟨n, hn⟩ : ∃ n, k = n + 4 := ⟨k - 4, by omega⟩
            have st : ∀ (m j : Nat) (M : Nat → Int32), j < 3 → f_X8_orders_b69 k (Int32.ofNat x) (Int32.ofNat y) (Int32.ofNat z) (m + 1) M s1 (Int32.ofNat O) (Int32.ofNat j) = f_X8_orders_b69 k (Int32.ofNat x) (Int32.ofNat y) (Int32.ofNat z) m (upd M (252 + 6 * O + j) (s1 j)) s1 (Int32.ofNat O) (Int32.ofNat (j + 1)) := by
              intro m j M hj
              rw [f_X8_orders_b69, if_neg (show ¬ (3 : Int32) ≤ Int32.ofNat j from fun t => absurd ((n_le (a := 3) (by omega) (by omega)).mp t) (by omega)), m_oat]
              simp (disch := omega) only [zl_e, zb1_some, zb2_some, zb3_some, zb4_some, zb5_some, m_g, n_nat, n_suc]
            have e : ∀ m, f_X8_orders_b69 k (Int32.ofNat x) (Int32.ofNat y) (Int32.ofNat z) (m + 4) (upd ms 6 (Int32.ofNat (O + 1))) s1 (Int32.ofNat O) (Int32.ofNat 0) = some (Int32.ofNat O, M, s1) := by
              intro m
              rw [st _ 0 _ (by omega), st _ 1 _ (by omega), st _ 2 _ (by omega), f_X8_orders_b69, if_pos (by decide), m_oat3, m_oat4, m_oat5]
              simp (disch := omega) only [zl_e, zb1_some, zb2_some, zb3_some, zb4_some, zb5_some, m_g, n_nat, n_suc]
              rw [es0, es1, es2, hM]
            have := e n
            rw [← hn] at this
            exact this
          refine ⟨_, F, M, s1, B, O + 1, x1', y1', R.addO qO (fun i i1 i2 => by rw [hF]; rw [upd_ne (by omega), upd_ne (by omega), upd_ne (by omega), upd_ne (by omega), upd_ne (by omega), upd_ne (by omega), upd_ne i1]) (fun i i1 i2 => by rw [hM]; rw [upd_ne (by omega), upd_ne (by omega), upd_ne (by omega), upd_ne (by omega), upd_ne (by omega), upd_ne (by omega), upd_ne i1]) (by rw [hF]; simp (disch := omega) only [upd_ne, upd_at]) (by rw [hM]; simp (disch := omega) only [upd_ne, upd_at]) ⟨fun w hw => ?_, fun a ha => ?_, fun t => ?_⟩ (by rw [hF]; simp (disch := omega) only [upd_ne, upd_at]), fun t => absurd t (n_lt0 (by omega))⟩
          · have c : w = 0 ∨ w = 1 ∨ w = 2 ∨ w = 3 ∨ w = 4 ∨ w = 5 := by omega
            rw [hF, hM]
            rcases c with rfl | rfl | rfl | rfl | rfl | rfl <;> simp (disch := omega) only [upd_ne, upd_at]
          · have c : a = 0 ∨ a = 1 ∨ a = 2 := by omega
            rw [hF]
            rcases c with rfl | rfl | rfl
            · exact ⟨p, hp.1, hp.2, by simp (disch := omega) only [upd_ne, upd_at]⟩
            · exact ⟨q, hq.1, hq.2, by simp (disch := omega) only [upd_ne, upd_at]⟩
            · exact ⟨r, hr.1, hr.2, by simp (disch := omega) only [upd_ne, upd_at]⟩
          · rw [hF] at t
            simp (disch := omega) only [upd_ne, upd_at] at t
            exact absurd t (by decide)
        · have : O = 10 := by omega
          subst this
          refine StepD.err R (r := -4) (s1 := so) ?_ ?_
          · rw [f_X6_takeOrder, s_size, s_size, s_size, s_cell7, R.c.f7]
            simp only [zb1_some, flag]
            rw [if_neg (fun t => t q1), if_neg (fun t => t q2), if_neg (fun t => t q3), if_neg (by decide)]
          · rw [f_X8_orders, m_size, m_size, m_size]
            simp only [zb1_some, flag, zl_e]
            rw [if_neg (fun t => t q1), if_neg (fun t => t q2), if_neg (fun t => t q3), R.m.m6, if_pos (by decide)]
      · refine StepD.err R (r := -2) (s1 := so) ?_ ?_
        · rw [f_X6_takeOrder, s_size, s_size, s_size]
          simp only [zb1_some, flag]
          rw [if_neg (fun t => t q1), if_neg (fun t => t q2), if_pos q3]
        · rw [f_X8_orders, m_size, m_size, m_size]
          simp only [zb1_some, flag]
          rw [if_neg (fun t => t q1), if_neg (fun t => t q2), if_pos q3]
    · refine StepD.err R (r := -2) (s1 := so) ?_ ?_
      · rw [f_X6_takeOrder, s_size, s_size]
        simp only [zb1_some, flag]
        rw [if_neg (fun t => t q1), if_pos q2]
      · rw [f_X8_orders, m_size, m_size]
        simp only [zb1_some, flag]
        rw [if_neg (fun t => t q1), if_pos q2]
  · refine StepD.err R (r := -2) (s1 := so) ?_ ?_
    · rw [f_X6_takeOrder, s_size]
      simp only [zb1_some, flag]
      rw [if_pos q1]
    · rw [f_X8_orders, m_size]
      simp only [zb1_some, flag]
      rw [if_pos q1]
