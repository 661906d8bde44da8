/-! LEAVING: the relation -/
theorem Rel.at2 {f ms : Nat → Int32} {B O b : Nat} (R : Rel f ms B O) (hb : b < B) (h : ¬ f (8 + b * 11 + 9) = -6) : f (8 + b * 11 + 5) = 2 := by
  by_cases q : f (8 + b * 11 + 5) = 2
  · exact q
  · exact absurd ((R.blk b hb).2.2.2.2.2.2.2.2.1 q) h
theorem Rel.ow {f ms : Nat → Int32} {B O b : Nat} (R : Rel f ms B O) (hb : b < B) (h : ¬ f (8 + b * 11 + 9) = -6) : f (8 + b * 11 + 8) = -6 ∨ ∃ o, o < O ∧ f (8 + b * 11 + 8) = Int32.ofNat o ∧ f (272 + o * 6 + 3) = 1 ∧ f (272 + o * 6 + 4) = Int32.ofNat b := by
  by_cases q : f (8 + b * 11 + 8) = -6
  · exact .inl q
  · exact .inr ((R.blk b hb).2.2.2.2.2.2.2.2.2 q (by rw [R.at2 hb h]; decide))
theorem Rel.leave {f ms F M F' M' : Nat → Int32} {B O l : Nat} {P : Nat → Bool} {x y : Int32} (R : Rel f ms B O) (hl : l < 3) (hP : ∀ b, b < B → P b = true → ¬ f (8 + b * 11 + 9) = -6) (d : Dl f F B O P x) (m : Dm ms M B O P y) (hy : y = zsum (fun b => f (8 + b * 11 + 4)) P B)
    (hF : F' = upd F (332 + l * 4 + 3) (F (332 + l * 4 + 3) + 1)) (hM : M' = upd (upd M 11 (M 11 + x)) (312 + 4 * l + 3) (M (312 + 4 * l + 3) + 1)) : Rel F' M' B O := by
  have hB := R.c.hB
  have hO := R.c.hO
  obtain ⟨d1, d2, d3, d4⟩ := d
  obtain ⟨m1, m2, m3, m4⟩ := m
  have c7 : ∀ b, b < B → f (8 + b * 11 + 8) = ms (12 + 10 * b + 7) := fun b hb => (R.blk b hb).2.1 7 (by omega) (by omega)
  have pw : ∀ b, b < B → P b = true → f (8 + b * 11 + 5) = 2 := fun b hb pb => R.at2 hb (hP b hb pb)
  have fB : ∀ c w, c < B → w < 11 → (P c = false ∨ (w ≠ 5 ∧ w ≠ 9)) → F' (8 + c * 11 + w) = f (8 + c * 11 + w) := fun c w hc hw hh => by
    rw [hF, upd_ne (by omega)]
    refine d1 _ (fun b hb pb => ?_) (fun b hb pb o ho _ => by omega)
    rcases hh with q | q
    · have : b ≠ c := fun t => by rw [t, q] at pb; cases pb
      omega
    · omega
  have mB : ∀ c w, c < B → w < 10 → (P c = false ∨ (w ≠ 4 ∧ w ≠ 8)) → M' (12 + 10 * c + w) = ms (12 + 10 * c + w) := fun c w hc hw hh => by
    rw [hM, upd_ne (by omega), upd_ne (by omega)]
    refine m1 _ (by omega) (fun b hb pb => ?_) (fun b hb pb o ho _ => by omega)
    rcases hh with q | q
    · have : b ≠ c := fun t => by rw [t, q] at pb; cases pb
      omega
    · omega
  have fl : ∀ i, i < 8 → F' i = f i := fun i hi => by
    rw [hF, upd_ne (by omega)]
    exact d1 _ (fun b hb pb => by omega) (fun b hb pb o ho _ => by omega)
  have ml : ∀ i, i < 10 → M' i = ms i := fun i hi => by
    rw [hM, upd_ne (by omega), upd_ne (by omega)]
    exact m1 _ (by omega) (fun b hb pb => by omega) (fun b hb pb o ho _ => by omega)
  have fO : ∀ o w, o < O → w < 6 → ((w ≠ 3 ∧ w ≠ 5) ∨ ∀ b, b < B → P b = true → ¬ f (8 + b * 11 + 8) = Int32.ofNat o) → F' (272 + o * 6 + w) = f (272 + o * 6 + w) := fun o w ho hw hh => by
    rw [hF, upd_ne (by omega)]
    refine d1 _ (fun b hb pb => by omega) (fun b hb pb p hp ep => ?_)
    rcases hh with q | q
    · omega
    · have : p ≠ o := fun t => q b hb pb (t ▸ ep)
      omega
  have mO : ∀ o w, o < O → w < 6 → ((w ≠ 3 ∧ w ≠ 5) ∨ ∀ b, b < B → P b = true → ¬ f (8 + b * 11 + 8) = Int32.ofNat o) → M' (252 + 6 * o + w) = ms (252 + 6 * o + w) := fun o w ho hw hh => by
    rw [hM, upd_ne (by omega), upd_ne (by omega)]
    refine m1 _ (by omega) (fun b hb pb => by omega) (fun b hb pb p hp ep => ?_)
    rcases hh with q | q
    · omega
    · have : p ≠ o := fun t => q b hb pb (by rw [c7 b hb, ep, t])
      omega
  have fL : ∀ i, 332 ≤ i → i < 344 → F i = f i := fun i i1 i2 => d1 _ (fun b hb pb => by omega) (fun b hb pb o ho _ => by omega)
  have mL : ∀ i, 312 ≤ i → i < 324 → M i = ms i := fun i i1 i2 => m1 _ (by omega) (fun b hb pb => by omega) (fun b hb pb o ho _ => by omega)
  have b5 : ∀ b, b < B → P b = true → F' (8 + b * 11 + 5) = 3 ∧ F' (8 + b * 11 + 9) = -6 := fun b hb pb => by
    rw [hF, upd_ne (by omega), upd_ne (by omega)]
    exact d2 b hb pb
  have n4 : ∀ b, b < B → P b = true → M' (12 + 10 * b + 4) = 3 ∧ M' (12 + 10 * b + 8) = -6 := fun b hb pb => by
    rw [hM, upd_ne (by omega), upd_ne (by omega), upd_ne (by omega), upd_ne (by omega)]
    exact m2 b hb pb
  have o3 : ∀ b, b < B → P b = true → ∀ o, o < O → f (8 + b * 11 + 8) = Int32.ofNat o → F' (272 + o * 6 + 3) = 2 ∧ F' (272 + o * 6 + 5) = ziv f b := fun b hb pb o ho e => by
    rw [hF, upd_ne (by omega), upd_ne (by omega)]
    exact d3 b hb pb o ho e
  have q3 : ∀ b, b < B → P b = true → ∀ o, o < O → f (8 + b * 11 + 8) = Int32.ofNat o → M' (252 + 6 * o + 3) = 2 ∧ M' (252 + 6 * o + 5) = miv ms b := fun b hb pb o ho e => by
    rw [hM, upd_ne (by omega), upd_ne (by omega), upd_ne (by omega), upd_ne (by omega)]
    exact m3 b hb pb o ho (by rw [← c7 b hb]; exact e)
  have ei : ∀ b, b < B → ziv f b = miv ms b := fun b hb => by
    unfold ziv miv
    rw [R.gen.1.2.1, (R.blk b hb).2.2.2.2.1]
  have em : ∀ c, c < B → mw M' c = mw ms c := fun c hc => by
    unfold mw
    rw [mB c 0 hc (by omega) (.inr (by omega)), mB c 1 hc (by omega) (.inr (by omega)), mB c 2 hc (by omega) (.inr (by omega)), mB c 3 hc (by omega) (.inr (by omega))]
  refine ⟨⟨hB, hO, by rw [fl 6 (by omega)]; exact R.c.f6, by rw [fl 7 (by omega)]; exact R.c.f7⟩, ⟨hB, hO, by rw [ml 5 (by omega)]; exact R.m.m5, by rw [ml 6 (by omega)]; exact R.m.m6⟩, R.gen.same (fun i hi => fl i (by omega)) (fun i hi => ml i (by omega)), fun k hk w hw => ?_, fun k hk w hw => ?_, fun c hc => ?_, ?_, fun p hp => ?_, ?_⟩
  · have r := R.ll k hk w hw
    by_cases e : 332 + k * 4 + w = 332 + l * 4 + 3
    · have e' : 312 + 4 * k + w = 312 + 4 * l + 3 := by omega
      rw [e, e'] at r
      rw [e, e', hF, hM, upd_at, upd_at, fL _ (by omega) (by omega), mL _ (by omega) (by omega), r]
    · rw [hF, hM, upd_ne e, upd_ne (by omega), upd_ne (by omega), fL _ (by omega) (by omega), mL _ (by omega) (by omega)]
      exact r
  · rw [hF, upd_ne (by omega), fL _ (by omega) (by omega)]
    exact R.lm k hk w hw
  · obtain ⟨h1, h2, h3, h4, h5, h6, h7, h8, h9, h10⟩ := R.blk c hc
    refine ⟨fun w hw => ?_, fun w w1 w2 => ?_, fun a ha => ?_, ?_, ?_, ?_, ?_, ?_, ?_, ?_⟩
    · rw [fB c w hc (by omega) (.inr (by omega)), mB c w hc (by omega) (.inr (by omega))]; exact h1 w hw
    · cases pc : P c with
      | false => rw [fB c (w + 1) hc (by omega) (.inl pc), mB c w hc (by omega) (.inl pc)]; exact h2 w w1 w2
      | true =>
        by_cases q4 : w = 4
        · subst q4; rw [(b5 c hc pc).1, (n4 c hc pc).1]
        · by_cases q8 : w = 8
          · subst q8; rw [(b5 c hc pc).2, (n4 c hc pc).2]
          · rw [fB c (w + 1) hc (by omega) (.inr (by omega)), mB c w hc (by omega) (.inr (by omega))]; exact h2 w w1 w2
    · rw [fB c a hc (by omega) (.inr (by omega))]; exact h3 a ha
    · rw [fB c 3 hc (by omega) (.inr (by omega))]; exact h4
    · rw [fB c 4 hc (by omega) (.inr (by omega)), em c hc]; exact h5
    · rw [fB c 6 hc (by omega) (.inr (by omega))]; exact h6
    · rw [fB c 7 hc (by omega) (.inr (by omega))]; exact h7
    · intro q
      cases pc : P c with
      | false =>
        rw [fB c 5 hc (by omega) (.inl pc)] at q
        rw [fB c 9 hc (by omega) (.inl pc)]
        exact h8 q
      | true => rw [(b5 c hc pc).1] at q; exact absurd q (by decide)
    · intro q
      cases pc : P c with
      | false =>
        rw [fB c 5 hc (by omega) (.inl pc)] at q
        rw [fB c 9 hc (by omega) (.inl pc)]
        exact h9 q
      | true => exact (b5 c hc pc).2
    · intro q1 q2
      cases pc : P c with
      | true => exact absurd (b5 c hc pc).1 q2
      | false =>
        rw [fB c 8 hc (by omega) (.inl pc)] at q1
        rw [fB c 5 hc (by omega) (.inl pc)] at q2
        obtain ⟨o, a1, a2, a3, a4⟩ := h10 q1 q2
        have no : ∀ b, b < B → P b = true → ¬ f (8 + b * 11 + 8) = Int32.ofNat o := fun b hb pb t => by
          rcases R.ow hb (hP b hb pb) with r | ⟨p, b1, b2, b3, b4⟩
          · rw [t] at r; exact n_neg6 (by omega) r
          · rw [t] at b2
            have := (n_inj (by omega) (by omega)).mp b2
            subst this
            rw [a4] at b4
            have := (n_inj (by omega) (by omega)).mp b4
            subst this
            rw [pc] at pb
            cases pb
        exact ⟨o, a1, by rw [fB c 8 hc (by omega) (.inl pc)]; exact a2, by rw [fO o 3 a1 (by omega) (.inr no)]; exact a3, by rw [fO o 4 a1 (by omega) (.inl (by omega))]; exact a4⟩
  · intro b hb c hc e n
    have e : F' (8 + b * 11 + 9) = F' (8 + c * 11 + 9) := e
    have n : ¬ F' (8 + b * 11 + 9) = -6 := n
    cases pb : P b with
    | true => exact absurd (b5 b hb pb).2 n
    | false =>
      cases pc : P c with
      | true => rw [e] at n; exact absurd (b5 c hc pc).2 n
      | false =>
        rw [fB b 9 hb (by omega) (.inl pb)] at e n
        rw [fB c 9 hc (by omega) (.inl pc)] at e
        exact R.uq b hb c hc e n
  · obtain ⟨h1, h2, h3⟩ := R.ord p hp
    by_cases q : ∃ b, b < B ∧ P b = true ∧ f (8 + b * 11 + 8) = Int32.ofNat p
    · obtain ⟨b, hb, pb, e⟩ := q
      obtain ⟨u3, u5⟩ := o3 b hb pb p hp e
      obtain ⟨v3, v5⟩ := q3 b hb pb p hp e
      refine ⟨fun w hw => ?_, fun a ha => ?_, fun t => ?_⟩
      · by_cases w3 : w = 3
        · subst w3; rw [u3, v3]
        · by_cases w5 : w = 5
          · subst w5; rw [u5, v5, ei b hb]
          · rw [fO p w hp hw (.inl ⟨w3, w5⟩), mO p w hp hw (.inl ⟨w3, w5⟩)]; exact h1 w hw
      · rw [fO p a hp (by omega) (.inl (by omega))]; exact h2 a ha
      · rw [u3] at t; exact absurd t (by decide)
    · have no : ∀ b, b < B → P b = true → ¬ f (8 + b * 11 + 8) = Int32.ofNat p := fun b hb pb e => q ⟨b, hb, pb, e⟩
      exact (R.ord p hp).same (Nat.le_refl _) (fun w hw => fO p w hp hw (.inr no)) (fun w hw => mO p w hp hw (.inr no))
  · obtain ⟨s1, s2, s3, s4, s5⟩ := R.sums
    have x1 : zsum (fun b => F' (8 + b * 11 + 4)) (fun b => decide (F' (8 + b * 11 + 10) = -6)) B = zsum (fun b => f (8 + b * 11 + 4)) (fun b => decide (f (8 + b * 11 + 10) = -6)) B := zsum_congr (fun c hc => by rw [fB c 10 hc (by omega) (.inr (by omega))]) (fun c hc _ => fB c 4 hc (by omega) (.inr (by omega)))
    have x2 : zsum (fun b => F' (8 + b * 11 + 4)) (fun b => !decide (F' (8 + b * 11 + 5) = 4)) B = zsum (fun b => f (8 + b * 11 + 4)) (fun b => !decide (f (8 + b * 11 + 5) = 4)) B := zsum_congr (fun c hc => by
      cases pc : P c with
      | false => rw [fB c 5 hc (by omega) (.inl pc)]
      | true => rw [(b5 c hc pc).1, pw c hc pc]; decide) (fun c hc _ => fB c 4 hc (by omega) (.inr (by omega)))
    have x3 : zsum (fun b => F' (8 + b * 11 + 4)) (fun b => decide (F' (8 + b * 11 + 5) = 3)) B = zsum (fun b => f (8 + b * 11 + 4)) (fun b => decide (f (8 + b * 11 + 5) = 3)) B + y := by
      rw [hy, ← zsum_or (P := fun b => decide (f (8 + b * 11 + 5) = 3)) (Q := P) B (fun c hc h => by
        cases pc : P c with
        | false => rfl
        | true =>
          have h := of_decide_eq_true h
          rw [pw c hc pc] at h
          exact absurd h (by decide))]
      exact zsum_congr (fun c hc => by
        cases pc : P c with
        | false => rw [fB c 5 hc (by omega) (.inl pc), Bool.or_false]
        | true => rw [(b5 c hc pc).1, Bool.or_true]; rfl) (fun c hc _ => fB c 4 hc (by omega) (.inr (by omega)))
    have x4 : zsum (fun b => F' (272 + b * 6 + 5)) (fun b => decide (F' (272 + b * 6 + 3) = 2)) O = zsum (fun b => f (272 + b * 6 + 5)) (fun b => decide (f (272 + b * 6 + 3) = 2)) O + x := by
      rw [← d4]
      exact zsum_congr (fun c hc => by rw [hF, upd_ne (by omega)]) (fun c hc _ => by rw [hF, upd_ne (by omega)])
    have x5 : zcnt (fun b => decide (F' (8 + b * 11 + 5) = 1)) B = zcnt (fun b => decide (f (8 + b * 11 + 5) = 1)) B := zcnt_congr (fun c hc => by
      cases pc : P c with
      | false => rw [fB c 5 hc (by omega) (.inl pc)]
      | true => rw [(b5 c hc pc).1, pw c hc pc]; decide)
    have w10 : M' 10 = ms 10 + y := by rw [hM, upd_ne (by omega), upd_ne (by omega), m4]
    have w11 : M' 11 = ms 11 + x := by rw [hM, upd_ne (by omega), upd_at, m1 11 (by omega) (fun b hb pb => by omega) (fun b hb pb o ho _ => by omega)]
    unfold Sums
    rw [x1, x2, x3, x4, x5, ml 8 (by omega), ml 9 (by omega), w10, w11, ← s3, ← s4]
    exact ⟨s1, s2, rfl, rfl, s5⟩
theorem zb1_inv {α ρ : Type} {o : Option α} {K : α → Option ρ} {r : ρ} (h : zb1 o K = some r) : ∃ a, o = some a ∧ K a = some r := by
  cases o with
  | none => exact absurd h (by intro t; cases t)
  | some a => exact ⟨a, rfl, h⟩
theorem s_why_n {k : Nat} {f : Nat → Int32} {p r : Int32} (h : f_X1_reasonToStay k f p = some r) : r = 0 ∨ ¬ r ≤ 0 := by
  rw [f_X1_reasonToStay] at h
  obtain ⟨v1, -, h⟩ := zb1_inv h
  split at h
  · cases h; exact .inr (by decide)
  · obtain ⟨v2, -, h⟩ := zb1_inv h
    simp only [zl_e] at h
    split at h
    · obtain ⟨v4, -, h⟩ := zb1_inv h
      obtain ⟨v5, -, h⟩ := zb1_inv h
      split at h
      · obtain ⟨v6, -, h⟩ := zb1_inv h
        obtain ⟨v7, -, h⟩ := zb1_inv h
        split at h
        · obtain ⟨v8, -, h⟩ := zb1_inv h
          obtain ⟨v9, -, h⟩ := zb1_inv h
          split at h
          · cases h; exact .inl rfl
          · cases h; exact .inr (by decide)
        · cases h; exact .inr (by decide)
      · cases h; exact .inr (by decide)
    · cases h; exact .inr (by decide)
/-- a sum of numbers that are not negative, and small -/
theorem zsum_pos {w : Nat → Int32} {P : Nat → Bool} {c : Nat} : ∀ n, n * c < 2147483648 → (∀ b, b < n → P b = true → 0 ≤ (w b).toInt ∧ (w b).toInt ≤ c) → 0 ≤ (zsum w P n).toInt ∧ (zsum w P n).toInt ≤ n * c := by
  intro n
  induction n with
  | zero => intro _ _; rw [zsum]; exact ⟨by decide, by simp⟩
  | succ n ih =>
    intro hc h
    rw [Nat.succ_mul] at hc
    obtain ⟨i1, i2⟩ := ih (by omega) (fun b hb => h b (by omega))
    rw [zsum]
    have e : ((n + 1 : Nat) : Int) * (c : Int) = (n : Int) * c + c := by
      rw [Int.natCast_add, Int.add_mul]
      simp
    by_cases q : P n = true
    · rw [if_pos q]
      obtain ⟨w1, w2⟩ := h n (by omega) q
      have hn : (n : Int) * c + c < 2147483648 := by
        have : ((n * c + c : Nat) : Int) < 2147483648 := by omega
        rwa [Int.natCast_add, Int.natCast_mul] at this
      rw [i_add (by omega) (by omega), e]
      omega
    · rw [if_neg q, e]
      omega
theorem zon_n6 {S : Nat → Int32} {l b : Nat} (hl : l < 3) (h : zon S l b = true) : ¬ S b = -6 := by
  unfold zon at h
  simp only [Bool.or_eq_true] at h
  rcases h with (((h | h) | h) | h) | h <;> exact zat_n6 (by omega) h
theorem ziv_n {f ms : Nat → Int32} {B O b : Nat} (R : Rel f ms B O) (hb : b < B) : ∃ v, v ≤ 80190 ∧ ziv f b = Int32.ofNat v := by
  obtain ⟨-, -, ⟨p1, p2⟩, -⟩ := R.gen
  obtain ⟨n, n1, n2⟩ := (R.blk b hb).wt
  have ep : f 1 = Int32.ofNat (f 1).toInt.toNat := by
    rw [i_eq, i_nat (by omega)]
    omega
  refine ⟨(f 1).toInt.toNat * ((n + 99) / 100), ?_, ?_⟩
  · have h1 : (f 1).toInt.toNat ≤ 99 := by omega
    have h2 : (n + 99) / 100 ≤ 810 := by omega
    have := Nat.mul_le_mul h1 h2
    omega
  · unfold ziv
    rw [n2, show Int32.ofNat n + 99 = Int32.ofNat (n + 99) from n_add n 99, show (100 : Int32) = Int32.ofNat 100 from rfl, ← Int32.ofNat_div (by omega) (by omega), ← n_mul, ← ep]
theorem stp_leave {k : Nat} {f ms : Nat → Int32} {B O : Nat} (R : Rel f ms B O) (hk : 25 ≤ k) (p1 : Int32) : Step f ms (f_X6_sendLorry k f p1) (f_X8_leaves k ms p1) := by
  have hB := R.c.hB
  have hO := R.c.hO
  rcases j_lor k p1 with ⟨l, l1, rfl, e1, e2⟩ | ⟨e1, e2⟩
  · obtain ⟨r, r1, r2⟩ := w_why R.c R.m R.lw R.ll (fun b hb => ((R.blk b hb).2.1 6 (by omega) (by omega)).symm) hk l1
    rcases s_why_n r1 with q | q
    · subst q
      have c7 : ∀ b, b < B → f (8 + b * 11 + 8) = ms (12 + 10 * b + 7) := fun b hb => (R.blk b hb).2.1 7 (by omega) (by omega)
      have c8 : ∀ b, b < B → f (8 + b * 11 + 9) = ms (12 + 10 * b + 8) := fun b hb => (R.blk b hb).2.1 8 (by omega) (by omega)
      have hP : ∀ b, b < B → zon (fun b => f (8 + b * 11 + 9)) l b = true → ¬ f (8 + b * 11 + 9) = -6 := fun b hb pb => zon_n6 (S := fun b => f (8 + b * 11 + 9)) l1 pb
      obtain ⟨F, eF, dF⟩ := send_loop (k := k) (P := zon (fun b => f (8 + b * 11 + 9)) l) l1 hB hO (fun b hb pb => R.ow hb (hP b hb pb)) k 0 f (by omega) (by omega) (Dl.no (fun b _ => by simp))
      obtain ⟨M, eM, dM⟩ := m_leave (k := k) R.m hk l1 R.lw.um (fun b hb n => by
        rcases R.ow hb (by rw [c8 b hb]; exact n) with t | ⟨o, a1, a2, a3, a4⟩
        · exact .inl (by rw [← c7 b hb]; exact t)
        · exact .inr ⟨o, a1, by rw [← c7 b hb]; exact a2, by rw [← (R.ord o a1).1 4 (by omega)]; exact a4⟩)
      have ei : ∀ b, b < B → mio ms b = zio f b := fun b hb => by
        unfold mio zio miv ziv
        rw [c7 b hb, R.gen.1.2.1, (R.blk b hb).2.2.2.2.1]
      have e3 : zsum (mio ms) (zon (fun b => ms (12 + 10 * b + 8)) l) B = zsum (zio f) (zon (fun b => f (8 + b * 11 + 9)) l) B := zsum_congr (R.lw.on l) (fun b hb _ => ei b hb)
      have e4 : zsum (mw ms) (zon (fun b => ms (12 + 10 * b + 8)) l) B = zsum (fun b => f (8 + b * 11 + 4)) (zon (fun b => f (8 + b * 11 + 9)) l) B := zsum_congr (R.lw.on l) (fun b hb _ => ((R.blk b hb).2.2.2.2.1).symm)
      rw [e3] at eM
      rw [e4] at dM
      have sp := zsum_pos (w := zio f) (P := zon (fun b => f (8 + b * 11 + 9)) l) (c := 80190) B (by omega) (fun b hb _ => by
        unfold zio
        by_cases t : f (8 + b * 11 + 8) = -6
        · rw [if_pos t]; decide
        · rw [if_neg t]
          obtain ⟨v, v1, v2⟩ := ziv_n R hb
          rw [v2, i_nat (by omega)]
          omega)
      refine ⟨zsum (zio f) (zon (fun b => f (8 + b * 11 + 9)) l) B, upd F (332 + l * 4 + 3) (F (332 + l * 4 + 3) + 1), upd (upd M 11 (M 11 + zsum (zio f) (zon (fun b => f (8 + b * 11 + 9)) l) B)) (312 + 4 * l + 3) (M (312 + 4 * l + 3) + 1), B, O, ?_, ?_, R.leave l1 hP dF (dM.congr (fun b hb => (R.lw.on l b hb).symm)) rfl rfl rfl, fun t => ?_⟩
      · rw [f_X6_sendLorry, e1, zb1_some, if_neg n10, r1, zb1_some, if_pos rfl, s_on R.c hk, zb1_some]
        exact eF
      · rw [f_X8_leaves, e2, zb1_some, if_neg n10, r2, zb1_some, if_pos (by decide)]
        exact eM
      · exfalso
        have t0 : (0 : Int32).toInt = 0 := by decide
        rw [i_lt, t0] at t
        omega
    · refine Step.err R (r := -5) ?_ ?_
      · rw [f_X6_sendLorry, e1, zb1_some, if_neg n10, r1, zb1_some, if_neg (fun t => q (by rw [t]; decide))]
      · rw [f_X8_leaves, e2, zb1_some, if_neg n10, r2, zb1_some, if_neg q]
  · exact Step.err R (r := -1) (by rw [f_X6_sendLorry, e1]; rfl) (by rw [f_X8_leaves, e2]; rfl)
