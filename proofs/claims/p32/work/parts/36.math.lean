/-! NIGHTS, LEAVING -/
def zfr (f : Nat → Int32) (b : Nat) : Bool := (decide (f (8 + b * 11 + 5) = 0) && !decide (f (8 + b * 11 + 6) = 0)) && decide (f (8 + b * 11 + 7) = 0)
theorem s_frost {k B O : Nat} {f : Nat → Int32} (c : CI f B O) (hk : 25 ≤ k) : f_X7_ifFrost k f = some (zbs (zfr f) B) := by
  have hB := c.hB
  rw [f_X7_ifFrost, f_X1_blocksForFrost, s_bw5 c hk, s_bw6 c hk, s_bw7 c hk]
  simp only [zb1_some, zl_e]
  rw [b_andnot (by omega), b_and (by omega)]
  rfl
theorem s_crack {k B O : Nat} {f : Nat → Int32} (c : CI f B O) (hk : 25 ≤ k) : ∃ F, f_X6_crackBlocks k f = some (Int32.ofNat (zcnt (zfr f) B), F) ∧
    (∀ x, (∀ b, b < B → x ≠ 8 + b * 11 + 7) → F x = f x) ∧ ∀ b, b < B → F (8 + b * 11 + 7) = if zfr f b = true then 1 else f (8 + b * 11 + 7) := by
  have hB := c.hB
  obtain ⟨F, e, fr, on⟩ := crk_loop (k := k) (P := zfr f) hB k 0 f (by omega) (by omega)
  refine ⟨F, ?_, fun x hx => fr x (fun b _ hb _ => hx b hb), fun b hb => ?_⟩
  · rw [crk_if, s_frost c hk, zb1_some]
    exact e
  · by_cases q : zfr f b = true
    · rw [if_pos q]
      exact on b (by omega) hb q
    · rw [if_neg q]
      exact fr _ (fun c _ hc hP => by
        intro t
        have : c = b := by omega
        subst this
        exact q hP)
theorem nt_ok {k t B O : Nat} {f F1 : Nat → Int32} {P : Nat → Bool} {p1 fz y : Int32} (R : Inv f t B O) (hk : 25 ≤ k) (hz : fz = 0 ∨ fz = 1) (h9 : (f 5).toInt < 999)
    (fr1 : ∀ x, (∀ b, b < B → x ≠ 8 + b * 11 + 7) → F1 x = f x) (on1 : ∀ b, b < B → F1 (8 + b * 11 + 7) = if P b = true then 1 else f (8 + b * 11 + 7)) :
    ∃ F, f_X6_passNight_b64 k p1 F1 (f 5) fz y = some (y, F) ∧ Inv F (t + 1) B O ∧ F 4 = fz ∧ ∀ b, b < B → F (8 + b * 11 + 5) = f (8 + b * 11 + 5) ∧ F (8 + b * 11 + 7) = if P b = true then 1 else f (8 + b * 11 + 7) := by
  have hB := R.c.hB
  have hO := R.c.hO
  have c1 : CI F1 B O := ⟨hB, hO, by rw [fr1 6 (fun b hb => by omega)]; exact R.c.f6, by rw [fr1 7 (fun b hb => by omega)]; exact R.c.f7⟩
  obtain ⟨F2, e2, fr2, on2⟩ := s_dry (k := k) c1 hk
  have b84 : ∀ z y, f_X6_passNight_b84 k p1 F2 (f 5) y z 4 = some (y, upd (upd F2 4 z) 5 (f 5 + 1)) := fun z y => by
    rw [f_X6_passNight_b84, s_set4, zb1_some, zl_e, s_set5, zb1_some]
  obtain ⟨F, hF⟩ : ∃ F, F = upd (upd F2 4 fz) 5 (f 5 + 1) := ⟨_, rfl⟩
  have hf : ∀ x, x ≠ 4 → x ≠ 5 → (∀ b, b < B → x ≠ 8 + b * 11 + 6 ∧ x ≠ 8 + b * 11 + 7) → F x = f x := fun x h4 h5 hx => by
    rw [hF, upd_ne h5, upd_ne h4, fr2 x (fun b hb => (hx b hb).1), fr1 x (fun b hb => (hx b hb).2)]
  have ff : ∀ c w, c < B → w < 11 → w ≠ 6 → w ≠ 7 → F (8 + c * 11 + w) = f (8 + c * 11 + w) := fun c w hc hw h6 h7 => hf _ (by omega) (by omega) (fun b hb => by omega)
  have fo : ∀ o w, o < O → w < 6 → F (272 + o * 6 + w) = f (272 + o * 6 + w) := fun o w ho hw => hf _ (by omega) (by omega) (fun b hb => by omega)
  have fl : ∀ i, i < 4 → F i = f i := fun i hi => hf i (by omega) (by omega) (fun b hb => by omega)
  have f7 : ∀ b, b < B → F (8 + b * 11 + 7) = if P b = true then 1 else f (8 + b * 11 + 7) := fun b hb => by
    rw [hF, upd_ne (by omega), upd_ne (by omega), fr2 _ (fun c hc => by omega), on1 b hb]
  have f6 : ∀ b, b < B → F (8 + b * 11 + 6) = zwet (f (8 + b * 11 + 5)) (f (8 + b * 11 + 6)) := fun b hb => by
    rw [hF, upd_ne (by omega), upd_ne (by omega), on2 b hb, fr1 _ (fun c hc => by omega), fr1 _ (fun c hc => by omega)]
  refine ⟨F, ?_, ⟨⟨hB, hO, by rw [hf 6 (by omega) (by omega) (fun b hb => by omega)]; exact R.c.f6, by rw [hf 7 (by omega) (by omega) (fun b hb => by omega)]; exact R.c.f7⟩, ?_, R.lm.same (fun i _ _ => hf i (by omega) (by omega) (fun b hb => by omega)), fun c hc => ?_, R.uq.same (fun c hc => ff c 9 hc (by omega) (by omega) (by omega)), fun p hp => (R.ord p hp).same (Nat.le_refl _) (fun w hw => fo p w hp hw), R.sums.same (fun c hc => ⟨ff c 4 hc (by omega) (by omega) (by omega), by rw [ff c 5 hc (by omega) (by omega) (by omega)], ff c 10 hc (by omega) (by omega) (by omega)⟩) (R.sums.roof (fun c hc => ff c 5 hc (by omega) (by omega) (by omega)))⟩, ?_, fun b hb => ⟨ff b 5 hb (by omega) (by omega) (by omega), f7 b hb⟩⟩
  · rw [f_X6_passNight_b64, e2, zb1_some, b84, b84, hF]
    rcases hz with rfl | rfl
    · rw [if_pos rfl]
    · rw [if_neg n10]
  · obtain ⟨g1, g2, g3, g4, n, n1, n2⟩ := R.g
    unfold IG
    rw [fl 0 (by omega), fl 1 (by omega), fl 2 (by omega), fl 3 (by omega)]
    exact ⟨g1, g2, g3, g4, n + 1, by omega, by rw [hF, upd_at, n2, n_suc]⟩
  · obtain ⟨h3, h4, h5a, h6, ⟨n, n1, n2⟩, h8, h9, h10, h11, h12⟩ := R.blk c hc
    refine ⟨fun a ha => ?_, ?_, ?_, ?_, ?_, ?_, ?_, ?_, ?_, ?_⟩
    · rw [ff c a hc (by omega) (by omega) (by omega)]; exact h3 a ha
    · rw [ff c 3 hc (by omega) (by omega) (by omega)]; exact h4
    · rw [ff c 0 hc (by omega) (by omega) (by omega), ff c 1 hc (by omega) (by omega) (by omega), ff c 2 hc (by omega) (by omega) (by omega), ff c 3 hc (by omega) (by omega) (by omega), ff c 4 hc (by omega) (by omega) (by omega)]; exact h5a
    · rw [ff c 5 hc (by omega) (by omega) (by omega)]; exact h6
    · rw [f6 c hc, n2]; exact zwet_n n1
    · rw [f7 c hc]
      by_cases q : P c = true
      · rw [if_pos q]; exact .inr rfl
      · rw [if_neg q]; exact h8
    · rw [ff c 5 hc (by omega) (by omega) (by omega), ff c 9 hc (by omega) (by omega) (by omega)]; exact h9
    · rw [ff c 5 hc (by omega) (by omega) (by omega), ff c 9 hc (by omega) (by omega) (by omega)]; exact h10
    · rw [ff c 5 hc (by omega) (by omega) (by omega), ff c 8 hc (by omega) (by omega) (by omega)]
      rcases h11 with q | ⟨o, o1, o2, o3, o4⟩
      · exact .inl q
      · exact .inr ⟨o, o1, o2, by rw [fo o 4 o1 (by omega)]; exact o3, by rw [fo o 3 o1 (by omega)]; exact o4⟩
    · rw [ff c 10 hc (by omega) (by omega) (by omega)]; exact h12
  · rw [hF, upd_ne (by omega), upd_at]
theorem night_x {k t B O : Nat} {f : Nat → Int32} {p1 : Int32} (R : Inv f t B O) (q : ¬ p1 < -40 ∧ ¬ (40 : Int32) < p1) (q5 : f 5 < 999) : f_X6_passNight k f p1 = if f 2 < p1 then f_X6_passNight_b64 k p1 f (f 5) 0 0 else zb2 (f_X6_crackBlocks k f) (fun v9 f10 => f_X6_passNight_b64 k p1 f10 (f 5) 1 v9) := by
  have t40 : (40 : Int32).toInt = 40 := by decide
  have q40 : p1 ≤ 40 := by
    have := q.2
    rw [i_lt, t40] at this
    rw [i_le, t40]
    omega
  rw [f_X6_passNight, if_neg q.1, if_pos q40, s_cell5, zb1_some, if_pos q5, s_cell2, zb1_some, if_pos rfl, if_neg n10]
theorem st_night {k t B O : Nat} {f : Nat → Int32} (R : Inv f t B O) (hk : 25 ≤ k) (p1 : Int32) : Rs t (f_X6_passNight k f p1) := by
  have t40 : (40 : Int32).toInt = 40 := by decide
  have t999 : (999 : Int32).toInt = 999 := by decide
  by_cases q : ¬ p1 < -40 ∧ ¬ (40 : Int32) < p1
  · by_cases q5 : f 5 < 999
    · have x := night_x (k := k) R q q5
      rw [i_lt, t999] at q5
      by_cases qf : f 2 < p1
      · rw [if_pos qf] at x
        obtain ⟨F, y1, y2, -⟩ := nt_ok (k := k) (P := fun _ => false) (p1 := p1) (fz := 0) (y := 0) (F1 := f) R hk (.inl rfl) q5 (fun _ _ => rfl) (fun _ _ => rfl)
        rw [y1] at x
        exact ⟨_, F, B, O, x, y2⟩
      · rw [if_neg qf] at x
        obtain ⟨F1, z1, z2, z3⟩ := s_crack (k := k) R.c hk
        obtain ⟨F, y1, y2, -⟩ := nt_ok (k := k) (P := zfr f) (p1 := p1) (fz := 1) (y := Int32.ofNat (zcnt (zfr f) B)) (F1 := F1) R hk (.inr rfl) q5 z2 z3
        rw [z1, zb2_some, y1] at x
        exact ⟨_, F, B, O, x, y2⟩
    · have q40 : p1 ≤ 40 := by
        have := q.2
        rw [i_lt, t40] at this
        rw [i_le, t40]
        omega
      refine Rs.err R (r := -5) ?_
      rw [f_X6_passNight, if_neg q.1, if_pos q40, s_cell5, zb1_some, if_neg q5]
  · refine Rs.err R (r := -2) ?_
    rw [f_X6_passNight]
    by_cases q0 : p1 < -40
    · rw [if_pos q0]
    · rw [if_neg q0, if_neg (fun t => q ⟨q0, fun r => by
        rw [i_lt, t40] at r
        rw [i_le, t40] at t
        omega⟩)]
/-! leaving -/
theorem InvS.at2 {f : Nat → Int32} {t B O σ b : Nat} (R : InvS f t B O σ) (hb : b < B) (h : ¬ f (8 + b * 11 + 9) = -6) : f (8 + b * 11 + 5) = 2 := by
  by_cases q : f (8 + b * 11 + 5) = 2
  · exact q
  · exact absurd ((R.blk b hb).2.2.2.2.2.2.2.1 q) h
theorem InvS.ow {f : Nat → Int32} {t B O σ b : Nat} (R : InvS f t B O σ) (hb : b < B) (h : ¬ f (8 + b * 11 + 9) = -6) : f (8 + b * 11 + 8) = -6 ∨ ∃ o, o < O ∧ f (8 + b * 11 + 8) = Int32.ofNat o ∧ f (272 + o * 6 + 3) = 1 ∧ f (272 + o * 6 + 4) = Int32.ofNat b := by
  have q := R.at2 hb h
  rcases (R.blk b hb).2.2.2.2.2.2.2.2.1 with r | ⟨o, o1, o2, o3, o4⟩
  · exact .inl r
  · rw [q, if_neg (by decide)] at o4
    exact .inr ⟨o, o1, o2, o4, o3⟩
theorem ziv_n {f : Nat → Int32} {t B O σ b : Nat} (R : InvS f t B O σ) (hb : b < B) : ∃ v, v ≤ 80190 ∧ ziv f b = Int32.ofNat v := by
  obtain ⟨-, ⟨p1, p2⟩, -⟩ := R.g
  obtain ⟨n2, n1⟩ := (R.blk b hb).wt
  have ep : f 1 = Int32.ofNat (f 1).toInt.toNat := by
    rw [i_eq, i_nat (by omega)]
    omega
  refine ⟨(f 1).toInt.toNat * ((zw f b + 99) / 100), ?_, ?_⟩
  · have h1 : (f 1).toInt.toNat ≤ 99 := by omega
    have h2 : (zw f b + 99) / 100 ≤ 810 := by omega
    have := Nat.mul_le_mul h1 h2
    omega
  · unfold ziv
    rw [n2, show Int32.ofNat (zw f b) + 99 = Int32.ofNat (zw f b + 99) from n_add _ 99, show (100 : Int32) = Int32.ofNat 100 from rfl, ← Int32.ofNat_div (by omega) (by omega), ← n_mul, ← ep]
theorem InvS.leave {f F F' : Nat → Int32} {t B O l : Nat} {P : Nat → Bool} {x v : Int32} (R : Inv f t B O) (hl : l < 3) (hP : ∀ b, b < B → P b = true → ¬ f (8 + b * 11 + 9) = -6) (d : Dl f F B O P x) (hF : F' = upd F (332 + l * 4 + 3) v) : Inv F' t B O := by
  have hB := R.c.hB
  have hO := R.c.hO
  obtain ⟨d1, d2, d3, -⟩ := d
  have pw : ∀ b, b < B → P b = true → f (8 + b * 11 + 5) = 2 := fun b hb pb => R.at2 hb (hP b hb pb)
  have fB : ∀ c w, c < B → w < 11 → (P c = false ∨ (w ≠ 5 ∧ w ≠ 9)) → F' (8 + c * 11 + w) = f (8 + c * 11 + w) := fun c w hc hw hh => by
    rw [hF, upd_ne (by omega)]
    refine d1 _ (fun b hb pb => ?_) (fun b hb pb o ho _ => by omega)
    rcases hh with q | q
    · have : b ≠ c := fun t => by rw [t, q] at pb; cases pb
      omega
    · omega
  have fl : ∀ i, i < 8 → F' i = f i := fun i hi => by
    rw [hF, upd_ne (by omega)]
    exact d1 _ (fun b hb pb => by omega) (fun b hb pb o ho _ => by omega)
  have fO : ∀ o w, o < O → w < 6 → ((w ≠ 3 ∧ w ≠ 5) ∨ ∀ b, b < B → P b = true → ¬ f (8 + b * 11 + 8) = Int32.ofNat o) → F' (272 + o * 6 + w) = f (272 + o * 6 + w) := fun o w ho hw hh => by
    rw [hF, upd_ne (by omega)]
    refine d1 _ (fun b hb pb => by omega) (fun b hb pb p hp ep => ?_)
    rcases hh with q | q
    · omega
    · have : p ≠ o := fun t => q b hb pb (t ▸ ep)
      omega
  have fL : ∀ i, 332 ≤ i → i < 344 → F i = f i := fun i i1 i2 => d1 _ (fun b hb pb => by omega) (fun b hb pb o ho _ => by omega)
  have b5 : ∀ b, b < B → P b = true → F' (8 + b * 11 + 5) = 3 ∧ F' (8 + b * 11 + 9) = -6 := fun b hb pb => by
    rw [hF, upd_ne (by omega), upd_ne (by omega)]
    exact d2 b hb pb
  have o3 : ∀ b, b < B → P b = true → ∀ o, o < O → f (8 + b * 11 + 8) = Int32.ofNat o → F' (272 + o * 6 + 3) = 2 ∧ F' (272 + o * 6 + 5) = ziv f b := fun b hb pb o ho e => by
    rw [hF, upd_ne (by omega), upd_ne (by omega)]
    exact d3 b hb pb o ho e
  have ei : ∀ c, c < B → ∀ w, (w = 1 ∨ w = 4) → (F' (8 + c * 11 + 5) = Int32.ofNat w ↔ f (8 + c * 11 + 5) = Int32.ofNat w) := fun c hc w hw => by
    cases q : P c with
    | false => rw [fB c 5 hc (by omega) (.inl q)]
    | true =>
      rw [(b5 c hc q).1, pw c hc q]
      rcases hw with rfl | rfl <;> decide
  refine ⟨⟨hB, hO, by rw [fl 6 (by omega)]; exact R.c.f6, by rw [fl 7 (by omega)]; exact R.c.f7⟩, R.g.same (Nat.le_refl _) (fun i hi _ => fl i (by omega)), fun k hk w hw => ?_, fun c hc => ?_, ?_, fun p hp => ?_, ?_⟩
  · rw [hF, upd_ne (by omega), fL _ (by omega) (by omega)]
    exact R.lm k hk w hw
  · cases pc : P c with
    | false =>
      refine (R.blk c hc).same (fun w hw => fB c w hc hw (.inl pc)) (fun o o1 o2 o3' => ?_)
      have nb : ∀ b, b < B → P b = true → ¬ f (8 + b * 11 + 8) = Int32.ofNat o := fun b hb pb e => by
        rcases R.ow hb (hP b hb pb) with q | ⟨o', a1, a2, a3, a4⟩
        · rw [q] at e; exact n_neg6 (by omega) e.symm
        · rw [e] at a2
          have := (n_inj (by omega) (by omega)).mp a2
          subst this
          rw [o3'] at a4
          have := (n_inj (by omega) (by omega)).mp a4
          subst this
          rw [pc] at pb
          cases pb
      exact ⟨o1, fO o 3 o1 (by omega) (.inr nb), fO o 4 o1 (by omega) (.inl (by omega))⟩
    | true =>
      obtain ⟨h3, h4, h5a, h6, h7, h8, h9, h10, h11, h12⟩ := R.blk c hc
      obtain ⟨w5, w9⟩ := b5 c hc pc
      have ff : ∀ w, w < 11 → w ≠ 5 → w ≠ 9 → F' (8 + c * 11 + w) = f (8 + c * 11 + w) := fun w w1 w2 w3 => fB c w hc w1 (.inr ⟨w2, w3⟩)
      refine ⟨fun a ha => ?_, ?_, ?_, ⟨3, by omega, w5⟩, ?_, ?_, fun q => ?_, fun _ => w9, ?_, ?_⟩
      · rw [ff a (by omega) (by omega) (by omega)]; exact h3 a ha
      · rw [ff 3 (by omega) (by omega) (by omega)]; exact h4
      · rw [ff 0 (by omega) (by omega) (by omega), ff 1 (by omega) (by omega) (by omega), ff 2 (by omega) (by omega) (by omega), ff 3 (by omega) (by omega) (by omega), ff 4 (by omega) (by omega) (by omega)]; exact h5a
      · rw [ff 6 (by omega) (by omega) (by omega)]; exact h7
      · rw [ff 7 (by omega) (by omega) (by omega)]; exact h8
      · rw [w5] at q; exact absurd q (by decide)
      · rw [ff 8 (by omega) (by omega) (by omega), w5, if_pos rfl]
        rcases R.ow hc (hP c hc pc) with q | ⟨o, a1, a2, a3, a4⟩
        · exact .inl q
        · exact .inr ⟨o, a1, a2, by rw [fO o 4 a1 (by omega) (.inl (by omega))]; exact a4, (o3 c hc pc o a1 a2).1⟩
      · rw [ff 10 (by omega) (by omega) (by omega)]; exact h12
  · intro c hc e he q n
    have q : F' (8 + c * 11 + 9) = F' (8 + e * 11 + 9) := q
    have n : ¬ F' (8 + c * 11 + 9) = -6 := n
    have c1 : P c = false := by
      cases pc : P c with
      | false => rfl
      | true => exact absurd (b5 c hc pc).2 n
    have e1 : P e = false := by
      cases pe : P e with
      | false => rfl
      | true => exact absurd (q.trans (b5 e he pe).2) n
    rw [fB c 9 hc (by omega) (.inl c1)] at q n
    rw [fB e 9 he (by omega) (.inl e1)] at q
    exact R.uq c hc e he q n
  · by_cases hb : ∃ b, b < B ∧ P b = true ∧ f (8 + b * 11 + 8) = Int32.ofNat p
    · obtain ⟨b, b1, b2, b3⟩ := hb
      obtain ⟨g1, g2⟩ := R.ord p hp
      obtain ⟨q1, q2⟩ := o3 b b1 b2 p hp b3
      obtain ⟨v, v1, v2⟩ := ziv_n R b1
      unfold IQ
      rw [fO p 0 hp (by omega) (.inl (by omega)), fO p 1 hp (by omega) (.inl (by omega)), fO p 2 hp (by omega) (.inl (by omega)), fO p 4 hp (by omega) (.inl (by omega))]
      refine ⟨g1, .inr (.inr ⟨q1, ?_, v, by omega, by rw [q2, v2]⟩)⟩
      rcases R.ow b1 (hP b b1 b2) with q | ⟨o', a1, a2, a3, a4⟩
      · rw [q] at b3; exact absurd b3.symm (n_neg6 (by omega))
      · rw [b3] at a2
        have := (n_inj (by omega) (by omega)).mp a2
        subst this
        exact ⟨b, b1, a4⟩
    · exact (R.ord p hp).same (Nat.le_refl _) (fun w hw => fO p w hp hw (.inr (fun b b1 b2 b3 => hb ⟨b, b1, b2, b3⟩)))
  · refine R.sums.same (fun c hc => ⟨fB c 4 hc (by omega) (.inr (by omega)), ei c hc 4 (.inr rfl), fB c 10 hc (by omega) (.inr (by omega))⟩) ?_
    rw [zcnt_congr (P := fun b => decide (F' (8 + b * 11 + 5) = 1)) (Q := fun b => decide (f (8 + b * 11 + 5) = 1)) (fun c hc => decide_eq_decide.mpr (ei c hc 1 (.inl rfl)))]
    exact R.sums.2
theorem st_leave {k t B O : Nat} {f : Nat → Int32} (R : Inv f t B O) (hk : 25 ≤ k) (p1 : Int32) (hw : ∀ l, l < 3 → ∃ r, f_X1_reasonToStay k f (Int32.ofNat l) = some r) : Rs t (f_X6_sendLorry k f p1) := by
  have hB := R.c.hB
  have hO := R.c.hO
  rcases h_lor k p1 with ⟨l, l1, rfl, e1⟩ | ⟨-, e1⟩
  · obtain ⟨r, r1⟩ := hw l l1
    by_cases q : r = 0
    · subst q
      have hP : ∀ b, b < B → zon (fun b => f (8 + b * 11 + 9)) l b = true → ¬ f (8 + b * 11 + 9) = -6 := fun b hb pb => zon_n6 (S := fun b => f (8 + b * 11 + 9)) l1 pb
      obtain ⟨F, eF, dF⟩ := send_loop (k := k) (P := zon (fun b => f (8 + b * 11 + 9)) l) l1 hB hO (fun b hb pb => R.ow hb (hP b hb pb)) k 0 f (by omega) (by omega) (Dl.no (fun b _ => by simp))
      refine Rs.ok (r := zsum (zio f) (zon (fun b => f (8 + b * 11 + 9)) l) B) ?_ (InvS.leave (v := F (332 + l * 4 + 3) + 1) R l1 hP dF rfl)
      rw [f_X6_sendLorry, e1, zb1_some, if_neg n10, r1, zb1_some, if_pos rfl, s_on R.c hk, zb1_some]
      exact eF
    · refine Rs.err R (r := -5) ?_
      rw [f_X6_sendLorry, e1, zb1_some, if_neg n10, r1, zb1_some, if_neg q]
  · exact Rs.err R (r := -1) (by rw [f_X6_sendLorry, e1]; rfl)
