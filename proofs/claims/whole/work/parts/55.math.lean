/-! LEAVING: what the class delivers -/
def ziv (f : Nat → Int32) (b : Nat) : Int32 := f 1 * ((f (8 + b * 11 + 4) + 99) / 100)
def zio (f : Nat → Int32) (b : Nat) : Int32 := if f (8 + b * 11 + 8) = -6 then 0 else ziv f b
/-- the state F, where of the state f all blocks of P were delivered, for x together -/
def Dl (f F : Nat → Int32) (B O : Nat) (P : Nat → Bool) (x : Int32) : Prop :=
  (∀ i, (∀ b, b < B → P b = true → i ≠ 8 + b * 11 + 5 ∧ i ≠ 8 + b * 11 + 9) → (∀ b, b < B → P b = true → ∀ o, o < O → f (8 + b * 11 + 8) = Int32.ofNat o → i ≠ 272 + o * 6 + 3 ∧ i ≠ 272 + o * 6 + 5) → F i = f i) ∧
  (∀ b, b < B → P b = true → F (8 + b * 11 + 5) = 3 ∧ F (8 + b * 11 + 9) = -6) ∧
  (∀ b, b < B → P b = true → ∀ o, o < O → f (8 + b * 11 + 8) = Int32.ofNat o → F (272 + o * 6 + 3) = 2 ∧ F (272 + o * 6 + 5) = ziv f b) ∧
  zsum (fun o => F (272 + o * 6 + 5)) (fun o => decide (F (272 + o * 6 + 3) = 2)) O = zsum (fun o => f (272 + o * 6 + 5)) (fun o => decide (f (272 + o * 6 + 3) = 2)) O + x
/-- whose the blocks of P are -/
def Ow (f : Nat → Int32) (B O : Nat) (P : Nat → Bool) : Prop :=
  ∀ b, b < B → P b = true → f (8 + b * 11 + 8) = -6 ∨ ∃ o, o < O ∧ f (8 + b * 11 + 8) = Int32.ofNat o ∧ f (272 + o * 6 + 3) = 1 ∧ f (272 + o * 6 + 4) = Int32.ofNat b
theorem Dl.congr {f F : Nat → Int32} {B O : Nat} {P Q : Nat → Bool} {x : Int32} (h : Dl f F B O P x) (e : ∀ b, b < B → Q b = P b) : Dl f F B O Q x := by
  obtain ⟨h1, h2, h3, h4⟩ := h
  exact ⟨fun i i1 i2 => h1 i (fun b hb q => i1 b hb (by rw [e b hb]; exact q)) (fun b hb q => i2 b hb (by rw [e b hb]; exact q)), fun b hb q => h2 b hb (by rw [← e b hb]; exact q), fun b hb q => h3 b hb (by rw [← e b hb]; exact q), h4⟩
theorem Dl.no {f : Nat → Int32} {B O : Nat} {P : Nat → Bool} (e : ∀ b, b < B → P b = false) : Dl f f B O P 0 :=
  ⟨fun _ _ _ => rfl, fun b hb q => absurd q (by rw [e b hb]; decide), fun b hb q => absurd q (by rw [e b hb]; decide), (Int32.add_zero _).symm⟩
/-- two blocks of one order are one -/
theorem Ow.one {f : Nat → Int32} {B O b c o p : Nat} {P : Nat → Bool} (w : Ow f B O P) (hB : B ≤ 24) (hO : O ≤ 10) (hb : b < B) (hc : c < B) (pb : P b = true) (pc : P c = true) (ho : o < O) (hp : p < O) (e1 : f (8 + b * 11 + 8) = Int32.ofNat o) (e2 : f (8 + c * 11 + 8) = Int32.ofNat p) (h : o = p) : b = c := by
  subst h
  rcases w b hb pb with q | ⟨o1, a1, a2, a3, a4⟩
  · rw [e1] at q; exact absurd q (n_neg6 (by omega))
  rcases w c hc pc with q | ⟨o2, b1, b2, b3, b4⟩
  · rw [e2] at q; exact absurd q (n_neg6 (by omega))
  rw [e1] at a2
  rw [e2] at b2
  have x1 := (n_inj (by omega) (by omega)).mp a2
  have x2 := (n_inj (by omega) (by omega)).mp b2
  subst x1
  subst x2
  rw [a4] at b4
  exact (n_inj (by omega) (by omega)).mp b4
theorem dl_one {k B O b : Nat} {f F : Nat → Int32} {P : Nat → Bool} {x : Int32} (d : Dl f F B O P x) (hB : B ≤ 24) (hO : O ≤ 10) (hb : b < B) (hP : P b = false) (w : Ow f B O (fun c => P c || decide (c = b))) :
    ∃ F', f_X6_deliver k F (Int32.ofNat b) = some (zio f b, F') ∧ Dl f F' B O (fun c => P c || decide (c = b)) (x + zio f b) := by
  obtain ⟨h1, h2, h3, h4⟩ := d
  have wP : Ow f B O P := fun c hc pc => w c hc (by simp [pc])
  have pb : (fun c => P c || decide (c = b)) b = true := by simp
  have low : ∀ i, i < 272 → (∀ c, c < B → i ≠ 8 + c * 11 + 5 ∧ i ≠ 8 + c * 11 + 9) → F i = f i := fun i hi hc => h1 i (fun c c1 _ => hc c c1) (fun c c1 _ o _ _ => by omega)
  have e8 : F (8 + b * 11 + 8) = f (8 + b * 11 + 8) := low _ (by omega) (fun c c1 => by omega)
  have e4 : F (8 + b * 11 + 4) = f (8 + b * 11 + 4) := low _ (by omega) (fun c c1 => by omega)
  have e1 : F 1 = f 1 := low _ (by omega) (fun c c1 => by omega)
  obtain ⟨F2, hF2⟩ : ∃ F2, F2 = upd (upd F (8 + b * 11 + 5) 3) (8 + b * 11 + 9) (-6) := ⟨_, rfl⟩
  have o2 : ∀ i, i ≠ 8 + b * 11 + 5 → i ≠ 8 + b * 11 + 9 → F2 i = F i := fun i i1 i2 => by rw [hF2, upd_ne i2, upd_ne i1]
  have b5 : F2 (8 + b * 11 + 5) = 3 := by rw [hF2]; simp (disch := omega) only [upd_ne, upd_at]
  have b9 : F2 (8 + b * 11 + 9) = -6 := by rw [hF2]; simp (disch := omega) only [upd_ne, upd_at]
  have x1 : f_X6_deliver k F (Int32.ofNat b) = zl F2 (fun f2 => if f (8 + b * 11 + 8) = (-6 : Int32) then some (0, f2) else zb1 (f_X5_setOrderCell k f2 (f (8 + b * 11 + 8)) 3 2) (fun f9 => zb1 (f_X5_setOrderCell k f9 (f (8 + b * 11 + 8)) 5 (ziv f b)) (fun f10 => some (ziv f b, f10)))) := by
    rw [f_X6_deliver, s_sblk5 (by omega), zb1_some, s_sblk9 (by omega), zb1_some, ← hF2, s_blk8 (by omega), zb1_some, o2 _ (by omega) (by omega), e8, s_cell1, s_blk4 (by omega)]
    rw [zb1_some, zb1_some, o2 _ (by omega) (by omega), o2 _ (by omega) (by omega), e1, e4]
    rfl
  rw [zl_e] at x1
  rcases w b hb pb with q | ⟨o, a1, a2, a3, a4⟩
  · rw [if_pos q] at x1
    have z : zio f b = 0 := if_pos q
    rw [z]
    refine ⟨F2, x1, fun i i1 i2 => ?_, fun c hc pc => ?_, fun c hc pc o ho eo => ?_, ?_⟩
    · have := i1 b hb pb
      rw [o2 i this.1 this.2]
      exact h1 i (fun c c1 pc => i1 c c1 (by simp [pc])) (fun c c1 pc => i2 c c1 (by simp [pc]))
    · by_cases e : c = b
      · subst e; exact ⟨b5, b9⟩
      · have pc' : P c = true := by simpa [e] using pc
        rw [o2 _ (by omega) (by omega), o2 _ (by omega) (by omega)]
        exact h2 c hc pc'
    · by_cases e : c = b
      · subst e
        rw [q] at eo
        exact absurd eo.symm (n_neg6 (by omega))
      · have pc' : P c = true := by simpa [e] using pc
        rw [o2 _ (by omega) (by omega), o2 _ (by omega) (by omega)]
        exact h3 c hc pc' o ho eo
    · rw [Int32.add_zero, ← h4]
      exact zsum_congr (fun o ho => by rw [o2 _ (by omega) (by omega)]) (fun o ho _ => o2 _ (by omega) (by omega))
  · have nq : ¬ f (8 + b * 11 + 8) = -6 := by rw [a2]; exact n_neg6 (by omega)
    rw [if_neg nq, a2, s_sord3 (by omega), zb1_some, s_sord5 (by omega), zb1_some] at x1
    have z : zio f b = ziv f b := if_neg nq
    rw [z]
    obtain ⟨F4, hF4⟩ : ∃ F4, F4 = upd (upd F2 (272 + o * 6 + 3) 2) (272 + o * 6 + 5) (ziv f b) := ⟨_, rfl⟩
    rw [← hF4] at x1
    have o4 : ∀ i, i ≠ 272 + o * 6 + 3 → i ≠ 272 + o * 6 + 5 → F4 i = F2 i := fun i i1 i2 => by rw [hF4, upd_ne i2, upd_ne i1]
    have c3 : F4 (272 + o * 6 + 3) = 2 := by rw [hF4]; simp (disch := omega) only [upd_ne, upd_at]
    have c5 : F4 (272 + o * 6 + 5) = ziv f b := by rw [hF4]; simp (disch := omega) only [upd_ne, upd_at]
    have was : F (272 + o * 6 + 3) = 1 := by
      rw [h1 _ (fun c c1 pc => by omega) (fun c c1 pc p hp ep => ?_)]
      · exact a3
      · have ne : c ≠ b := fun t => by rw [t, hP] at pc; cases pc
        have : p ≠ o := fun t => ne (w.one hB hO c1 hb (by simp [pc]) pb hp a1 ep a2 t)
        omega
    refine ⟨F4, x1, fun i i1 i2 => ?_, fun c hc pc => ?_, fun c hc pc p hp ep => ?_, ?_⟩
    · have := i1 b hb pb
      have t := i2 b hb pb o a1 a2
      rw [o4 i t.1 t.2, o2 i this.1 this.2]
      exact h1 i (fun c c1 pc => i1 c c1 (by simp [pc])) (fun c c1 pc => i2 c c1 (by simp [pc]))
    · rw [o4 _ (by omega) (by omega), o4 _ (by omega) (by omega)]
      by_cases e : c = b
      · subst e; exact ⟨b5, b9⟩
      · have pc' : P c = true := by simpa [e] using pc
        rw [o2 _ (by omega) (by omega), o2 _ (by omega) (by omega)]
        exact h2 c hc pc'
    · by_cases e : c = b
      · subst e
        have : p = o := by
          rw [a2] at ep
          exact ((n_inj (by omega) (by omega)).mp ep).symm
        subst this
        exact ⟨c3, c5⟩
      · have pc' : P c = true := by simpa [e] using pc
        have : p ≠ o := fun t => e (w.one hB hO hc hb pc pb hp a1 ep a2 t)
        rw [o4 _ (by omega) (by omega), o4 _ (by omega) (by omega), o2 _ (by omega) (by omega), o2 _ (by omega) (by omega)]
        exact h3 c hc pc' p hp ep
    · have ch := zsum_chg (w := fun o => F (272 + o * 6 + 5)) (v := fun o => F4 (272 + o * 6 + 5)) (P := fun o => decide (F (272 + o * 6 + 3) = 2)) (Q := fun o => decide (F4 (272 + o * 6 + 3) = 2)) (b0 := o) O a1 (fun p hp ne => ⟨by rw [o4 _ (by omega) (by omega), o2 _ (by omega) (by omega)], by rw [o4 _ (by omega) (by omega), o2 _ (by omega) (by omega)]⟩)
      rw [ch, h4, was, c3, c5, if_neg (by decide), if_pos (by decide), Int32.sub_zero, Int32.add_assoc]
/-! the class's loop over the blocks -/
theorem zsum_in {w : Nat → Int32} {P : Nat → Bool} {n : Nat} : ∀ m, n ≤ m → zsum w (fun i => decide (i < n) && P i) m = zsum w P n := by
  intro m hm
  induction m with
  | zero => rw [show n = 0 by omega]; rfl
  | succ m ih =>
    by_cases h : n = m + 1
    · subst h
      exact zsum_congr (fun i hi => by simp [hi]) (fun _ _ _ => rfl)
    · rw [zsum, ih (by omega)]
      simp [show ¬ m < n by omega]
theorem send_loop {k l B O : Nat} {f : Nat → Int32} {P : Nat → Bool} (hl : l < 3) (hB : B ≤ 24) (hO : O ≤ 10) (w : Ow f B O P) : ∀ n i F, i ≤ 24 → 24 - i < n → Dl f F B O (fun b => decide (b < i) && P b) (zsum (zio f) (fun b => decide (b < B) && P b) i) →
    ∃ F', f_X6_sendLorry_b37 k (Int32.ofNat l) n F (zbs P B) (zsum (zio f) (fun b => decide (b < B) && P b) i) (Int32.ofNat i) = some (zsum (zio f) P B, upd F' (332 + l * 4 + 3) (F' (332 + l * 4 + 3) + 1)) ∧ Dl f F' B O P (zsum (zio f) P B) := by
  intro n
  induction n with
  | zero => intro i _ _ h; omega
  | succ n ih =>
    intro i F hi hn d
    rw [f_X6_sendLorry_b37]
    by_cases h : i < 24
    · rw [if_neg (show ¬ (24 : Int32) ≤ Int32.ofNat i from fun t => absurd ((n_le (a := 24) (by omega) (by omega)).mp t) (by omega)), zl_e, zl_e, b_test (by omega), b_zbs B (by omega) i (by omega)]
      have hs : zsum (zio f) (fun b => decide (b < B) && P b) (i + 1) = if (decide (i < B) && P i) = true then zsum (zio f) (fun b => decide (b < B) && P b) i + zio f i else zsum (zio f) (fun b => decide (b < B) && P b) i := by rw [zsum]
      by_cases q : (decide (i < B) && P i) = true
      · rw [if_pos (by rw [if_pos q])]
        rw [if_pos q] at hs
        have q' := q
        simp only [Bool.and_eq_true, decide_eq_true_eq] at q'
        obtain ⟨F', e, d'⟩ := dl_one (k := k) d hB hO q'.1 (by simp) (fun c hc pc => w c hc (by
          simp only [Bool.or_eq_true, Bool.and_eq_true, decide_eq_true_eq] at pc
          rcases pc with pc | pc
          · exact pc.2
          · rw [pc]; exact q'.2))
        rw [e, zb2_some, zl_e, zl_e, n_suc, ← hs]
        rw [← hs] at d'
        refine ih (i + 1) F' (by omega) (by omega) (d'.congr (fun b hb => ?_))
        by_cases eb : b = i
        · subst eb; simp [q'.2]
        · have : (b < i + 1) ↔ b < i := by omega
          simp [eb, this]
      · rw [if_neg (by rw [if_neg q]; decide), zl_e, n_suc]
        rw [if_neg q] at hs
        rw [← hs]
        rw [← hs] at d
        refine ih (i + 1) F (by omega) (by omega) (d.congr (fun b hb => ?_))
        by_cases eb : b = i
        · subst eb
          have : P b = false := by
            cases hp : P b with
            | false => rfl
            | true => exact absurd (by simp [hb, hp]) q
          simp [this]
        · have : (b < i + 1) ↔ b < i := by omega
          simp [this]
    · have : i = 24 := by omega
      subst this
      rw [if_pos (by decide), zsum_in 24 hB, s_lor3 hl, zb1_some, zl_e, s_slor3 hl, zb1_some]
      rw [zsum_in 24 hB] at d
      exact ⟨F, rfl, d.congr (fun b hb => by simp [show b < 24 by omega])⟩
