/-! the class, as in the proof of whole (wip/p32/math/ext.py) -/
theorem crk_loop {k B : Nat} {P : Nat → Bool} (hB : B ≤ 24) : ∀ n i (f : Nat → Int32), i ≤ 24 → 24 - i < n → ∃ F, f_X6_crackBlocks_b21 k n f (zbs P B) (Int32.ofNat i) = some (Int32.ofNat (zcnt P B), F) ∧ (∀ x, (∀ b, i ≤ b → b < B → P b = true → x ≠ 8 + b * 11 + 7) → F x = f x) ∧ ∀ b, i ≤ b → b < B → P b = true → F (8 + b * 11 + 7) = 1 := by
  intro n
  induction n with
  | zero => intro i _ _ h; omega
  | succ n ih =>
    intro i f hi hn
    rw [f_X6_crackBlocks_b21]
    by_cases h : i < 24
    · rw [if_neg (show ¬ (24 : Int32) ≤ Int32.ofNat i from fun t => absurd ((n_le (a := 24) (by omega) (by omega)).mp t) (by omega)), zl_e, zl_e, b_test (by omega), b_zbs B (by omega) i (by omega)]
      by_cases q : (decide (i < B) && P i) = true
      · rw [if_pos (by rw [if_pos q]), s_sblk7 h, zb1_some, zl_e, n_suc]
        obtain ⟨F, e, fr, on⟩ := ih (i + 1) (upd f (8 + i * 11 + 7) 1) (by omega) (by omega)
        simp only [Bool.and_eq_true, decide_eq_true_eq] at q
        refine ⟨F, e, fun x hx => ?_, fun b b1 b2 b3 => ?_⟩
        · rw [fr x (fun b b1 b2 b3 => hx b (by omega) b2 b3), upd_ne (hx i (Nat.le_refl _) q.1 q.2)]
        · by_cases c : b = i
          · subst c
            rw [fr _ (fun c c1 c2 c3 => by omega), upd_at]
          · exact on b (by omega) b2 b3
      · rw [if_neg (by rw [if_neg q]; decide), zl_e, n_suc]
        obtain ⟨F, e, fr, on⟩ := ih (i + 1) f (by omega) (by omega)
        simp only [Bool.and_eq_true, decide_eq_true_eq, not_and] at q
        refine ⟨F, e, fun x hx => fr x (fun b b1 b2 b3 => hx b (by omega) b2 b3), fun b b1 b2 b3 => ?_⟩
        by_cases c : b = i
        · subst c; exact absurd b3 (q b2)
        · exact on b (by omega) b2 b3
    · have : i = 24 := by omega
      subst this
      rw [if_pos (by decide), s_pop hB, zb1_some]
      exact ⟨f, rfl, fun _ _ => rfl, fun b b1 b2 _ => by omega⟩
def zwet (where_ wet : Int32) : Int32 := if ¬ wet ≤ 0 ∧ ¬ where_ = 3 ∧ ¬ where_ = 4 then wet - 1 else wet
theorem dry_loop {k B : Nat} (hB : B ≤ 24) : ∀ n i (f : Nat → Int32), i ≤ B → B - i < n → ∃ F, f_X6_dryBlocks_b12 k n f (Int32.ofNat B) (Int32.ofNat i) = some F ∧ (∀ x, (∀ b, i ≤ b → b < B → x ≠ 8 + b * 11 + 6) → F x = f x) ∧ ∀ b, i ≤ b → b < B → F (8 + b * 11 + 6) = zwet (f (8 + b * 11 + 5)) (f (8 + b * 11 + 6)) := by
  intro n
  induction n with
  | zero => intro i _ _ h; omega
  | succ n ih =>
    intro i f hi hn
    rw [f_X6_dryBlocks_b12]
    by_cases h : i < B
    · rw [if_neg (fun t => absurd ((n_le (by omega) (by omega)).mp t) (by omega)), s_blk5 (by omega), s_blk6 (by omega), zb1_some, zb1_some]
      have keep : zwet (f (8 + i * 11 + 5)) (f (8 + i * 11 + 6)) = f (8 + i * 11 + 6) → ∃ F, f_X6_dryBlocks_b12 k n f (Int32.ofNat B) (Int32.ofNat (i + 1)) = some F ∧ (∀ x, (∀ b, i ≤ b → b < B → x ≠ 8 + b * 11 + 6) → F x = f x) ∧ ∀ b, i ≤ b → b < B → F (8 + b * 11 + 6) = zwet (f (8 + b * 11 + 5)) (f (8 + b * 11 + 6)) := fun hk => by
        obtain ⟨F, e, fr, on⟩ := ih (i + 1) f (by omega) (by omega)
        refine ⟨F, e, fun x hx => fr x (fun b b1 b2 => hx b (by omega) b2), fun b b1 b2 => ?_⟩
        by_cases c : b = i
        · subst c; rw [fr _ (fun c c1 c2 => by omega), hk]
        · exact on b (by omega) b2
      by_cases q1 : f (8 + i * 11 + 6) ≤ 0
      · rw [if_pos q1, zl_e, n_suc]
        exact keep (if_neg (fun t => t.1 q1))
      · rw [if_neg q1]
        by_cases q3 : f (8 + i * 11 + 5) = 3
        · rw [if_pos q3, zl_e, n_suc]
          exact keep (if_neg (fun t => t.2.1 q3))
        · rw [if_neg q3]
          by_cases q4 : f (8 + i * 11 + 5) = 4
          · rw [if_pos q4, zl_e, n_suc]
            exact keep (if_neg (fun t => t.2.2 q4))
          · rw [if_neg q4, zl_e, s_sblk6 (by omega), zb1_some, zl_e, n_suc]
            obtain ⟨F, e, fr, on⟩ := ih (i + 1) (upd f (8 + i * 11 + 6) (f (8 + i * 11 + 6) - 1)) (by omega) (by omega)
            refine ⟨F, e, fun x hx => ?_, fun b b1 b2 => ?_⟩
            · rw [fr x (fun b b1 b2 => hx b (by omega) b2), upd_ne (hx i (Nat.le_refl _) h)]
            · by_cases c : b = i
              · subst c
                rw [fr _ (fun c c1 c2 => by omega), upd_at]
                unfold zwet
                rw [if_pos ⟨q1, q3, q4⟩]
              · rw [on b (by omega) b2, upd_ne (by omega), upd_ne (by omega)]
    · have : i = B := by omega
      subst this
      rw [if_pos ((n_le (by omega) (by omega)).mpr (Nat.le_refl _))]
      exact ⟨f, rfl, fun _ _ => rfl, fun b b1 b2 => by omega⟩
theorem zwet_n {w : Int32} {n : Nat} (h : n ≤ 3) : ∃ m, m ≤ 3 ∧ zwet w (Int32.ofNat n) = Int32.ofNat m := by
  unfold zwet
  by_cases q : ¬ Int32.ofNat n ≤ 0 ∧ ¬ w = 3 ∧ ¬ w = 4
  · rw [if_pos q]
    have : 1 ≤ n := by
      by_cases e : n = 0
      · subst e; exact absurd (by decide) q.1
      · omega
    exact ⟨n - 1, by omega, n_sub (b := 1) this⟩
  · rw [if_neg q]; exact ⟨n, h, rfl⟩
theorem s_dry {k B O : Nat} {f : Nat → Int32} (c : CI f B O) (hk : 25 ≤ k) : ∃ F, f_X6_dryBlocks k f = some F ∧ (∀ x, (∀ b, b < B → x ≠ 8 + b * 11 + 6) → F x = f x) ∧ ∀ b, b < B → F (8 + b * 11 + 6) = zwet (f (8 + b * 11 + 5)) (f (8 + b * 11 + 6)) := by
  have hB := c.hB
  obtain ⟨F, e, fr, on⟩ := dry_loop (k := k) hB k 0 f (by omega) (by omega)
  refine ⟨F, ?_, fun x hx => fr x (fun b _ hb => hx b hb), fun b hb => on b (by omega) hb⟩
  rw [f_X6_dryBlocks, s_cell6, zb1_some, c.f6]
  exact e
theorem crk_if {k : Nat} {f : Nat → Int32} : f_X6_crackBlocks k f = zb1 (f_X7_ifFrost k f) (fun v => f_X6_crackBlocks_b21 k k f v 0) := by
  rw [f_X6_crackBlocks, f_X7_ifFrost]
  cases f_X1_blocksForFrost k f with
  | none => rfl
  | some a =>
    rw [zb1_some, zb1_some]
    cases f_X5_blocksWith k f 7 0 with
    | none => rfl
    | some b => rfl
theorem zcnt_no : ∀ n, zcnt (fun _ => false) n = 0 := by
  intro n
  induction n with
  | zero => rfl
  | succ n ih => rw [zcnt]; exact ih
def ziv (f : Nat → Int32) (b : Nat) : Int32 := f 1 * ((f (8 + b * 11 + 4) + 99) / 100)
def zio (f : Nat → Int32) (b : Nat) : Int32 := if f (8 + b * 11 + 8) = -6 then 0 else ziv f b
def Dl (f F : Nat → Int32) (B O : Nat) (P : Nat → Bool) (x : Int32) : Prop :=
  (∀ i, (∀ b, b < B → P b = true → i ≠ 8 + b * 11 + 5 ∧ i ≠ 8 + b * 11 + 9) → (∀ b, b < B → P b = true → ∀ o, o < O → f (8 + b * 11 + 8) = Int32.ofNat o → i ≠ 272 + o * 6 + 3 ∧ i ≠ 272 + o * 6 + 5) → F i = f i) ∧
  (∀ b, b < B → P b = true → F (8 + b * 11 + 5) = 3 ∧ F (8 + b * 11 + 9) = -6) ∧
  (∀ b, b < B → P b = true → ∀ o, o < O → f (8 + b * 11 + 8) = Int32.ofNat o → F (272 + o * 6 + 3) = 2 ∧ F (272 + o * 6 + 5) = ziv f b) ∧
  zsum (fun o => F (272 + o * 6 + 5)) (fun o => decide (F (272 + o * 6 + 3) = 2)) O = zsum (fun o => f (272 + o * 6 + 5)) (fun o => decide (f (272 + o * 6 + 3) = 2)) O + x
def Ow (f : Nat → Int32) (B O : Nat) (P : Nat → Bool) : Prop :=
  ∀ b, b < B → P b = true → f (8 + b * 11 + 8) = -6 ∨ ∃ o, o < O ∧ f (8 + b * 11 + 8) = Int32.ofNat o ∧ f (272 + o * 6 + 3) = 1 ∧ f (272 + o * 6 + 4) = Int32.ofNat b
theorem Dl.congr {f F : Nat → Int32} {B O : Nat} {P Q : Nat → Bool} {x : Int32} (h : Dl f F B O P x) (e : ∀ b, b < B → Q b = P b) : Dl f F B O Q x := by
  obtain ⟨h1, h2, h3, h4⟩ := h
  exact ⟨fun i i1 i2 => h1 i (fun b hb q => i1 b hb (by rw [e b hb]; exact q)) (fun b hb q => i2 b hb (by rw [e b hb]; exact q)), fun b hb q => h2 b hb (by rw [← e b hb]; exact q), fun b hb q => h3 b hb (by rw [← e b hb]; exact q), h4⟩
theorem Dl.no {f : Nat → Int32} {B O : Nat} {P : Nat → Bool} (e : ∀ b, b < B → P b = false) : Dl f f B O P 0 :=
  ⟨fun _ _ _ => rfl, fun b hb q => absurd q (by rw [e b hb]; decide), fun b hb q => absurd q (by rw [e b hb]; decide), (Int32.add_zero _).symm⟩
theorem Ow.one {f : Nat → Int32} {B O b c o p : Nat} {P : Nat → Bool} (w : Ow f B O P) (hB : B ≤ 24) (hO : O ≤ 10) (hb : b < B) (hc : c < B) (pb : P b = true) (pc : P c = true) (ho : o < O) (hp : p < O) (e1 : f (8 + b * 11 + 8) = Int32.ofNat o) (e2 : f (8 + c * 11 + 8) = Int32.ofNat p) (h : o = p) : b = c := by
  subst h
  rcases w b hb pb with q | ⟨o1, a1, a2, a3, a4⟩
  · rw [e1] at q; exact absurd q (n_neg6 (by omega))
  rcases w c hc pc with q | ⟨o2, b1, b2, b3, b4⟩
  · rw [e2] at q; exact absurd q (n_neg6 (by omega))
  rw [e1] at a2
  rw [e2] at b2
  have x1 := (n_inj (by omega) (by omega)).mp a2
  have x2 := (n_inj (by omega) (by omega)).mp b2
  subst x1
  subst x2
  rw [a4] at b4
  exact (n_inj (by omega) (by omega)).mp b4
theorem dl_one {k B O b : Nat} {f F : Nat → Int32} {P : Nat → Bool} {x : Int32} (d : Dl f F B O P x) (hB : B ≤ 24) (hO : O ≤ 10) (hb : b < B) (hP : P b = false) (w : Ow f B O (fun c => P c || decide (c = b))) :
    ∃ F', f_X6_deliver k F (Int32.ofNat b) = some (zio f b, F') ∧ Dl f F' B O (fun c => P c || decide (c = b)) (x + zio f b) := by
  obtain ⟨h1, h2, h3, h4⟩ := d
  have wP : Ow f B O P := fun c hc pc => w c hc (by simp [pc])
  have pb : (fun c => P c || decide (c = b)) b = true := by simp
  have low : ∀ i, i < 272 → (∀ c, c < B → i ≠ 8 + c * 11 + 5 ∧ i ≠ 8 + c * 11 + 9) → F i = f i := fun i hi hc => h1 i (fun c c1 _ => hc c c1) (fun c c1 _ o _ _ => by omega)
  have e8 : F (8 + b * 11 + 8) = f (8 + b * 11 + 8) := low _ (by omega) (fun c c1 => by omega)
  have e4 : F (8 + b * 11 + 4) = f (8 + b * 11 + 4) := low _ (by omega) (fun c c1 => by omega)
  have e1 : F 1 = f 1 := low _ (by omega) (fun c c1 => by omega)
  obtain ⟨F2, hF2⟩ : ∃ F2, F2 = upd (upd F (8 + b * 11 + 5) 3) (8 + b * 11 + 9) (-6) := ⟨_, rfl⟩
  have o2 : ∀ i, i ≠ 8 + b * 11 + 5 → i ≠ 8 + b * 11 + 9 → F2 i = F i := fun i i1 i2 => by rw [hF2, upd_ne i2, upd_ne i1]
  have b5 : F2 (8 + b * 11 + 5) = 3 := by rw [hF2]; simp (disch := omega) only [upd_ne, upd_at]
  have b9 : F2 (8 + b * 11 + 9) = -6 := by rw [hF2]; simp (disch := omega) only [upd_ne, upd_at]
  have x1 : f_X6_deliver k F (Int32.ofNat b) = zl F2 (fun f2 => if f (8 + b * 11 + 8) = (-6 : Int32) then some (0, f2) else zb1 (f_X5_setOrderCell k f2 (f (8 + b * 11 + 8)) 3 2) (fun f9 => zb1 (f_X5_setOrderCell k f9 (f (8 + b * 11 + 8)) 5 (ziv f b)) (fun f10 => some (ziv f b, f10)))) := by
    rw [f_X6_deliver, s_sblk5 (by omega), zb1_some, s_sblk9 (by omega), zb1_some, ← hF2, s_blk8 (by omega), zb1_some, o2 _ (by omega) (by omega), e8, s_cell1, s_blk4 (by omega)]
    rw [zb1_some, zb1_some, o2 _ (by omega) (by omega), o2 _ (by omega) (by omega), e1, e4]
    rfl
  rw [zl_e] at x1
  rcases w b hb pb with q | ⟨o, a1, a2, a3, a4⟩
  · rw [if_pos q] at x1
    have z : zio f b = 0 := if_pos q
    rw [z]
    refine ⟨F2, x1, fun i i1 i2 => ?_, fun c hc pc => ?_, fun c hc pc o ho eo => ?_, ?_⟩
    · have := i1 b hb pb
      rw [o2 i this.1 this.2]
      exact h1 i (fun c c1 pc => i1 c c1 (by simp [pc])) (fun c c1 pc => i2 c c1 (by simp [pc]))
    · by_cases e : c = b
      · subst e; exact ⟨b5, b9⟩
      · have pc' : P c = true := by simpa [e] using pc
        rw [o2 _ (by omega) (by omega), o2 _ (by omega) (by omega)]
        exact h2 c hc pc'
    · by_cases e : c = b
      · subst e
        rw [q] at eo
        exact absurd eo.symm (n_neg6 (by omega))
      · have pc' : P c = true := by simpa [e] using pc
        rw [o2 _ (by omega) (by omega), o2 _ (by omega) (by omega)]
        exact h3 c hc pc' o ho eo
    · rw [Int32.add_zero, ← h4]
      exact zsum_congr (fun o ho => by rw [o2 _ (by omega) (by omega)]) (fun o ho _ => o2 _ (by omega) (by omega))
  · have nq : ¬ f (8 + b * 11 + 8) = -6 := by rw [a2]; exact n_neg6 (by omega)
    rw [if_neg nq, a2, s_sord3 (by omega), zb1_some, s_sord5 (by omega), zb1_some] at x1
    have z : zio f b = ziv f b := if_neg nq
    rw [z]
    obtain ⟨F4, hF4⟩ : ∃ F4, F4 = upd (upd F2 (272 + o * 6 + 3) 2) (272 + o * 6 + 5) (ziv f b) := ⟨_, rfl⟩
    rw [← hF4] at x1
    have o4 : ∀ i, i ≠ 272 + o * 6 + 3 → i ≠ 272 + o * 6 + 5 → F4 i = F2 i := fun i i1 i2 => by rw [hF4, upd_ne i2, upd_ne i1]
    have c3 : F4 (272 + o * 6 + 3) = 2 := by rw [hF4]; simp (disch := omega) only [upd_ne, upd_at]
    have c5 : F4 (272 + o * 6 + 5) = ziv f b := by rw [hF4]; simp (disch := omega) only [upd_ne, upd_at]
    have was : F (272 + o * 6 + 3) = 1 := by
      rw [h1 _ (fun c c1 pc => by omega) (fun c c1 pc p hp ep => ?_)]
      · exact a3
      · have ne : c ≠ b := fun t => by rw [t, hP] at pc; cases pc
        have : p ≠ o := fun t => ne (w.one hB hO c1 hb (by simp [pc]) pb hp a1 ep a2 t)
        omega
    refine ⟨F4, x1, fun i i1 i2 => ?_, fun c hc pc => ?_, fun c hc pc p hp ep => ?_, ?_⟩
    · have := i1 b hb pb
      have t := i2 b hb pb o a1 a2
      rw [o4 i t.1 t.2, o2 i this.1 this.2]
      exact h1 i (fun c c1 pc => i1 c c1 (by simp [pc])) (fun c c1 pc => i2 c c1 (by simp [pc]))
    · rw [o4 _ (by omega) (by omega), o4 _ (by omega) (by omega)]
      by_cases e : c = b
      · subst e; exact ⟨b5, b9⟩
      · have pc' : P c = true := by simpa [e] using pc
        rw [o2 _ (by omega) (by omega), o2 _ (by omega) (by omega)]
        exact h2 c hc pc'
    · by_cases e : c = b
      · subst e
        have : p = o := by
          rw [a2] at ep
          exact ((n_inj (by omega) (by omega)).mp ep).symm
        subst this
        exact ⟨c3, c5⟩
      · have pc' : P c = true := by simpa [e] using pc
        have : p ≠ o := fun t => e (w.one hB hO hc hb pc pb hp a1 ep a2 t)
        rw [o4 _ (by omega) (by omega), o4 _ (by omega) (by omega), o2 _ (by omega) (by omega), o2 _ (by omega) (by omega)]
        exact h3 c hc pc' p hp ep
    · have ch := zsum_chg (w := fun o => F (272 + o * 6 + 5)) (v := fun o => F4 (272 + o * 6 + 5)) (P := fun o => decide (F (272 + o * 6 + 3) = 2)) (Q := fun o => decide (F4 (272 + o * 6 + 3) = 2)) (b0 := o) O a1 (fun p hp ne => ⟨by rw [o4 _ (by omega) (by omega), o2 _ (by omega) (by omega)], by rw [o4 _ (by omega) (by omega), o2 _ (by omega) (by omega)]⟩)
      rw [ch, h4, was, c3, c5, if_neg (by decide), if_pos (by decide), Int32.sub_zero, Int32.add_assoc]
theorem zsum_in {w : Nat → Int32} {P : Nat → Bool} {n : Nat} : ∀ m, n ≤ m → zsum w (fun i => decide (i < n) && P i) m = zsum w P n := by
  intro m hm
  induction m with
  | zero => rw [show n = 0 by omega]; rfl
  | succ m ih =>
    by_cases h : n = m + 1
    · subst h
      exact zsum_congr (fun i hi => by simp [hi]) (fun _ _ _ => rfl)
    · rw [zsum, ih (by omega)]
      simp [show ¬ m < n by omega]
theorem send_loop {k l B O : Nat} {f : Nat → Int32} {P : Nat → Bool} (hl : l < 3) (hB : B ≤ 24) (hO : O ≤ 10) (w : Ow f B O P) : ∀ n i F, i ≤ 24 → 24 - i < n → Dl f F B O (fun b => decide (b < i) && P b) (zsum (zio f) (fun b => decide (b < B) && P b) i) →
    ∃ F', f_X6_sendLorry_b37 k (Int32.ofNat l) n F (zbs P B) (zsum (zio f) (fun b => decide (b < B) && P b) i) (Int32.ofNat i) = some (zsum (zio f) P B, upd F' (332 + l * 4 + 3) (F' (332 + l * 4 + 3) + 1)) ∧ Dl f F' B O P (zsum (zio f) P B) := by
  intro n
  induction n with
  | zero => intro i _ _ h; omega
  | succ n ih =>
    intro i F hi hn d
    rw [f_X6_sendLorry_b37]
    by_cases h : i < 24
    · rw [if_neg (show ¬ (24 : Int32) ≤ Int32.ofNat i from fun t => absurd ((n_le (a := 24) (by omega) (by omega)).mp t) (by omega)), zl_e, zl_e, b_test (by omega), b_zbs B (by omega) i (by omega)]
      have hs : zsum (zio f) (fun b => decide (b < B) && P b) (i + 1) = if (decide (i < B) && P i) = true then zsum (zio f) (fun b => decide (b < B) && P b) i + zio f i else zsum (zio f) (fun b => decide (b < B) && P b) i := by rw [zsum]
      by_cases q : (decide (i < B) && P i) = true
      · rw [if_pos (by rw [if_pos q])]
        rw [if_pos q] at hs
        have q' := q
        simp only [Bool.and_eq_true, decide_eq_true_eq] at q'
        obtain ⟨F', e, d'⟩ := dl_one (k := k) d hB hO q'.1 (by simp) (fun c hc pc => w c hc (by
          simp only [Bool.or_eq_true, Bool.and_eq_true, decide_eq_true_eq] at pc
          rcases pc with pc | pc
          · exact pc.2
          · rw [pc]; exact q'.2))
        rw [e, zb2_some, zl_e, zl_e, n_suc, ← hs]
        rw [← hs] at d'
        refine ih (i + 1) F' (by omega) (by omega) (d'.congr (fun b hb => ?_))
        by_cases eb : b = i
        · subst eb; simp [q'.2]
        · have : (b < i + 1) ↔ b < i := by omega
          simp [eb, this]
      · rw [if_neg (by rw [if_neg q]; decide), zl_e, n_suc]
        rw [if_neg q] at hs
        rw [← hs]
        rw [← hs] at d
        refine ih (i + 1) F (by omega) (by omega) (d.congr (fun b hb => ?_))
        by_cases eb : b = i
        · subst eb
          have : P b = false := by
            cases hp : P b with
            | false => rfl
            | true => exact absurd (by simp [hb, hp]) q
          simp [this]
        · have : (b < i + 1) ↔ b < i := by omega
          simp [this]
    · have : i = 24 := by omega
      subst this
      rw [if_pos (by decide), zsum_in 24 hB, s_lor3 hl, zb1_some, zl_e, s_slor3 hl, zb1_some]
      rw [zsum_in 24 hB] at d
      exact ⟨F, rfl, d.congr (fun b hb => by simp [show b < 24 by omega])⟩
theorem zat_n6 {S : Nat → Int32} {x b : Nat} (hx : x < 2147483648) (h : zat S x b = true) : ¬ S b = -6 := by
  rw [show S b = _ from of_decide_eq_true h]
  exact n_neg6 hx
theorem zb1_inv {α ρ : Type} {o : Option α} {K : α → Option ρ} {r : ρ} (h : zb1 o K = some r) : ∃ a, o = some a ∧ K a = some r := by
  cases o with
  | none => exact absurd h (by intro t; cases t)
  | some a => exact ⟨a, rfl, h⟩
theorem s_why_n {k : Nat} {f : Nat → Int32} {p r : Int32} (h : f_X1_reasonToStay k f p = some r) : r = 0 ∨ ¬ r ≤ 0 := by
  rw [f_X1_reasonToStay] at h
  obtain ⟨v1, -, h⟩ := zb1_inv h
  split at h
  · cases h; exact .inr (by decide)
  · obtain ⟨v2, -, h⟩ := zb1_inv h
    simp only [zl_e] at h
    split at h
    · obtain ⟨v4, -, h⟩ := zb1_inv h
      obtain ⟨v5, -, h⟩ := zb1_inv h
      split at h
      · obtain ⟨v6, -, h⟩ := zb1_inv h
        obtain ⟨v7, -, h⟩ := zb1_inv h
        split at h
        · obtain ⟨v8, -, h⟩ := zb1_inv h
          obtain ⟨v9, -, h⟩ := zb1_inv h
          split at h
          · cases h; exact .inl rfl
          · cases h; exact .inr (by decide)
        · cases h; exact .inr (by decide)
      · cases h; exact .inr (by decide)
    · cases h; exact .inr (by decide)
theorem zsum_pos {w : Nat → Int32} {P : Nat → Bool} {c : Nat} : ∀ n, n * c < 2147483648 → (∀ b, b < n → P b = true → 0 ≤ (w b).toInt ∧ (w b).toInt ≤ c) → 0 ≤ (zsum w P n).toInt ∧ (zsum w P n).toInt ≤ n * c := by
  intro n
  induction n with
  | zero => intro _ _; rw [zsum]; exact ⟨by decide, by simp⟩
  | succ n ih =>
    intro hc h
    rw [Nat.succ_mul] at hc
    obtain ⟨i1, i2⟩ := ih (by omega) (fun b hb => h b (by omega))
    rw [zsum]
    have e : ((n + 1 : Nat) : Int) * (c : Int) = (n : Int) * c + c := by
      rw [Int.natCast_add, Int.add_mul]
      simp
    by_cases q : P n = true
    · rw [if_pos q]
      obtain ⟨w1, w2⟩ := h n (by omega) q
      have hn : (n : Int) * c + c < 2147483648 := by
        have : ((n * c + c : Nat) : Int) < 2147483648 := by omega
        rwa [Int.natCast_add, Int.natCast_mul] at this
      rw [i_add (by omega) (by omega), e]
      omega
    · rw [if_neg q, e]
      omega
theorem zon_n6 {S : Nat → Int32} {l b : Nat} (hl : l < 3) (h : zon S l b = true) : ¬ S b = -6 := by
  unfold zon at h
  simp only [Bool.or_eq_true] at h
  rcases h with (((h | h) | h) | h) | h <;> exact zat_n6 (by omega) h
theorem cpy_e {f g : Nat → Int32} {i : Nat} (hi : i < 344) : va_cpy f g 0 0 344 i = f i := by
  unfold va_cpy
  rw [if_pos ⟨by omega, by omega⟩]
  congr 1
  omega
def ring (f : Nat → Int32) (g : Nat → Nat → Int32) (n : Nat) : Nat → Nat → Int32 := fun i => if i = n then va_cpy f (g i) 0 0 344 else g i
theorem s_note {k n : Nat} {f : Nat → Int32} {g : Nat → Nat → Int32} (hn : n < 7) : f_X2_note k f g (Int32.ofNat n) = some (ring f g n) := by
  rw [f_X2_note, m_g hn (by omega), n_nat (by omega)]
  rfl
theorem s_settle {k n h : Nat} {r : Int32} (hn : n < 7) (hh : h ≤ 6) (hr : ¬ r < 0) : f_X2_settle k (Int32.ofNat n) (Int32.ofNat h) r = some (r, Int32.ofNat ((n + 1) % 7), Int32.ofNat (if h = 6 then 6 else h + 1)) := by
  have b24 : ∀ y, f_X2_settle_b24 k r (Int32.ofNat n) (Int32.ofNat h) y = some (r, y, Int32.ofNat (if h = 6 then 6 else h + 1)) := fun y => by
    rw [f_X2_settle_b24, zl_e, zl_e, zl_e, zl_e, n_suc]
    by_cases q : h = 6
    · subst q
      rw [if_pos (by decide), if_pos rfl]
      rfl
    · rw [if_neg (show ¬ (6 : Int32) < Int32.ofNat (h + 1) from fun t => absurd ((n_lt (a := 6) (by omega) (by omega)).mp t) (by omega)), if_neg q]
  rw [f_X2_settle, if_neg hr, b24, zl_e, b24]
  by_cases q : n = 6
  · subst q
    rw [if_pos (by decide)]
    rfl
  · rw [if_neg (show ¬ (6 : Int32) ≤ Int32.ofNat n from fun t => absurd ((n_le (a := 6) (by omega) (by omega)).mp t) (by omega)), n_suc, show (n + 1) % 7 = n + 1 by omega]
theorem s_settle_no {k : Nat} {nx hz r : Int32} (hr : r < 0) : f_X2_settle k nx hz r = some (r, nx, hz) := by
  rw [f_X2_settle, if_pos hr]
theorem zb6_some {α β γ δ ε ζ ρ : Type} {a : α} {b : β} {c : γ} {d : δ} {e : ε} {z : ζ} {k : α → β → γ → δ → ε → ζ → Option ρ} : zb6 (some (a, b, c, d, e, z)) k = k a b c d e z := rfl
