/-! TEXTS: the reference takes signs -/
theorem m_tk {k l p a b : Nat} {pd : Nat → Int32} {T : Nat → Nat} {wr A B : Int32} (t : Txt pd l T) (hp : p ≤ l) (ha : A = Int32.ofNat a) (hb : B = Int32.ofNat b) (h1 : a < 1000) (h2 : b < 1000) (hw : wr = 0 ∨ wr = 1) :
    f_X8_takes k pd (Int32.ofNat l) (Int32.ofNat p) wr A B = if wr = 0 ∧ a ≤ T p ∧ T p ≤ b then some (Int32.ofNat (T p - a), Int32.ofNat (p + 1), 0) else some (Int32.ofNat (T p) - Int32.ofNat a, Int32.ofNat p, 1) := by
  subst ha
  subst hb
  have hl := t.1
  have t0 := t.lt p
  have e : f_X8_takes k pd (Int32.ofNat l) (Int32.ofNat p) wr (Int32.ofNat a) (Int32.ofNat b) = f_X8_takes_b24 k pd (Int32.ofNat l) (Int32.ofNat a) (Int32.ofNat b) (Int32.ofNat p) wr (Int32.ofNat (T p)) := by
    rw [f_X8_takes]
    by_cases h : p < l
    · rw [if_neg (fun r => absurd ((n_le (by omega) (by omega)).mp r) (by omega)), m_rd (by omega) (by omega), (t.2.1 p h).1]
    · rw [if_pos ((n_le (by omega) (by omega)).mpr (by omega)), t.2.2 p (by omega)]
      rfl
  have b47 : ∀ y, (y = 0 ∨ y = 1) → f_X8_takes_b47 k pd (Int32.ofNat l) (Int32.ofNat a) (Int32.ofNat b) (Int32.ofNat p) wr (Int32.ofNat (T p)) y = if y = 0 then some (Int32.ofNat (T p) - Int32.ofNat a, Int32.ofNat (p + 1), 0) else some (Int32.ofNat (T p) - Int32.ofNat a, Int32.ofNat p, 1) := fun y hy => by
    rw [f_X8_takes_b47, show zbo y = true from decide_eq_true hy, zg_true, zl_e]
    rcases hy with rfl | rfl
    · rw [if_pos rfl, if_pos rfl, f_X8_takes_b67, zl_e, zl_e, zl_e, n_suc]
    · rw [if_neg n10, if_neg n10, f_X8_takes_b67, zl_e, zl_e, zl_e, Int32.add_zero]
  rw [e, f_X8_takes_b24]
  rcases hw with rfl | rfl
  · rw [if_pos rfl, m_in, zb1_some]
    have i1 : (¬ Int32.ofNat (T p) < Int32.ofNat a ∧ ¬ Int32.ofNat b < Int32.ofNat (T p)) ↔ (a ≤ T p ∧ T p ≤ b) := by
      rw [n_lt (by omega) (by omega), n_lt (by omega) (by omega)]
      omega
    by_cases c : a ≤ T p ∧ T p ≤ b
    · rw [if_neg (by rw [if_pos (i1.mpr c)]; exact n10), b47 0 (.inl rfl), if_pos rfl, if_pos ⟨rfl, c⟩, n_sub c.1]
    · rw [if_pos (by rw [if_neg (fun r => c (i1.mp r))]), b47 1 (.inr rfl), if_neg n10, if_neg (fun r => c r.2)]
  · rw [if_neg n10, b47 1 (.inr rfl), if_neg n10, if_neg (fun r => n10 r.1)]
theorem m_next {k l p a b : Nat} {pd : Nat → Int32} {T : Nat → Nat} {A B : Int32} (t : Txt pd l T) (hp : p ≤ l) (ha : A = Int32.ofNat a) (hb : B = Int32.ofNat b) (h0 : 0 < a) (h1 : a < 1000) (h2 : b < 1000) :
    f_X8_isNext k pd (Int32.ofNat l) (Int32.ofNat p) 0 A B = some (if a ≤ T p ∧ T p ≤ b then 1 else 0) := by
  subst ha
  subst hb
  have hl := t.1
  have t0 := t.lt p
  rw [f_X8_isNext, if_pos rfl]
  by_cases h : p < l
  · rw [if_neg (fun r => absurd ((n_le (by omega) (by omega)).mp r) (by omega)), m_rd (by omega) (by omega), (t.2.1 p h).1, m_in, zb1_some]
    have i1 : (¬ Int32.ofNat (T p) < Int32.ofNat a ∧ ¬ Int32.ofNat b < Int32.ofNat (T p)) ↔ (a ≤ T p ∧ T p ≤ b) := by
      rw [n_lt (by omega) (by omega), n_lt (by omega) (by omega)]
      omega
    by_cases c : a ≤ T p ∧ T p ≤ b
    · rw [if_neg (by rw [if_pos (i1.mpr c)]; exact n10), if_pos c]
    · rw [if_pos (by rw [if_neg (fun r => c (i1.mp r))]), if_neg c]
  · rw [if_pos ((n_le (by omega) (by omega)).mpr (by omega)), t.2.2 p (by omega), if_neg (by omega)]
theorem m_nextw {k : Nat} {pd : Nat → Int32} {ln po A B : Int32} : f_X8_isNext k pd ln po 1 A B = some 0 := by
  rw [f_X8_isNext, if_neg n10]
theorem m_b11w {k n : Nat} {pd : Nat → Int32} {ln po x : Int32} : f_X8_takesNumber_b11 k pd ln (n + 1) po 1 x 0 = some (x, po, 1) := by
  rw [f_X8_takesNumber_b11, if_neg (by decide), m_nextw, zb1_some]
  by_cases h : x ≤ 0
  · rw [if_pos h]
  · rw [if_neg h, if_pos rfl]
theorem m_numw {k l p : Nat} {pd : Nat → Int32} {T : Nat → Nat} (hk : 25 ≤ k) (t : Txt pd l T) (hp : p ≤ l) : ∃ y, f_X8_takesNumber k pd (Int32.ofNat l) (Int32.ofNat p) 1 = some (y, Int32.ofNat p, 1) := by
  obtain ⟨n, rfl⟩ : ∃ n, k = n + 1 := ⟨k - 1, by omega⟩
  refine ⟨Int32.ofNat (T p) - Int32.ofNat 48, ?_⟩
  rw [f_X8_takesNumber, m_tk (A := 48) (B := 57) (a := 48) (b := 57) t hp rfl rfl (by omega) (by omega) (.inr rfl), if_neg (fun r => n10 r.1), zb3_some, m_b11w]
theorem m_num0 {k l p : Nat} {pd : Nat → Int32} {T : Nat → Nat} (hk : 25 ≤ k) (t : Txt pd l T) (hp : p ≤ l) (h : numv T p = none) : ∃ y, f_X8_takesNumber k pd (Int32.ofNat l) (Int32.ofNat p) 0 = some (y, Int32.ofNat p, 1) := by
  obtain ⟨n, rfl⟩ : ∃ n, k = n + 1 := ⟨k - 1, by omega⟩
  have c : ¬ (48 ≤ T p ∧ T p ≤ 57) := fun c => by
    unfold numv at h
    rw [if_pos c] at h
    split at h
    · cases h
    · split at h
      · split at h
        · cases h
        · cases h
      · cases h
  refine ⟨Int32.ofNat (T p) - Int32.ofNat 48, ?_⟩
  rw [f_X8_takesNumber, m_tk (A := 48) (B := 57) (a := 48) (b := 57) t hp rfl rfl (by omega) (by omega) (.inl rfl), if_neg (fun r => c r.2), zb3_some, m_b11w]
theorem m_num1 {k l p v q : Nat} {pd : Nat → Int32} {T : Nat → Nat} (hk : 25 ≤ k) (t : Txt pd l T) (hp : p ≤ l) (h : numv T p = some (v, q)) : f_X8_takesNumber k pd (Int32.ofNat l) (Int32.ofNat p) 0 = some (Int32.ofNat v, Int32.ofNat q, 0) := by
  obtain ⟨n, rfl⟩ : ∃ n, k = n + 3 := ⟨k - 3, by omega⟩
  have hl := t.1
  have t0 := t.lt p
  have t1 := t.lt (p + 1)
  have t2 := t.lt (p + 2)
  -- the loop: at its end, and a step of it
  have fin : ∀ m x j q, q ≤ l → x < 100000 → j ≤ 2 → (2 ≤ j ∨ x = 0 ∨ ¬ (48 ≤ T q ∧ T q ≤ 57)) → f_X8_takesNumber_b11 (n + 3) pd (Int32.ofNat l) (m + 1) (Int32.ofNat q) 0 (Int32.ofNat x) (Int32.ofNat j) = some (Int32.ofNat x, Int32.ofNat q, 0) := fun m x j q hq hx hj hh => by
    rw [f_X8_takesNumber_b11, m_next (A := 48) (B := 57) (a := 48) (b := 57) t hq rfl rfl (by omega) (by omega) (by omega), zb1_some]
    by_cases c1 : 2 ≤ j
    · rw [if_pos (show (2 : Int32) ≤ Int32.ofNat j from (n_le (a := 2) (by omega) (by omega)).mpr c1)]
    · rw [if_neg (show ¬ (2 : Int32) ≤ Int32.ofNat j from fun r => c1 ((n_le (a := 2) (by omega) (by omega)).mp r))]
      by_cases c2 : x = 0
      · rw [if_pos (show Int32.ofNat x ≤ 0 by rw [c2]; decide)]
      · rw [if_neg (show ¬ Int32.ofNat x ≤ 0 from fun r => absurd ((n_le (b := 0) (by omega) (by omega)).mp r) (by omega))]
        have c3 : ¬ (48 ≤ T q ∧ T q ≤ 57) := by
          rcases hh with h | h | h
          · exact absurd h c1
          · exact absurd h c2
          · exact h
        rw [if_pos (by rw [if_neg c3])]
  have st : ∀ m x j q, q ≤ l → 0 < x → x < 100000 → j < 2 → (48 ≤ T q ∧ T q ≤ 57) → f_X8_takesNumber_b11 (n + 3) pd (Int32.ofNat l) (m + 1) (Int32.ofNat q) 0 (Int32.ofNat x) (Int32.ofNat j) = f_X8_takesNumber_b11 (n + 3) pd (Int32.ofNat l) m (Int32.ofNat (q + 1)) 0 (Int32.ofNat (10 * x + (T q - 48))) (Int32.ofNat (j + 1)) := fun m x j q hq h0 hx hj c3 => by
    rw [f_X8_takesNumber_b11, m_next (A := 48) (B := 57) (a := 48) (b := 57) t hq rfl rfl (by omega) (by omega) (by omega), zb1_some, if_neg (show ¬ (2 : Int32) ≤ Int32.ofNat j from fun r => absurd ((n_le (a := 2) (by omega) (by omega)).mp r) (by omega)), if_neg (show ¬ Int32.ofNat x ≤ 0 from fun r => absurd ((n_le (b := 0) (by omega) (by omega)).mp r) (by omega)), if_neg (by rw [if_pos c3]; exact n10), zl_e, m_tk (A := 48) (B := 57) (a := 48) (b := 57) t hq rfl rfl (by omega) (by omega) (.inl rfl), if_pos ⟨rfl, c3⟩, zb3_some, zl_e, zl_e, n_suc, show (10 : Int32) = Int32.ofNat 10 from rfl, n_mul, n_add]
  have c0 : 48 ≤ T p ∧ T p ≤ 57 := by
    by_cases c : 48 ≤ T p ∧ T p ≤ 57
    · exact c
    · unfold numv at h
      rw [if_neg c] at h
      cases h
  have lo := t.lo (p := p) (by omega)
  rw [f_X8_takesNumber, m_tk (A := 48) (B := 57) (a := 48) (b := 57) t hp rfl rfl (by omega) (by omega) (.inl rfl), if_pos ⟨rfl, c0⟩, zb3_some]
  show f_X8_takesNumber_b11 (n + 3) pd (Int32.ofNat l) (n + 2 + 1) (Int32.ofNat (p + 1)) 0 (Int32.ofNat (T p - 48)) (Int32.ofNat 0) = _
  unfold numv at h
  rw [if_pos c0] at h
  by_cases z : T p = 48
  · rw [if_pos z] at h
    cases h
    rw [fin _ _ _ _ (by omega) (by omega) (by omega) (.inr (.inl (by omega))), z]
  · rw [if_neg z] at h
    by_cases c1 : 48 ≤ T (p + 1) ∧ T (p + 1) ≤ 57
    · have l1 := t.lo (p := p + 1) (by omega)
      rw [if_pos c1] at h
      rw [st _ _ _ _ (by omega) (by omega) (by omega) (by omega) c1]
      by_cases c2 : 48 ≤ T (p + 2) ∧ T (p + 2) ≤ 57
      · have l2 := t.lo (p := p + 2) (by omega)
        rw [if_pos c2] at h
        cases h
        rw [st _ _ _ _ (by omega) (by omega) (by omega) (by omega) c2, fin _ _ _ _ (by omega) (by omega) (by omega) (.inl (by omega))]
      · rw [if_neg c2] at h
        cases h
        rw [fin _ _ _ _ (by omega) (by omega) (by omega) (.inr (.inr c2))]
    · rw [if_neg c1] at h
      cases h
      rw [fin _ _ _ _ (by omega) (by omega) (by omega) (.inr (.inr c1))]
/-! the reference's reading of parts, one by one -/
def mrun (k : Nat) (pd : Nat → Int32) (ln : Int32) : List Nat → Int32 → Int32 → (Nat → Int32) → Nat → Option (Int32 × Int32 × (Nat → Int32))
  | [], po, wr, to, _ => some (po, wr, to)
  | c :: cs, po, wr, to, i =>
    if c = 78 then zb3 (f_X8_takesNumber k pd ln po wr) (fun v po wr => mrun k pd ln cs po wr (upd to i v) (i + 1))
    else if c = 68 then zb3 (f_X8_takes k pd ln po wr 48 57) (fun v po wr => mrun k pd ln cs po wr (upd to i v) (i + 1))
    else zb3 (f_X8_takes k pd ln po wr (Int32.ofNat c) (Int32.ofNat c)) (fun _ po wr => mrun k pd ln cs po wr to i)
theorem mrun_w {k l : Nat} {pd : Nat → Int32} {T : Nat → Nat} (hk : 25 ≤ k) (t : Txt pd l T) : ∀ (cs : List Nat) (p i : Nat) (to : Nat → Int32), (∀ c ∈ cs, 0 < c ∧ c < 127) → p ≤ l → ∃ to', mrun k pd (Int32.ofNat l) cs (Int32.ofNat p) 1 to i = some (Int32.ofNat p, 1, to') ∧ ∀ a, a < i → to' a = to a := by
  intro cs
  induction cs with
  | nil => intro p i to _ _; exact ⟨to, rfl, fun _ _ => rfl⟩
  | cons c cs ih =>
    intro p i to ho hp
    have ho' : ∀ c ∈ cs, 0 < c ∧ c < 127 := fun d hd => ho d (List.mem_cons_of_mem _ hd)
    have c0 := ho c List.mem_cons_self
    rw [mrun]
    by_cases h1 : c = 78
    · obtain ⟨y, e⟩ := m_numw hk t hp
      obtain ⟨to', e', fr⟩ := ih p (i + 1) (upd to i y) ho' hp
      rw [if_pos h1, e, zb3_some]
      exact ⟨to', e', fun a ha => by rw [fr a (by omega), upd_ne (by omega)]⟩
    · rw [if_neg h1]
      by_cases h2 : c = 68
      · rw [if_pos h2, m_tk (A := 48) (B := 57) (a := 48) (b := 57) t hp rfl rfl (by omega) (by omega) (.inr rfl), if_neg (fun r => n10 r.1), zb3_some]
        obtain ⟨to', e', fr⟩ := ih p (i + 1) (upd to i (Int32.ofNat (T p) - Int32.ofNat 48)) ho' hp
        exact ⟨to', e', fun a ha => by rw [fr a (by omega), upd_ne (by omega)]⟩
      · rw [if_neg h2, m_tk (a := c) (b := c) t hp rfl rfl (by omega) (by omega) (.inr rfl), if_neg (fun r => n10 r.1), zb3_some]
        exact ih p i to ho' hp
theorem mrun_c {k l : Nat} {pd : Nat → Int32} {T : Nat → Nat} (hk : 25 ≤ k) (t : Txt pd l T) : ∀ (cs : List Nat) (p i : Nat) (to : Nat → Int32), (∀ c ∈ cs, (0 < c ∧ c < 127) ∧ c ≠ 45) → p ≤ l →
    ∃ to', mrun k pd (Int32.ofNat l) cs (Int32.ofNat p) 0 to i = some (Int32.ofNat (sp T cs p false).2.1, if (sp T cs p false).1 = true then 0 else 1, to') ∧ (∀ a, a < i → to' a = to a) ∧ ((sp T cs p false).1 = true → ∀ a, a < (sp T cs p false).2.2.length → to' (i + a) = (sp T cs p false).2.2.getD a 0) := by
  intro cs
  induction cs with
  | nil => intro p i to _ _; rw [sp]; exact ⟨to, rfl, fun _ _ => rfl, fun _ a ha => absurd ha (Nat.not_lt_zero _)⟩
  | cons c cs ih =>
    intro p i to ho hp
    have ho' : ∀ c ∈ cs, (0 < c ∧ c < 127) ∧ c ≠ 45 := fun d hd => ho d (List.mem_cons_of_mem _ hd)
    have ho2 : ∀ c ∈ cs, 0 < c ∧ c < 127 := fun d hd => (ho' d hd).1
    have c0 := ho c List.mem_cons_self
    rw [mrun]
    by_cases h1 : c = 78
    · subst h1
      rw [if_pos rfl]
      cases hn : numv T p with
      | none =>
        obtain ⟨y, e⟩ := m_num0 hk t hp hn
        obtain ⟨to', e', fr⟩ := mrun_w hk t cs p (i + 1) (upd to i y) ho2 hp
        rw [e, zb3_some, sp_N0 hn]
        exact ⟨to', e', fun a ha => by rw [fr a (by omega), upd_ne (by omega)], fun h => by cases h⟩
      | some vq =>
        obtain ⟨v, q⟩ := vq
        obtain ⟨n1, n2, n3⟩ := numv_c t hn
        obtain ⟨to', e', fr, on⟩ := ih q (i + 1) (upd to i (Int32.ofNat v)) ho' n2
        rw [m_num1 hk t hp hn, zb3_some, sp_N1 hn]
        refine ⟨to', e', fun a ha => by rw [fr a (by omega), upd_ne (by omega)], fun h a ha => ?_⟩
        cases a with
        | zero => rw [List.getD_cons_zero, Nat.add_zero, fr i (by omega), upd_at]; rfl
        | succ a =>
          rw [List.length_cons] at ha
          rw [List.getD_cons_succ, show i + (a + 1) = i + 1 + a by omega]
          exact on h a (by omega)
    · rw [if_neg h1]
      by_cases h2 : c = 68
      · subst h2
        rw [if_pos rfl, m_tk (A := 48) (B := 57) (a := 48) (b := 57) t hp rfl rfl (by omega) (by omega) (.inl rfl)]
        by_cases hd : 48 ≤ T p ∧ T p ≤ 57
        · have lo := t.lo (p := p) (by omega)
          obtain ⟨to', e', fr, on⟩ := ih (p + 1) (i + 1) (upd to i (Int32.ofNat (T p - 48))) ho' (by omega)
          rw [if_pos ⟨rfl, hd⟩, zb3_some, sp_D1 hd]
          refine ⟨to', e', fun a ha => by rw [fr a (by omega), upd_ne (by omega)], fun h a ha => ?_⟩
          cases a with
          | zero => rw [List.getD_cons_zero, Nat.add_zero, fr i (by omega), upd_at]; rfl
          | succ a =>
            rw [List.length_cons] at ha
            rw [List.getD_cons_succ, show i + (a + 1) = i + 1 + a by omega]
            exact on h a (by omega)
        · obtain ⟨to', e', fr⟩ := mrun_w hk t cs p (i + 1) (upd to i (Int32.ofNat (T p) - Int32.ofNat 48)) ho2 hp
          rw [if_neg (fun r => hd r.2), zb3_some, sp_D0 hd]
          exact ⟨to', e', fun a ha => by rw [fr a (by omega), upd_ne (by omega)], fun h => by cases h⟩
      · rw [if_neg h2, m_tk (a := c) (b := c) t hp rfl rfl (by omega) (by omega) (.inl rfl)]
        by_cases hd : T p = c
        · have lo := t.lo (p := p) (by omega)
          rw [if_pos ⟨rfl, by omega, by omega⟩, zb3_some, sp_c1 h1 h2 c0.2 hd]
          exact ih (p + 1) i to ho' (by omega)
        · obtain ⟨to', e', fr⟩ := mrun_w hk t cs p i to ho2 hp
          rw [if_neg (fun r => hd (by omega)), zb3_some, sp_c0 h1 h2 c0.2 hd]
          exact ⟨to', e', fr, fun h => by cases h⟩
