/-! TEXTS: the reference reads an order -/
theorem zb3_none {α β γ ρ : Type} {k : α → β → γ → Option ρ} : zb3 (none : Option (α × β × γ)) k = none := rfl
theorem zb3_cong {α β γ ρ : Type} {o : Option (α × β × γ)} {k k' : α → β → γ → Option ρ} (h : ∀ a b c, k a b c = k' a b c) : zb3 o k = zb3 o k' := by
  cases o with
  | none => rfl
  | some p => obtain ⟨a, b, c⟩ := p; exact h a b c
theorem zb3_beh {ρ : Type} {k : Nat} {pd : Nat → Int32} {ln po wr c : Int32} {K : Int32 → Int32 → Int32 → Option ρ} : zb3 (f_X8_takesBehind k pd ln po wr c) K = zb3 (f_X8_takes k pd ln po wr c c) (fun _ po2 wr3 => zb3 (f_X8_takesNumber k pd ln po2 wr3) K) := by
  rw [f_X8_takesBehind]
  cases f_X8_takes k pd ln po wr c c with
  | none => rfl
  | some p =>
    obtain ⟨a, b, d⟩ := p
    rw [zb3_some, zb3_some]
    cases f_X8_takesNumber k pd ln b d with
    | none => rfl
    | some p => obtain ⟨a, b, d⟩ := p; rfl
theorem upd_upd {f : Nat → Int32} {i : Nat} {v w : Int32} : upd (upd f i v) i w = upd f i w := by
  funext j
  by_cases h : j = i
  · rw [h, upd_at, upd_at]
  · rw [upd_ne h, upd_ne h, upd_ne h]
theorem m_w5 {ρ : Type} {to : Nat → Int32} {v : Int32} {K : (Nat → Int32) → Option ρ} : zg (zin (1 : Int32) 5) (zl (upd to (1 : Int32).toNatClampNeg v) K) = K (upd to 1 v) := m_wr (i := 1) (by omega) (by omega)
/-- behind the first number -/
theorem m_b188 {k : Nat} {pd to : Nat → Int32} {ln po wr x v : Int32} : f_X8_readOrder_b188 k pd ln po wr to x 0 v 1 = f_X8_readOrder_b214 k pd ln po wr (upd to 1 v) x v 1 := by
  rw [f_X8_readOrder_b188, m_w5, if_pos rfl, zl_e, upd_at]
theorem m_b188n {k : Nat} {pd to : Nat → Int32} {ln po wr x v : Int32} : f_X8_readOrder_b188 k pd ln po wr to x 1 v 1 = f_X8_readOrder_b214 k pd ln po wr (upd to 1 v) x (-v) 1 := by
  rw [f_X8_readOrder_b188, m_w5, if_neg n10, zl_e, zl_e, upd_at]
theorem t_q {k : Nat} {pd to : Nat → Int32} {ln po wr v : Int32} : f_X8_readOrder_b214 k pd ln po wr (upd to 1 v) 113 v 1 = mrun k pd ln [120, 78, 120, 78, 42, 78] po wr (upd to 1 v) 2 := by
  rw [f_X8_readOrder_b214, m_w5, if_pos rfl, upd_upd, f_X8_readOrder_b227, zb3_beh, mrun, if_neg (by decide), if_neg (by decide)]
  refine zb3_cong (fun _ a b => ?_)
  rw [mrun, if_pos rfl]
  refine zb3_cong (fun x a b => ?_)
  rw [zl_e, zb3_beh, mrun, if_neg (by decide), if_neg (by decide)]
  refine zb3_cong (fun _ a b => ?_)
  rw [mrun, if_pos rfl]
  refine zb3_cong (fun x a b => ?_)
  rw [zl_e, if_pos rfl, zb3_beh, mrun, if_neg (by decide), if_neg (by decide)]
  refine zb3_cong (fun _ a b => ?_)
  rw [mrun, if_pos rfl]
  refine zb3_cong (fun x a b => ?_)
  rw [zl_e, mrun]
theorem t_o {k : Nat} {pd to : Nat → Int32} {ln po wr v : Int32} : f_X8_readOrder_b214 k pd ln po wr (upd to 1 v) 111 v 1 = zb3 (mrun k pd ln [120, 78, 120, 78] po wr (upd to 1 v) 2) (fun po wr to => some (po, wr, upd to 4 0)) := by
  rw [f_X8_readOrder_b214, m_w5, if_neg (by decide), if_pos rfl, upd_upd, f_X8_readOrder_b227, zb3_beh, mrun, if_neg (by decide), if_neg (by decide)]
  cases f_X8_takes k pd ln po wr 120 120 with
  | none => rfl
  | some p =>
    obtain ⟨a0, a1, a2⟩ := p
    rw [zb3_some]
    show _ = zb3 (mrun k pd ln [78, 120, 78] a1 a2 (upd to 1 v) 2) _
    rw [mrun, if_pos rfl]
    cases f_X8_takesNumber k pd ln a1 a2 with
    | none => rfl
    | some p =>
      obtain ⟨b0, b1, b2⟩ := p
      rw [zb3_some, zb3_some, zl_e, zb3_beh, mrun, if_neg (by decide), if_neg (by decide)]
      show zb3 (f_X8_takes k pd ln b1 b2 120 120) _ = zb3 (zb3 (f_X8_takes k pd ln b1 b2 120 120) _) _
      cases f_X8_takes k pd ln b1 b2 120 120 with
      | none => rfl
      | some p =>
        obtain ⟨c0, c1, c2⟩ := p
        rw [zb3_some, zb3_some, mrun, if_pos rfl]
        cases f_X8_takesNumber k pd ln c1 c2 with
        | none => rfl
        | some p =>
          obtain ⟨d0, d1, d2⟩ := p
          rw [zb3_some, zb3_some, zl_e, if_neg (by decide), zl_e, mrun, zb3_some]
theorem t_g {k : Nat} {pd to : Nat → Int32} {ln po wr v : Int32} : f_X8_readOrder_b214 k pd ln po wr (upd to 1 v) 103 v 1 = mrun k pd ln [61, 78] po wr (upd to 1 v) 2 := by
  rw [f_X8_readOrder_b214, m_w5, if_neg (by decide), if_neg (by decide), if_pos rfl, upd_upd, zb3_beh, mrun, if_neg (by decide), if_neg (by decide)]
  refine zb3_cong (fun _ a b => ?_)
  rw [mrun, if_pos rfl]
  refine zb3_cong (fun x a b => ?_)
  rw [zl_e, mrun]
theorem t_c {k : Nat} {pd to : Nat → Int32} {ln po wr v : Int32} : f_X8_readOrder_b214 k pd ln po wr (upd to 1 v) 99 v 1 = mrun k pd ln [46, 68, 64, 78] po wr (upd to 1 v) 2 := by
  rw [f_X8_readOrder_b214, m_w5, if_neg (by decide), if_neg (by decide), if_neg (by decide), if_pos rfl, upd_upd, f_X8_readOrder_b309, mrun, if_neg (by decide), if_neg (by decide)]
  refine zb3_cong (fun _ a b => ?_)
  rw [mrun, if_neg (by decide), if_pos rfl]
  refine zb3_cong (fun x a b => ?_)
  rw [zl_e, if_pos rfl, zb3_beh, mrun, if_neg (by decide), if_neg (by decide)]
  refine zb3_cong (fun _ a b => ?_)
  rw [mrun, if_pos rfl]
  refine zb3_cong (fun x a b => ?_)
  rw [zl_e, mrun]
theorem t_l {k : Nat} {pd to : Nat → Int32} {ln po wr v : Int32} : f_X8_readOrder_b214 k pd ln po wr (upd to 1 v) 108 v 1 = mrun k pd ln [46, 68, 68] po wr (upd to 1 v) 2 := by
  rw [f_X8_readOrder_b214, m_w5, if_neg (by decide), if_neg (by decide), if_neg (by decide), if_neg (by decide), if_pos rfl, upd_upd, f_X8_readOrder_b309, mrun, if_neg (by decide), if_neg (by decide)]
  refine zb3_cong (fun _ a b => ?_)
  rw [mrun, if_neg (by decide), if_pos rfl]
  refine zb3_cong (fun x a b => ?_)
  rw [zl_e, if_neg (by decide), mrun, if_neg (by decide), if_pos rfl]
  refine zb3_cong (fun x a b => ?_)
  rw [zl_e, mrun]
/-- another letter: nothing behind the first number -/
theorem t_z {k : Nat} {pd to : Nat → Int32} {ln po wr x v w : Int32} (h1 : ¬ x = 113) (h2 : ¬ x = 111) (h3 : ¬ x = 103) (h4 : ¬ x = 99) (h5 : ¬ x = 108) : f_X8_readOrder_b214 k pd ln po wr (upd to 1 v) x w 1 = some (po, wr, upd to 1 w) := by
  rw [f_X8_readOrder_b214, m_w5, if_neg h1, if_neg h2, if_neg h3, if_neg h4, if_neg h5, upd_upd]
/-- the whole of it: its letter, then its parts -/
theorem m_b158 {k : Nat} {pd to : Nat → Int32} {ln po wr x : Int32} (hx : ¬ x = 100) : f_X8_readOrder_b158 k pd ln po wr to x 0 0 po = zb3 (f_X8_takesNumber k pd ln po wr) (fun v po wr => f_X8_readOrder_b214 k pd ln po wr (upd to 1 v) x v 1) := by
  rw [f_X8_readOrder_b158, zl_e, zl_e, Int32.add_zero, if_neg hx]
  exact zb3_cong (fun v a b => m_b188)
theorem zpt_c {x : Nat} : zpt x = [78, 120, 78, 120, 78, 42, 78] ∧ x = 113 ∨ zpt x = [78, 46, 68, 64, 78] ∧ x = 99 ∨ zpt x = [78, 120, 78, 120, 78] ∧ x = 111 ∨ zpt x = [78, 61, 78] ∧ x = 103 ∨ zpt x = [78, 46, 68, 68] ∧ x = 108 ∨ zpt x = [45, 78] ∧ x = 110 ∨ zpt x = [68] ∧ x = 100 ∨
    zpt x = [] ∧ x ≠ 113 ∧ x ≠ 99 ∧ x ≠ 111 ∧ x ≠ 103 ∧ x ≠ 108 ∧ x ≠ 110 ∧ x ≠ 100 := by
  unfold zpt
  by_cases c1 : x = 113
  · subst c1; exact .inl ⟨rfl, rfl⟩
  · by_cases c2 : x = 99
    · subst c2; exact .inr (.inl ⟨rfl, rfl⟩)
    · by_cases c3 : x = 111
      · subst c3; exact .inr (.inr (.inl ⟨rfl, rfl⟩))
      · by_cases c4 : x = 103
        · subst c4; exact .inr (.inr (.inr (.inl ⟨rfl, rfl⟩)))
        · by_cases c5 : x = 108
          · subst c5; exact .inr (.inr (.inr (.inr (.inl ⟨rfl, rfl⟩))))
          · by_cases c6 : x = 110
            · subst c6; exact .inr (.inr (.inr (.inr (.inr (.inl ⟨rfl, rfl⟩)))))
            · by_cases c7 : x = 100
              · subst c7; exact .inr (.inr (.inr (.inr (.inr (.inr (.inl ⟨rfl, rfl⟩))))))
              · rw [if_neg c1, if_neg c2, if_neg c3, if_neg c4, if_neg c5, if_neg c6, if_neg c7]
                exact .inr (.inr (.inr (.inr (.inr (.inr (.inr ⟨rfl, c1, c2, c3, c4, c5, c6, c7⟩))))))
theorem m_start {k l p : Nat} {pd to : Nat → Int32} {T : Nat → Nat} (t : Txt pd l T) (hp : p ≤ l) : f_X8_readOrder k pd (Int32.ofNat l) (Int32.ofNat p) 0 to = if (zpt (T p)).length = 0 then f_X8_readOrder_b110 k pd (Int32.ofNat l) (Int32.ofNat p) 1 to (Int32.ofNat (T p)) 0 (Int32.ofNat p) else f_X8_readOrder_b110 k pd (Int32.ofNat l) (Int32.ofNat p) 0 to (Int32.ofNat (T p)) 1 (Int32.ofNat p) := by
  have hl := t.1
  have t0 := t.lt p
  have e : f_X8_readOrder k pd (Int32.ofNat l) (Int32.ofNat p) 0 to = f_X8_readOrder_b24 k pd (Int32.ofNat l) (Int32.ofNat p) 0 to (Int32.ofNat (T p)) := by
    rw [f_X8_readOrder]
    by_cases h : p < l
    · rw [if_neg (fun r => absurd ((n_le (by omega) (by omega)).mp r) (by omega)), m_rd (by omega) (by omega), (t.2.1 p h).1]
    · rw [if_pos ((n_le (by omega) (by omega)).mpr (by omega)), t.2.2 p (by omega)]
      rfl
  have b72 : ∀ y, f_X8_readOrder_b72 k pd (Int32.ofNat l) (Int32.ofNat p) 0 to (Int32.ofNat (T p)) y = if y = 0 then f_X8_readOrder_b110 k pd (Int32.ofNat l) (Int32.ofNat p) 1 to (Int32.ofNat (T p)) 0 (Int32.ofNat p) else f_X8_readOrder_b110 k pd (Int32.ofNat l) (Int32.ofNat p) 0 to (Int32.ofNat (T p)) 1 (Int32.ofNat p) := fun y => by
    rw [f_X8_readOrder_b72, if_pos rfl, f_X8_readOrder_b90, f_X8_readOrder_b90, show zbo 1 = true by decide, show zbo 0 = true by decide, zg_true, zg_true, zl_e, zl_e, if_neg n10, if_pos rfl]
  rw [e, f_X8_readOrder_b24, b72, b72, if_neg n10, if_pos rfl]
  generalize f_X8_readOrder_b110 k pd (Int32.ofNat l) (Int32.ofNat p) 1 to (Int32.ofNat (T p)) 0 (Int32.ofNat p) = X
  generalize f_X8_readOrder_b110 k pd (Int32.ofNat l) (Int32.ofNat p) 0 to (Int32.ofNat (T p)) 1 (Int32.ofNat p) = Y
  generalize T p = x at t0
  rcases zpt_c (x := x) with ⟨hz, rfl⟩ | ⟨hz, rfl⟩ | ⟨hz, rfl⟩ | ⟨hz, rfl⟩ | ⟨hz, rfl⟩ | ⟨hz, rfl⟩ | ⟨hz, rfl⟩ | ⟨hz, h1, h2, h3, h4, h5, h6, h7⟩
  · rw [hz, if_pos (by decide), if_neg (by decide)]
  · rw [hz, if_neg (by decide), if_pos (by decide), if_neg (by decide)]
  · rw [hz, if_neg (by decide), if_neg (by decide), if_pos (by decide), if_neg (by decide)]
  · rw [hz, if_neg (by decide), if_neg (by decide), if_neg (by decide), if_pos (by decide), if_neg (by decide)]
  · rw [hz, if_neg (by decide), if_neg (by decide), if_neg (by decide), if_neg (by decide), if_pos (by decide), if_neg (by decide)]
  · rw [hz, if_neg (by decide), if_neg (by decide), if_neg (by decide), if_neg (by decide), if_neg (by decide), if_pos (by decide), if_neg (by decide)]
  · rw [hz, if_neg (by decide), if_neg (by decide), if_neg (by decide), if_neg (by decide), if_neg (by decide), if_neg (by decide), if_pos (by decide), if_neg (by decide)]
  · have nn : ∀ c : Nat, c < 1000 → x ≠ c → ¬ Int32.ofNat x = Int32.ofNat c := fun c hc h r => h ((n_inj (by omega) (by omega)).mp r)
    rw [hz, if_neg (show ¬ Int32.ofNat x = 113 from nn 113 (by omega) h1), if_neg (show ¬ Int32.ofNat x = 99 from nn 99 (by omega) h2), if_neg (show ¬ Int32.ofNat x = 111 from nn 111 (by omega) h3), if_neg (show ¬ Int32.ofNat x = 103 from nn 103 (by omega) h4), if_neg (show ¬ Int32.ofNat x = 108 from nn 108 (by omega) h5), if_neg (show ¬ Int32.ofNat x = 110 from nn 110 (by omega) h6), if_neg (show ¬ Int32.ofNat x = 100 from nn 100 (by omega) h7), if_pos (show ([] : List Nat).length = 0 from rfl)]
theorem m_b110 {k : Nat} {pd to : Nat → Int32} {ln po wr x y : Int32} (hx : ¬ x = 110) : f_X8_readOrder_b110 k pd ln po wr to x y po = f_X8_readOrder_b158 k pd ln (po + y) wr (upd to 0 x) x 0 0 (po + y) := by
  rw [f_X8_readOrder_b110, zl_e, zl_e, zl_e, if_neg hx, f_X8_readOrder_b143, if_pos rfl]
def RQ (x : Option (Int32 × Int32 × (Nat → Int32))) (S : Bool × Nat × List Int32) (v : Nat) : Prop :=
  ∃ to', x = some (Int32.ofNat S.2.1, if S.1 = true then 0 else 1, to') ∧ (S.1 = true → to' 0 = Int32.ofNat v ∧ ∀ a, a < S.2.2.length → to' (1 + a) = S.2.2.getD a 0)
/-- a letter with a number first -/
theorem m_letter {k l p : Nat} {pd to : Nat → Int32} {T : Nat → Nat} {cs : List Nat} {X : Int32} (hk : 25 ≤ k) (t : Txt pd l T) (hp : p < l) (hz : zpt (T p) = 78 :: cs) (hX : Int32.ofNat (T p) = X) (h1 : ¬ X = 110) (h2 : ¬ X = 100) (hc : ∀ c ∈ 78 :: cs, (0 < c ∧ c < 127) ∧ c ≠ 45)
    (tail : ∀ (po wr v : Int32) (to : Nat → Int32), f_X8_readOrder_b214 k pd (Int32.ofNat l) po wr (upd to 1 v) X v 1 = mrun k pd (Int32.ofNat l) cs po wr (upd to 1 v) 2) : RQ (f_X8_readOrder k pd (Int32.ofNat l) (Int32.ofNat p) 0 to) (rdo T p) (T p) := by
  have er : rdo T p = sp T (78 :: cs) (p + 1) false := by
    unfold rdo
    rw [hz, if_neg (by rw [List.length_cons]; omega)]
  have em : f_X8_readOrder k pd (Int32.ofNat l) (Int32.ofNat p) 0 to = mrun k pd (Int32.ofNat l) (78 :: cs) (Int32.ofNat (p + 1)) 0 (upd to 0 X) 1 := by
    rw [m_start t (by omega), hz, if_neg (by rw [List.length_cons]; omega), hX, m_b110 h1, n_suc, m_b158 h2, mrun, if_pos rfl]
    exact zb3_cong (fun v a b => tail a b v _)
  obtain ⟨to', e, fr, on⟩ := mrun_c hk t (78 :: cs) (p + 1) 1 (upd to 0 X) hc (by omega)
  rw [em, er]
  exact ⟨to', e, fun h => ⟨by rw [fr 0 (by omega), upd_at, hX], on h⟩⟩
theorem m_rdo {k l p : Nat} {pd to : Nat → Int32} {T : Nat → Nat} (hk : 25 ≤ k) (t : Txt pd l T) (hp : p ≤ l) : RQ (f_X8_readOrder k pd (Int32.ofNat l) (Int32.ofNat p) 0 to) (rdo T p) (T p) := by
  have hl := t.1
  have t0 := t.lt p
  have lo : T p ≠ 0 → p < l := fun h => t.lo h
  rcases zpt_c (x := T p) with ⟨hz, hx⟩ | ⟨hz, hx⟩ | ⟨hz, hx⟩ | ⟨hz, hx⟩ | ⟨hz, hx⟩ | ⟨hz, hx⟩ | ⟨hz, hx⟩ | ⟨hz, h1, h2, h3, h4, h5, h6, h7⟩
  · exact m_letter (X := 113) hk t (lo (by omega)) hz (by rw [hx]; rfl) (by decide) (by decide) (by decide) (fun _ _ _ _ => t_q)
  · exact m_letter (X := 99) hk t (lo (by omega)) hz (by rw [hx]; rfl) (by decide) (by decide) (by decide) (fun _ _ _ _ => t_c)
  · have lo := lo (by omega)
    have hX : Int32.ofNat (T p) = 111 := by rw [hx]; rfl
    have er : rdo T p = sp T [78, 120, 78, 120, 78] (p + 1) false := by
      unfold rdo
      rw [hz, if_neg (by decide)]
    have em : f_X8_readOrder k pd (Int32.ofNat l) (Int32.ofNat p) 0 to = zb3 (mrun k pd (Int32.ofNat l) [78, 120, 78, 120, 78] (Int32.ofNat (p + 1)) 0 (upd to 0 111) 1) (fun po wr to => some (po, wr, upd to 4 0)) := by
      rw [m_start t (by omega), hz, if_neg (by decide), hX, m_b110 (by decide), n_suc, m_b158 (by decide), mrun, if_pos rfl]
      cases f_X8_takesNumber k pd (Int32.ofNat l) (Int32.ofNat (p + 1)) 0 with
      | none => rfl
      | some q =>
        obtain ⟨a, b, c⟩ := q
        rw [zb3_some, zb3_some]
        exact t_o
    obtain ⟨to', e, fr, on⟩ := mrun_c hk t [78, 120, 78, 120, 78] (p + 1) 1 (upd to 0 111) (by decide) (by omega)
    have sl := (sp_pos t [78, 120, 78, 120, 78] (p + 1) false (by decide) (by omega)).2.2
    rw [em, er, e, zb3_some]
    refine ⟨upd to' 4 0, rfl, fun h => ⟨by rw [upd_ne (by omega), fr 0 (by omega), upd_at, hX], fun a ha => ?_⟩⟩
    have s3 : ncnt [78, 120, 78, 120, 78] = 3 := by decide
    rw [upd_ne (by have := sl h; omega)]
    exact on h a ha
  · exact m_letter (X := 103) hk t (lo (by omega)) hz (by rw [hx]; rfl) (by decide) (by decide) (by decide) (fun _ _ _ _ => t_g)
  · exact m_letter (X := 108) hk t (lo (by omega)) hz (by rw [hx]; rfl) (by decide) (by decide) (by decide) (fun _ _ _ _ => t_l)
  · have lo := lo (by omega)
    have hX : Int32.ofNat (T p) = 110 := by rw [hx]; rfl
    have er : rdo T p = sp T [45, 78] (p + 1) false := by
      unfold rdo
      rw [hz, if_neg (by decide)]
    rw [m_start t (by omega), hz, if_neg (by decide), hX, f_X8_readOrder_b110, zl_e, zl_e, zl_e, if_pos rfl, n_suc, m_next (A := 45) (B := 45) (a := 45) (b := 45) t (by omega) rfl rfl (by omega) (by omega) (by omega), zb1_some, er]
    by_cases hm : T (p + 1) = 45
    · have lo1 := t.lo (p := p + 1) (by omega)
      rw [if_neg (by rw [if_pos ⟨by omega, by omega⟩]; exact n10), f_X8_readOrder_b143, if_neg n10, f_X8_readOrder_b158, zl_e, zl_e, if_neg (by decide), n_suc, sp_m1 hm]
      cases hn : numv T (p + 1 + 1) with
      | none =>
        obtain ⟨y, e⟩ := m_num0 hk t (by omega) hn
        rw [e, zb3_some, m_b188n, t_z (by decide) (by decide) (by decide) (by decide) (by decide), sp_N0 hn]
        exact ⟨_, rfl, fun h => by cases h⟩
      | some vq =>
        obtain ⟨v, q⟩ := vq
        rw [m_num1 hk t (by omega) hn, zb3_some, m_b188n, t_z (by decide) (by decide) (by decide) (by decide) (by decide), sp_N1 hn, sp]
        refine ⟨_, rfl, fun _ => ⟨by rw [upd_ne (by omega), upd_at, hX], fun a ha => ?_⟩⟩
        have : a = 0 := by
          simp only [List.length_cons, List.length_nil] at ha
          omega
        subst this
        rw [upd_at]
        rfl
    · rw [if_pos (by rw [if_neg (by omega)]), f_X8_readOrder_b143, if_pos rfl, m_b158 (by decide), sp_m0 hm]
      cases hn : numv T (p + 1) with
      | none =>
        obtain ⟨y, e⟩ := m_num0 hk t (by omega) hn
        rw [e, zb3_some, t_z (by decide) (by decide) (by decide) (by decide) (by decide), sp_N0 hn]
        exact ⟨_, rfl, fun h => by cases h⟩
      | some vq =>
        obtain ⟨v, q⟩ := vq
        rw [m_num1 hk t (by omega) hn, zb3_some, t_z (by decide) (by decide) (by decide) (by decide) (by decide), sp_N1 hn, sp]
        refine ⟨_, rfl, fun _ => ⟨by rw [upd_ne (by omega), upd_at, hX], fun a ha => ?_⟩⟩
        have : a = 0 := by
          simp only [List.length_cons, List.length_nil] at ha
          omega
        subst this
        rw [upd_at]
        rfl
  · have lo := lo (by omega)
    have hX : Int32.ofNat (T p) = 100 := by rw [hx]; rfl
    have er : rdo T p = sp T [68] (p + 1) false := by
      unfold rdo
      rw [hz, if_neg (by decide)]
    rw [m_start t (by omega), hz, if_neg (by decide), hX, m_b110 (by decide), n_suc, f_X8_readOrder_b158, zl_e, zl_e, Int32.add_zero, if_pos rfl, m_tk (A := 48) (B := 57) (a := 48) (b := 57) t (by omega) rfl rfl (by omega) (by omega) (.inl rfl), er]
    by_cases hd : 48 ≤ T (p + 1) ∧ T (p + 1) ≤ 57
    · rw [if_pos ⟨rfl, hd⟩, zb3_some, m_b188, t_z (by decide) (by decide) (by decide) (by decide) (by decide), sp_D1 hd, sp]
      refine ⟨_, rfl, fun _ => ⟨by rw [upd_ne (by omega), upd_at, hX], fun a ha => ?_⟩⟩
      have : a = 0 := by
        simp only [List.length_cons, List.length_nil] at ha
        omega
      subst this
      rw [upd_at]
      rfl
    · rw [if_neg (fun r => hd r.2), zb3_some, m_b188, t_z (by decide) (by decide) (by decide) (by decide) (by decide), sp_D0 hd]
      exact ⟨_, rfl, fun h => by cases h⟩
  · have er : rdo T p = (false, p, []) := by
      unfold rdo
      rw [hz, if_pos (show ([] : List Nat).length = 0 from rfl)]
    have nn : ∀ c : Nat, c < 1000 → T p ≠ c → ¬ Int32.ofNat (T p) = Int32.ofNat c := fun c hc h r => h ((n_inj (by omega) (by omega)).mp r)
    obtain ⟨y, e⟩ := m_numw (k := k) (p := p) hk t hp
    rw [m_start t hp, hz, if_pos (show ([] : List Nat).length = 0 from rfl), m_b110 (nn 110 (by omega) h6), Int32.add_zero, m_b158 (nn 100 (by omega) h7), e, zb3_some, t_z (nn 113 (by omega) h1) (nn 111 (by omega) h3) (nn 103 (by omega) h4) (nn 99 (by omega) h2) (nn 108 (by omega) h5), er]
    exact ⟨_, rfl, fun h => by cases h⟩
