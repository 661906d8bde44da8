/-! TEXTS: what they say -/
/-- a number: its value, and where it ends -/
def numv (T : Nat → Nat) (p : Nat) : Option (Nat × Nat) :=
  if 48 ≤ T p ∧ T p ≤ 57 then
    if T p = 48 then some (0, p + 1)
    else if 48 ≤ T (p + 1) ∧ T (p + 1) ≤ 57 then
      if 48 ≤ T (p + 2) ∧ T (p + 2) ≤ 57 then some (10 * (10 * (T p - 48) + (T (p + 1) - 48)) + (T (p + 2) - 48), p + 3)
      else some (10 * (T p - 48) + (T (p + 1) - 48), p + 2)
    else some (T p - 48, p + 1)
  else none
def sgv (ng : Bool) (v : Nat) : Int32 := if ng = true then -Int32.ofNat v else Int32.ofNat v
/-- the parts of an order, read from p on: whether all stand there, where the reading ends, and the numbers -/
def sp (T : Nat → Nat) : List Nat → Nat → Bool → Bool × Nat × List Int32
  | [], p, _ => (true, p, [])
  | c :: cs, p, ng =>
    if c = 78 then
      match numv T p with
      | none => (false, p, [])
      | some (v, q) => ((sp T cs q ng).1, (sp T cs q ng).2.1, sgv ng v :: (sp T cs q ng).2.2)
    else if c = 68 then
      if 48 ≤ T p ∧ T p ≤ 57 then ((sp T cs (p + 1) ng).1, (sp T cs (p + 1) ng).2.1, sgv ng (T p - 48) :: (sp T cs (p + 1) ng).2.2)
      else (false, p, [])
    else if c = 45 then
      if T p = 45 then sp T cs (p + 1) true else sp T cs p false
    else if T p = c then sp T cs (p + 1) ng
    else (false, p, [])
/-- the text of l signs, as one side holds it -/
def Txt (sg : Nat → Int32) (l : Nat) (T : Nat → Nat) : Prop :=
  l ≤ 80 ∧ (∀ p, p < l → sg p = Int32.ofNat (T p) ∧ 33 ≤ T p ∧ T p ≤ 126) ∧ ∀ p, l ≤ p → T p = 0
theorem Txt.lt {sg : Nat → Int32} {l : Nat} {T : Nat → Nat} (t : Txt sg l T) (p : Nat) : T p < 127 := by
  by_cases h : p < l
  · have := (t.2.1 p h).2.2; omega
  · rw [t.2.2 p (by omega)]; omega
theorem Txt.lo {sg : Nat → Int32} {l : Nat} {T : Nat → Nat} (t : Txt sg l T) {p : Nat} (h : T p ≠ 0) : p < l := by
  by_cases q : p < l
  · exact q
  · exact absurd (t.2.2 p (by omega)) h
/-! the class's reading -/
theorem s_sign {k l p : Nat} {sg : Nat → Int32} {T : Nat → Nat} (t : Txt sg l T) (hp : p ≤ 100) : f_X3_sign k sg (Int32.ofNat l) (Int32.ofNat p) = some (Int32.ofNat (T p)) := by
  have hl := t.1
  rw [f_X3_sign, if_neg (n_lt0 (by omega))]
  by_cases h : p < l
  · rw [if_neg (fun r => absurd ((n_le (by omega) (by omega)).mp r) (by omega)), if_neg (show ¬ (80 : Int32) ≤ Int32.ofNat p from fun r => absurd ((n_le (a := 80) (by omega) (by omega)).mp r) (by omega)), m_rd (by omega) (by omega), (t.2.1 p h).1]
  · rw [if_pos ((n_le (by omega) (by omega)).mpr (by omega)), t.2.2 p (by omega)]
    rfl
theorem s_take {k l p c : Nat} {sg : Nat → Int32} {T : Nat → Nat} (t : Txt sg l T) (hp : p ≤ 100) (hc : c < 1000) : f_X3_take k sg (Int32.ofNat l) (Int32.ofNat p) (Int32.ofNat c) = if T p = c then some (1, Int32.ofNat (p + 1)) else some (0, Int32.ofNat p) := by
  have := t.lt p
  rw [f_X3_take, s_sign t hp, zb1_some]
  by_cases h : T p = c
  · rw [if_pos (by rw [h]), if_pos h, zl_e, zl_e, n_suc]
  · rw [if_neg (fun r => h ((n_inj (by omega) (by omega)).mp r)), if_neg h]
theorem s_b110 {k l p v m : Nat} {sg pn : Nat → Int32} {pg p1 y : Int32} (hm : m < 4) : f_X3_readNumber_b110 k sg (Int32.ofNat l) pg p1 (Int32.ofNat p) pn (Int32.ofNat m) y (Int32.ofNat m) = some (1, Int32.ofNat p, upd pn m y, Int32.ofNat (m + 1)) := by
  rw [f_X3_readNumber_b110, m_wr hm (by omega), zl_e, zl_e, n_suc]
/-- the end of a number in the class -/
theorem s_fin {k l p v m dg : Nat} {ng : Bool} {sg pn : Nat → Int32} {pg p1 : Int32} (hm : m < 4) (hg : pg = if ng = true then 1 else 0) (hd : dg < 1000) :
    (if Int32.ofNat dg = 0 then some ((0 : Int32), Int32.ofNat p, pn, Int32.ofNat m) else if Int32.ofNat m < 0 then some ((0 : Int32), Int32.ofNat p, pn, Int32.ofNat m) else if Int32.ofNat m < (4 : Int32) then
      (if pg = 0 then f_X3_readNumber_b110 k sg (Int32.ofNat l) pg p1 (Int32.ofNat p) pn (Int32.ofNat m) (Int32.ofNat v) (Int32.ofNat m) else zl (-Int32.ofNat v) fun v4 => f_X3_readNumber_b110 k sg (Int32.ofNat l) pg p1 (Int32.ofNat p) pn (Int32.ofNat m) v4 (Int32.ofNat m))
      else some ((0 : Int32), Int32.ofNat p, pn, Int32.ofNat m)) = if dg = 0 then some (0, Int32.ofNat p, pn, Int32.ofNat m) else some (1, Int32.ofNat p, upd pn m (sgv ng v), Int32.ofNat (m + 1)) := by
  by_cases h : dg = 0
  · subst h
    rw [if_pos rfl, if_pos (by decide)]
  · rw [if_neg (show ¬ Int32.ofNat dg = 0 from fun r => h ((n_inj (b := 0) (by omega) (by omega)).mp r)), if_neg h, if_neg (n_lt0 (by omega)), if_pos (show Int32.ofNat m < 4 from (n_lt (b := 4) (by omega) (by omega)).mpr hm), zl_e, s_b110 (v := 0) hm, s_b110 (v := 0) hm]
    unfold sgv
    cases ng with
    | false => rw [if_pos (by rw [hg]; decide), if_neg (by decide)]
    | true => rw [if_neg (by rw [hg]; decide), if_pos rfl]
theorem rn_fin {k l p v m dg md n : Nat} {ng : Bool} {sg pn : Nat → Int32} {T : Nat → Nat} {pg : Int32} (t : Txt sg l T) (hp : p ≤ 100) (hm : m < 4) (hg : pg = if ng = true then 1 else 0) (hd : dg < 1000) (hmd : md < 1000) (hv : v < 100000)
    (h : md ≤ dg ∨ ¬ (48 ≤ T p ∧ T p ≤ 57) ∨ (dg ≠ 0 ∧ v = 0)) : f_X3_readNumber_b4 k sg (Int32.ofNat l) pg (Int32.ofNat md) (n + 1) (Int32.ofNat p) pn (Int32.ofNat m) (Int32.ofNat v) (Int32.ofNat dg) = if dg = 0 then some (0, Int32.ofNat p, pn, Int32.ofNat m) else some (1, Int32.ofNat p, upd pn m (sgv ng v), Int32.ofNat (m + 1)) := by
  have hT := t.lt p
  have fin := s_fin (k := k) (l := l) (p := p) (v := v) (m := m) (dg := dg) (ng := ng) (sg := sg) (pn := pn) (pg := pg) (p1 := Int32.ofNat md) hm hg hd
  rw [f_X3_readNumber_b4, s_sign t hp]
  simp only [zb1_some]
  by_cases c1 : md ≤ dg
  · rw [if_pos ((n_le (by omega) (by omega)).mpr c1)]
    exact fin
  · rw [if_neg (fun r => c1 ((n_le (by omega) (by omega)).mp r))]
    by_cases c2 : T p < 48
    · rw [if_pos (show Int32.ofNat (T p) < 48 from (n_lt (b := 48) (by omega) (by omega)).mpr c2)]
      exact fin
    · rw [if_neg (show ¬ Int32.ofNat (T p) < 48 from fun r => c2 ((n_lt (b := 48) (by omega) (by omega)).mp r))]
      by_cases c3 : 57 < T p
      · rw [if_pos (show (57 : Int32) < Int32.ofNat (T p) from (n_lt (a := 57) (by omega) (by omega)).mpr c3)]
        exact fin
      · rw [if_neg (show ¬ (57 : Int32) < Int32.ofNat (T p) from fun r => c3 ((n_lt (a := 57) (by omega) (by omega)).mp r))]
        have d : dg ≠ 0 ∧ v = 0 := by
          rcases h with h | h | h
          · exact absurd h c1
          · exact absurd ⟨by omega, by omega⟩ h
          · exact h
        rw [if_neg (show ¬ Int32.ofNat dg = 0 from fun r => d.1 ((n_inj (b := 0) (by omega) (by omega)).mp r)), if_pos (show Int32.ofNat v ≤ 0 by rw [d.2]; decide)]
        exact fin
theorem rn_st {k l p v m dg md n : Nat} {sg pn : Nat → Int32} {T : Nat → Nat} {pg : Int32} (t : Txt sg l T) (hp : p ≤ 100) (hd : dg < 1000) (hmd : md < 1000) (hv : v < 100000) (h1 : dg < md) (h2 : 48 ≤ T p ∧ T p ≤ 57) (h3 : dg = 0 ∨ 0 < v) :
    f_X3_readNumber_b4 k sg (Int32.ofNat l) pg (Int32.ofNat md) (n + 1) (Int32.ofNat p) pn (Int32.ofNat m) (Int32.ofNat v) (Int32.ofNat dg) = f_X3_readNumber_b4 k sg (Int32.ofNat l) pg (Int32.ofNat md) n (Int32.ofNat (p + 1)) pn (Int32.ofNat m) (Int32.ofNat (10 * v + (T p - 48))) (Int32.ofNat (dg + 1)) := by
  have hT := t.lt p
  have b35 : f_X3_readNumber_b35 k sg (Int32.ofNat l) pg (Int32.ofNat md) (f_X3_readNumber_b4 k sg (Int32.ofNat l) pg (Int32.ofNat md) n) (Int32.ofNat p) pn (Int32.ofNat m) (Int32.ofNat v) (Int32.ofNat dg) = f_X3_readNumber_b4 k sg (Int32.ofNat l) pg (Int32.ofNat md) n (Int32.ofNat (p + 1)) pn (Int32.ofNat m) (Int32.ofNat (10 * v + (T p - 48))) (Int32.ofNat (dg + 1)) := by
    rw [f_X3_readNumber_b35, zl_e, s_sign t hp, zb1_some, zl_e, zl_e, zl_e, zl_e, zl_e, n_suc, n_suc]
    have e : Int32.ofNat v * 10 + Int32.ofNat (T p) - 48 = Int32.ofNat (10 * v + (T p - 48)) := by
      rw [show (10 : Int32) = Int32.ofNat 10 from rfl, show (48 : Int32) = Int32.ofNat 48 from rfl, n_mul, n_add, n_sub (by omega)]
      congr 1
      omega
    rw [e]
  rw [f_X3_readNumber_b4, s_sign t hp]
  simp only [zb1_some]
  rw [if_neg (fun r => absurd ((n_le (by omega) (by omega)).mp r) (by omega)), if_neg (show ¬ Int32.ofNat (T p) < 48 from fun r => absurd ((n_lt (b := 48) (by omega) (by omega)).mp r) (by omega)), if_neg (show ¬ (57 : Int32) < Int32.ofNat (T p) from fun r => absurd ((n_lt (a := 57) (by omega) (by omega)).mp r) (by omega)), b35]
  by_cases c : dg = 0
  · rw [if_pos (show Int32.ofNat dg = 0 by rw [c]; rfl)]
  · rw [if_neg (show ¬ Int32.ofNat dg = 0 from fun r => c ((n_inj (b := 0) (by omega) (by omega)).mp r)), if_neg (show ¬ Int32.ofNat v ≤ 0 from fun r => absurd ((n_le (b := 0) (by omega) (by omega)).mp r) (by omega))]
/-- the class reads a number -/
theorem s_num {k l p m : Nat} {ng : Bool} {sg pn : Nat → Int32} {T : Nat → Nat} {pg : Int32} (hk : 25 ≤ k) (t : Txt sg l T) (hp : p ≤ 90) (hm : m < 4) (hg : pg = if ng = true then 1 else 0) :
    f_X3_readNumber k sg (Int32.ofNat l) (Int32.ofNat p) pn (Int32.ofNat m) pg 3 = match numv T p with
      | none => some (0, Int32.ofNat p, pn, Int32.ofNat m)
      | some (v, q) => some (1, Int32.ofNat q, upd pn m (sgv ng v), Int32.ofNat (m + 1)) := by
  obtain ⟨n, rfl⟩ : ∃ n, k = n + 4 := ⟨k - 4, by omega⟩
  have t0 := t.lt p
  have t1 := t.lt (p + 1)
  have t2 := t.lt (p + 2)
  rw [f_X3_readNumber]
  show f_X3_readNumber_b4 (n + 4) sg (Int32.ofNat l) pg (Int32.ofNat 3) (n + 3 + 1) (Int32.ofNat p) pn (Int32.ofNat m) (Int32.ofNat 0) (Int32.ofNat 0) = _
  unfold numv
  by_cases c0 : 48 ≤ T p ∧ T p ≤ 57
  · rw [if_pos c0, rn_st t (by omega) (by omega) (by omega) (by omega) (by omega) c0 (.inl rfl)]
    by_cases z : T p = 48
    · rw [if_pos z, rn_fin (ng := ng) t (by omega) hm hg (by omega) (by omega) (by omega) (.inr (.inr ⟨by omega, by omega⟩)), if_neg (by omega), z]
    · rw [if_neg z]
      by_cases c1 : 48 ≤ T (p + 1) ∧ T (p + 1) ≤ 57
      · rw [if_pos c1, rn_st t (by omega) (by omega) (by omega) (by omega) (by omega) c1 (.inr (by omega))]
        by_cases c2 : 48 ≤ T (p + 2) ∧ T (p + 2) ≤ 57
        · rw [if_pos c2, rn_st t (by omega) (by omega) (by omega) (by omega) (by omega) c2 (.inr (by omega)), rn_fin (ng := ng) t (by omega) hm hg (by omega) (by omega) (by omega) (.inl (by omega)), if_neg (by omega)]
          simp only [Nat.mul_zero, Nat.zero_add]
        · rw [if_neg c2, rn_fin (ng := ng) t (by omega) hm hg (by omega) (by omega) (by omega) (.inr (.inl c2)), if_neg (by omega)]
          simp only [Nat.mul_zero, Nat.zero_add]
      · rw [if_neg c1, rn_fin (ng := ng) t (by omega) hm hg (by omega) (by omega) (by omega) (.inr (.inl c1)), if_neg (by omega)]
        simp only [Nat.mul_zero, Nat.zero_add]
  · rw [if_neg c0, rn_fin (ng := ng) t (by omega) hm hg (by omega) (by omega) (by omega) (.inr (.inl c0)), if_pos rfl]
/-- the class reads a digit -/
theorem s_dig {k l p m : Nat} {ng : Bool} {sg pn : Nat → Int32} {T : Nat → Nat} {pg : Int32} (hk : 25 ≤ k) (t : Txt sg l T) (hp : p ≤ 90) (hm : m < 4) (hg : pg = if ng = true then 1 else 0) :
    f_X3_readNumber k sg (Int32.ofNat l) (Int32.ofNat p) pn (Int32.ofNat m) pg 1 = if 48 ≤ T p ∧ T p ≤ 57 then some (1, Int32.ofNat (p + 1), upd pn m (sgv ng (T p - 48)), Int32.ofNat (m + 1)) else some (0, Int32.ofNat p, pn, Int32.ofNat m) := by
  obtain ⟨n, rfl⟩ : ∃ n, k = n + 2 := ⟨k - 2, by omega⟩
  have t0 := t.lt p
  rw [f_X3_readNumber]
  show f_X3_readNumber_b4 (n + 2) sg (Int32.ofNat l) pg (Int32.ofNat 1) (n + 1 + 1) (Int32.ofNat p) pn (Int32.ofNat m) (Int32.ofNat 0) (Int32.ofNat 0) = _
  by_cases c0 : 48 ≤ T p ∧ T p ≤ 57
  · rw [if_pos c0, rn_st t (by omega) (by omega) (by omega) (by omega) (by omega) c0 (.inl rfl), rn_fin (ng := ng) t (by omega) hm hg (by omega) (by omega) (by omega) (.inl (by omega)), if_neg (by omega)]
    simp only [Nat.mul_zero, Nat.zero_add]
  · rw [if_neg c0, rn_fin (ng := ng) t (by omega) hm hg (by omega) (by omega) (by omega) (.inr (.inl c0)), if_pos rfl]
