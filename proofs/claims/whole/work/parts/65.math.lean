/-! TEXTS: the fault -/
def ft (T : Nat → Nat) (l : Nat) : Nat → Nat → Option Nat
  | 0, e => some e
  | n + 1, e => if (rdo T e).1 = true then (if (rdo T e).2.1 = l then none else if T (rdo T e).2.1 = 59 then ft T l n ((rdo T e).2.1 + 1) else some (rdo T e).2.1) else some (rdo T e).2.1
/-- where the class stands, and where an order begins -/
def Sta (T : Nat → Nat) (p e : Nat) : Prop := (p = 0 ∧ e = 0) ∨ (0 < p ∧ T p = 59 ∧ e = p + 1)
theorem s_read {k l p e : Nat} {sg pn : Nat → Int32} {T : Nat → Nat} {pk pf pg : Int32} (t : Txt sg l T) (hp : p ≤ l) (h : Sta T p e) : f_X3_readOrder k sg (Int32.ofNat l) (Int32.ofNat p) pk pn pf pg = f_X3_readOrder_b18 k sg (Int32.ofNat l) (Int32.ofNat e) pn pf pg := by
  have hl := t.1
  rw [f_X3_readOrder]
  rcases h with ⟨rfl, rfl⟩ | ⟨h1, h2, rfl⟩
  · rw [if_pos (by decide)]
  · have tk := s_take (k := k) (c := 59) t (show p ≤ 100 by omega) (by omega)
    rw [if_neg (show ¬ Int32.ofNat p ≤ 0 from fun r => absurd ((n_le (b := 0) (by omega) (by omega)).mp r) (by omega)), show (59 : Int32) = Int32.ofNat 59 from rfl, tk, if_pos h2, zb2_some, if_neg n10]
theorem s_read_no {k l p : Nat} {sg pn : Nat → Int32} {T : Nat → Nat} {pk pf pg : Int32} (t : Txt sg l T) (hp : p ≤ l) (h0 : 0 < p) (h : T p ≠ 59) : f_X3_readOrder k sg (Int32.ofNat l) (Int32.ofNat p) pk pn pf pg = some (0, Int32.ofNat p, pk, pn, pf, pg) := by
  have hl := t.1
  have tk := s_take (k := k) (c := 59) t (show p ≤ 100 by omega) (by omega)
  rw [f_X3_readOrder, if_neg (show ¬ Int32.ofNat p ≤ 0 from fun r => absurd ((n_le (b := 0) (by omega) (by omega)).mp r) (by omega)), show (59 : Int32) = Int32.ofNat 59 from rfl, tk, if_neg h, zb2_some, if_pos rfl]
def zfa (x : Option Nat) : Int32 := match x with
  | none => -6
  | some q => Int32.ofNat q
theorem n_80 {j : Nat} (h : j < 80) : ¬ (80 : Int32) ≤ Int32.ofNat j := fun r => absurd ((n_le (a := 80) (by omega) (by omega)).mp r) (by omega)
theorem rdo_end {sg : Nat → Int32} {l e : Nat} {T : Nat → Nat} (t : Txt sg l T) (h : l ≤ e) : rdo T e = (false, e, []) := by
  unfold rdo
  rw [t.2.2 e h, if_pos (by decide)]
theorem s_ff {k l : Nat} {sg : Nat → Int32} {T : Nat → Nat} (hk : 25 ≤ k) (t : Txt sg l T) : ∀ (n e p j N : Nat) (pk : Int32) (pn : Nat → Int32) (pf pg : Int32), Sta T p e → p ≤ l → e ≤ l → l ≤ 2 * n + e → 2 * j ≤ e → n + 2 ≤ N →
    ∃ pa' pk' pn' pf' pg', f_X3_findFault_b6 k sg (Int32.ofNat l) N (Int32.ofNat p) pk pn pf pg (Int32.ofNat j) = some (zfa (ft T l n e), pa', pk', pn', pf', pg') := by
  have hl := t.1
  intro n
  induction n with
  | zero =>
    intro e p j N pk pn pf pg hs hp he h1 h2 hN
    obtain ⟨N', rfl⟩ : ∃ N', N = N' + 1 := ⟨N - 1, by omega⟩
    obtain ⟨pn', pf', pg', e1, -⟩ := s_b18 (k := k) (pn := pn) (pf := pf) (pg := pg) hk t he
    rw [rdo_end t (by omega)] at e1
    rw [f_X3_findFault_b6, if_neg (n_80 (by omega)), s_read t hp hs, e1, zb6_some, if_pos (show (if (false, e, ([] : List Int32)).1 = true then (1 : Int32) else 0) = 0 from rfl), ft]
    exact ⟨_, _, _, _, _, rfl⟩
  | succ n ih =>
    intro e p j N pk pn pf pg hs hp he h1 h2 hN
    obtain ⟨N', rfl⟩ : ∃ N', N = N' + 1 := ⟨N - 1, by omega⟩
    obtain ⟨pn', pf', pg', e1, -⟩ := s_b18 (k := k) (pn := pn) (pf := pf) (pg := pg) hk t he
    obtain ⟨c1, c2, c3⟩ := rdo_c t he
    rw [f_X3_findFault_b6, if_neg (n_80 (by omega)), s_read t hp hs, e1, zb6_some, ft]
    by_cases ok : (rdo T e).1 = true
    · obtain ⟨d1, d2, d3⟩ := c3 ok
      rw [if_pos ok, if_pos ok, if_neg n10]
      by_cases ql : (rdo T e).2.1 = l
      · rw [if_pos ql, if_pos (by rw [ql])]
        exact ⟨_, _, _, _, _, rfl⟩
      · rw [if_neg ql, if_neg (fun r => ql ((n_inj (by omega) (by omega)).mp r)), zl_e, n_suc]
        by_cases q59 : T (rdo T e).2.1 = 59
        · rw [if_pos q59]
          exact ih _ _ (j + 1) N' _ _ _ _ (.inr ⟨by omega, q59, rfl⟩) c2 (by omega) (by omega) (by omega) (by omega)
        · obtain ⟨N2, rfl⟩ : ∃ N2, N' = N2 + 1 := ⟨N' - 1, by omega⟩
          rw [if_neg q59, f_X3_findFault_b6, if_neg (n_80 (by omega)), s_read_no t c2 (by omega) q59, zb6_some, if_pos rfl]
          exact ⟨_, _, _, _, _, rfl⟩
    · rw [if_neg ok, if_neg ok, if_pos rfl]
      exact ⟨_, _, _, _, _, rfl⟩
theorem s_fault {k l : Nat} {sg pn : Nat → Int32} {T : Nat → Nat} {pa pk pf pg : Int32} (hk : 2000 ≤ k) (t : Txt sg l T) : ∃ pa' pk' pn' pf' pg', f_X3_findFault k sg (Int32.ofNat l) pa pk pn pf pg = some (zfa (ft T l 41 0), pa', pk', pn', pf', pg') := by
  have hl := t.1
  obtain ⟨pa', pk', pn', pf', pg', e⟩ := s_ff (k := k) (by omega) t 41 0 0 0 k pk pn pf pg (.inl ⟨rfl, rfl⟩) (by omega) (by omega) (by omega) (by omega) (by omega)
  exact ⟨pa', pk', pn', pf', pg', by rw [f_X3_findFault, f_X3_rewind, zl_e, zb1_some]; exact e⟩
/-! the reference's loop -/
theorem m_b81 {k l q : Nat} {pd to : Nat → Int32} {T : Nat → Nat} {p1 y0 y1 : Int32} {K : (Nat → Int32) → (Nat → Int32) → Int32 → Int32 → (Nat → Int32) → Int32 → Int32 → Option (Int32 × (Nat → Int32) × (Nat → Int32) × Int32 × Int32 × (Nat → Int32))} {ms so : Nat → Int32} (t : Txt pd l T) (hq : q ≤ l) :
    f_X8_goes_b81 k pd (Int32.ofNat l) p1 K ms so (Int32.ofNat q) 0 to 1 y0 y1 = if q = l then K ms so (Int32.ofNat q) 0 to (y1 + y0) 0 else if T q = 59 then K ms so (Int32.ofNat (q + 1)) 0 to (y1 + y0) 1 else K ms so (Int32.ofNat q) 1 to (y1 + y0) 0 := by
  have hl := t.1
  rw [f_X8_goes_b81, zl_e, if_neg n10, if_pos rfl]
  by_cases h : q = l
  · rw [if_pos ((n_le (by omega) (by omega)).mpr (by omega)), if_pos rfl, if_pos h]
  · rw [if_neg (fun r => absurd ((n_le (by omega) (by omega)).mp r) (by omega)), if_neg n10, if_neg h, m_tk (A := 59) (B := 59) (a := 59) (b := 59) t hq rfl rfl (by omega) (by omega) (.inl rfl)]
    by_cases c : T q = 59
    · rw [if_pos ⟨rfl, by omega, by omega⟩, if_pos c, zb3_some, if_pos rfl]
    · rw [if_neg (fun r => c (by omega)), if_neg c, zb3_some, if_neg n10]
theorem m_b81w {k : Nat} {pd to : Nat → Int32} {ln po p1 y0 y1 : Int32} {K : (Nat → Int32) → (Nat → Int32) → Int32 → Int32 → (Nat → Int32) → Int32 → Int32 → Option (Int32 × (Nat → Int32) × (Nat → Int32) × Int32 × Int32 × (Nat → Int32))} {ms so : Nat → Int32} :
    f_X8_goes_b81 k pd ln p1 K ms so po 1 to 1 y0 y1 = K ms so po 1 to (y1 + y0) 0 := by
  rw [f_X8_goes_b81, zl_e, if_neg n10, if_neg n10, if_pos rfl]
theorem m_b81z {k : Nat} {pd to : Nat → Int32} {ln po wr p1 y0 y1 : Int32} {K : (Nat → Int32) → (Nat → Int32) → Int32 → Int32 → (Nat → Int32) → Int32 → Int32 → Option (Int32 × (Nat → Int32) × (Nat → Int32) × Int32 × Int32 × (Nat → Int32))} {ms so : Nat → Int32} :
    f_X8_goes_b81 k pd ln p1 K ms so po wr to 0 y0 y1 = K ms so po wr to (y1 + y0) 0 := by
  rw [f_X8_goes_b81, zl_e, if_pos rfl, if_pos rfl]
theorem m_end {k N : Nat} {pd ms so to : Nat → Int32} {ln po wr p1 x : Int32} (hN : 1 ≤ N) : f_X8_goes_b14 k pd ln p1 N ms so po wr to x 0 = some (x, ms, so, po, wr, to) := by
  obtain ⟨N', rfl⟩ : ∃ N', N = N' + 1 := ⟨N - 1, by omega⟩
  rw [f_X8_goes_b14, if_pos rfl]
theorem m_ff {k l : Nat} {pd ms so : Nat → Int32} {T : Nat → Nat} (hk : 25 ≤ k) (t : Txt pd l T) : ∀ (n e N : Nat) (to : Nat → Int32) (x : Int32), e ≤ l → l ≤ 2 * n + e → n + 2 ≤ N →
    ∃ x' po' wr' to', f_X8_goes_b14 k pd (Int32.ofNat l) 0 N ms so (Int32.ofNat e) 0 to x 1 = some (x', ms, so, po', wr', to') ∧ ((ft T l n e = none ∧ wr' = 0) ∨ (∃ q, q ≤ l ∧ ft T l n e = some q ∧ wr' = 1 ∧ po' = Int32.ofNat q)) := by
  have hl := t.1
  intro n
  induction n with
  | zero =>
    intro e N to x he h1 hN
    obtain ⟨N', rfl⟩ : ∃ N', N = N' + 1 := ⟨N - 1, by omega⟩
    obtain ⟨to', r, -⟩ := m_rdo (k := k) (to := to) hk t he
    rw [rdo_end t (by omega)] at r
    rw [f_X8_goes_b14, if_neg n10, r, zb3_some, if_pos rfl, f_X8_goes_b68, if_neg n10, if_neg (show ¬ (false, e, ([] : List Int32)).1 = true from fun h => by cases h), m_b81w, m_end (by omega), ft]
    exact ⟨_, _, _, _, rfl, .inr ⟨e, he, rfl, rfl, rfl⟩⟩
  | succ n ih =>
    intro e N to x he h1 hN
    obtain ⟨N', rfl⟩ : ∃ N', N = N' + 1 := ⟨N - 1, by omega⟩
    obtain ⟨to', r, -⟩ := m_rdo (k := k) (to := to) hk t he
    obtain ⟨c1, c2, c3⟩ := rdo_c t he
    rw [f_X8_goes_b14, if_neg n10, r, zb3_some, if_pos rfl, f_X8_goes_b68, if_neg n10, ft]
    by_cases ok : (rdo T e).1 = true
    · obtain ⟨d1, d2, d3⟩ := c3 ok
      rw [if_pos ok, if_pos ok, m_b81 t c2]
      by_cases ql : (rdo T e).2.1 = l
      · rw [if_pos ql, if_pos ql, m_end (by omega)]
        exact ⟨_, _, _, _, rfl, .inl ⟨rfl, rfl⟩⟩
      · rw [if_neg ql, if_neg ql]
        by_cases q59 : T (rdo T e).2.1 = 59
        · rw [if_pos q59, if_pos q59]
          exact ih _ N' _ _ (by omega) (by omega) (by omega)
        · rw [if_neg q59, if_neg q59, m_end (by omega)]
          exact ⟨_, _, _, _, rfl, .inr ⟨_, c2, rfl, rfl, rfl⟩⟩
    · rw [if_neg ok, if_neg ok, m_b81w, m_end (by omega)]
      exact ⟨_, _, _, _, rfl, .inr ⟨_, c2, rfl, rfl, rfl⟩⟩
theorem m_goes0 {k l : Nat} {pd ms so to : Nat → Int32} {T : Nat → Nat} {po wr : Int32} (hk : 2000 ≤ k) (t : Txt pd l T) :
    ∃ x' po' wr' to', f_X8_goes k ms pd (Int32.ofNat l) so po wr to 0 = some (x', ms, so, po', wr', to') ∧ ((ft T l 41 0 = none ∧ wr' = 0) ∨ (∃ q, q ≤ l ∧ ft T l 41 0 = some q ∧ wr' = 1 ∧ po' = Int32.ofNat q)) := by
  have hl := t.1
  obtain ⟨x', po', wr', to', e, h⟩ := m_ff (k := k) (ms := ms) (so := so) (by omega) t 41 0 k to 0 (by omega) (by omega) (by omega)
  exact ⟨x', po', wr', to', by rw [f_X8_goes, zl_e, show zbo 0 = true by decide, zg_true, zl_e]; exact e, h⟩
theorem op_fault {k l : Nat} {sg pn pd ms so to : Nat → Int32} {T : Nat → Nat} {pa pk pf pg po wr : Int32} (hk : 2000 ≤ k) (t : Txt sg l T) (t' : Txt pd l T) :
    ∃ r pa' pk' pn' pf' pg' po' wr' to', f_X7_fault k sg (Int32.ofNat l) pa pk pn pf pg = some (r, pa', pk', pn', pf', pg') ∧ f_X8_fault k ms pd (Int32.ofNat l) so po wr to = some (r, ms, so, po', wr', to') := by
  obtain ⟨pa', pk', pn', pf', pg', e⟩ := s_fault (k := k) (pn := pn) (pa := pa) (pk := pk) (pf := pf) (pg := pg) hk t
  obtain ⟨x', po', wr', to', e2, h⟩ := m_goes0 (k := k) (ms := ms) (so := so) (to := to) (po := po) (wr := wr) hk t'
  refine ⟨_, pa', pk', pn', pf', pg', po', wr', to', by rw [f_X7_fault, e, zb6_some], ?_⟩
  rw [f_X8_fault, e2, zb6_some]
  rcases h with ⟨h1, h2⟩ | ⟨q, -, h1, h2, h3⟩
  · rw [if_pos h2, h1]; rfl
  · rw [if_neg (by rw [h2]; exact n10), h1, h3]; rfl
