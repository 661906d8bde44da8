/-! TEXTS: appending -/
def pst (x : Int64) (k : Nat) (many bad : Int32) : Prop := ∃ m, m ≤ k ∧ many = Int32.ofNat m ∧ (bad = 0 ∨ bad = 1) ∧ (∀ j, j < m → ¬ zE x j) ∧ (m = k ∨ zE x m) ∧ (bad = 0 ↔ ∀ j, j < m → chI x j)
theorem put_loop {k : Nat} {x : Int64} {pd : Nat → Int32} {ln : Int32} : ∀ n j many bad, j ≤ 8 → 8 - j < n → pst x j many bad → ∃ many' bad', pst x 8 many' bad' ∧ f_X8_put_b8 k x n pd ln many bad (Int32.ofNat j) = if bad' = 0 then (if ln + many' ≤ (80 : Int32) then f_X8_put_b126 k x k pd ln many' 0 else some (-4, pd, ln)) else some (-2, pd, ln) := by
  intro n
  induction n with
  | zero => intro j _ _ _ h; omega
  | succ n ih =>
    intro j many bad hj hn hp
    by_cases c : j = 8
    · subst c
      refine ⟨many, bad, hp, ?_⟩
      rw [f_X8_put_b8, if_pos (by decide), zl_e]
    · obtain ⟨m, m1, m2, m3, m4, m5, m6⟩ := hp
      obtain ⟨s1, s2⟩ := put_st (k := k) (n := n) (x := x) (pd := pd) (ln := ln) (many := many) (bad := bad) (show j < 8 by omega) m3
      by_cases e : zE x j
      · rw [s1 e]
        refine ih (j + 1) many bad (by omega) (by omega) ⟨m, by omega, m2, m3, m4, .inr ?_, m6⟩
        rcases m5 with q | q
        · rw [q]; exact e
        · exact q
      · have mj : m = j := by
          rcases m5 with q | q
          · exact q
          · exact absurd ⟨by have := q.1; omega, zhi_mono m1 q.2⟩ e
        subst mj
        obtain ⟨t1, t2⟩ := s2 e
        have m4' : ∀ i, i < m + 1 → ¬ zE x i := fun i hi => by
          by_cases q : i = m
          · rw [q]; exact e
          · exact m4 i (by omega)
        by_cases hc : chI x m
        · rw [t1 hc]
          refine ih (m + 1) (many + 1) bad (by omega) (by omega) ⟨m + 1, by omega, by rw [m2, n_suc], m3, m4', .inl rfl, ?_⟩
          rw [m6]
          constructor
          · intro a i hi
            by_cases q : i = m
            · rw [q]; exact hc
            · exact a i (by omega)
          · intro a i hi
            exact a i (by omega)
        · rw [t2 hc]
          refine ih (m + 1) (many + 1) 1 (by omega) (by omega) ⟨m + 1, by omega, by rw [m2, n_suc], .inr rfl, m4', .inl rfl, ?_⟩
          constructor
          · intro r; exact absurd r n10
          · intro a; exact absurd (a m (by omega)) hc
theorem good_one {x : Int64} {m m' : Nat} (h : Good x m) (h' : Good x m') : m = m' := by
  obtain ⟨a1, a2, a3, a4⟩ := h
  obtain ⟨b1, b2, b3, b4⟩ := h'
  have lt : ∀ m m', m' ≤ 8 → (m = 8 ∨ zhi x m = 0) → (∀ j, j < m' → chI x j) → ¬ m < m' := fun m m' h8 h4 h3 hlt => by
    have := h3 m hlt
    rcases h4 with r | r
    · omega
    · have z := zch_hi r
      unfold chI at this
      omega
  have h1 := lt m m' b2 a4 b3
  have h2 := lt m' m a2 b4 a3
  omega
theorem m_put {k : Nat} {x : Int64} {pd : Nat → Int32} {ln : Int32} (hk : 25 ≤ k) : (∃ m, Good x m ∧ f_X8_put k pd ln x = if ln + Int32.ofNat m ≤ (80 : Int32) then f_X8_put_b126 k x k pd ln (Int32.ofNat m) 0 else some (-4, pd, ln)) ∨ ((∀ m, ¬ Good x m) ∧ f_X8_put k pd ln x = some (-2, pd, ln)) := by
  obtain ⟨many', bad', ⟨m, m1, m2, m3, m4, m5, m6⟩, e⟩ := put_loop (k := k) (x := x) (pd := pd) (ln := ln) k 0 0 0 (by omega) (by omega) ⟨0, by omega, rfl, .inl rfl, fun j hj => by omega, .inl rfl, ⟨fun _ j hj => by omega, fun _ => rfl⟩⟩
  have e : f_X8_put k pd ln x = _ := e
  by_cases b : bad' = 0
  · rw [if_pos b, m2] at e
    refine .inl ⟨m, ⟨?_, m1, m6.mp b, ?_⟩, e⟩
    · rcases m5 with q | q
      · omega
      · exact q.1
    · rcases m5 with q | q
      · exact .inl q
      · exact .inr q.2
  · rw [if_neg b] at e
    refine .inr ⟨fun m' g => b (m6.mpr (fun j hj => ?_)), e⟩
    obtain ⟨g1, g2, g3, g4⟩ := g
    refine g3 j ?_
    by_cases c : m ≤ m'
    · omega
    · rcases g4 with r | r
      · omega
      · exact absurd ⟨by omega, r⟩ (m4 m' (by omega))
/-! the signs go onto the pad -/
def zTp (T : Nat → Nat) (l m : Nat) (x : Int64) : Nat → Nat := fun p => if p < l then T p else if p < l + m then zch x (l + m - 1 - p) else 0
theorem chr_n : ∀ c, c < 256 → vp_nar .char ((Int32.ofNat c).toUInt32 % 65536).toInt32 = Int32.ofNat c := by decide +kernel
theorem app_b92 {k l m : Nat} {x : Int64} (hm : m ≤ 8) (hl : l + m ≤ 80) : ∀ n i (sg : Nat → Int32), i ≤ m → i < n → ∃ s1, f_X3_append_b92 k x n sg (Int32.ofNat (l + m - i)) (Int32.ofNat i - 1) = some (Int32.ofNat (l + m), s1, Int32.ofNat (l + m)) ∧ (∀ p, p < l + m - i → s1 p = sg p) ∧ ∀ p, l + m - i ≤ p → p < l + m → s1 p = Int32.ofNat (zch x (l + m - 1 - p)) := by
  intro n
  induction n with
  | zero => intro i _ _ h; omega
  | succ n ih =>
    intro i sg hi hn
    rw [f_X3_append_b92]
    by_cases c : i = 0
    · subst c
      rw [if_pos (by decide)]
      exact ⟨sg, rfl, fun _ _ => rfl, fun p p1 p2 => by omega⟩
    · have ei : Int32.ofNat i - 1 = Int32.ofNat (i - 1) := n_sub (b := 1) (by omega)
      have cl : zch x (i - 1) < 256 := Nat.mod_lt _ (by omega)
      rw [ei, if_neg (n_lt0 (by omega)), if_neg (n_80 (by omega)), s_code (by omega), zb1_some, zl_e, m_wr (by omega) (by omega), zl_e, zl_e, zl_e, n_suc, chr_n _ cl]
      obtain ⟨s1, e, lo, up⟩ := ih (i - 1) (upd sg (l + m - i) (Int32.ofNat (zch x (i - 1)))) (by omega) (by omega)
      refine ⟨s1, ?_, fun p hp => ?_, fun p p1 p2 => ?_⟩
      · rw [show l + m - i + 1 = l + m - (i - 1) by omega, ← Int32.sub_eq_add_neg]
        exact e
      · rw [lo p (by omega), upd_ne (by omega)]
      · by_cases q : p = l + m - i
        · subst q
          rw [lo _ (by omega), upd_at, show l + m - 1 - (l + m - i) = i - 1 by omega]
        · exact up p (by omega) p2
theorem put_b126 {k l m : Nat} {x : Int64} (hm : m ≤ 8) (hl : l + m ≤ 80) : ∀ n i (pd : Nat → Int32), i ≤ m → m - i < n → ∃ s1, f_X8_put_b126 k x n pd (Int32.ofNat l) (Int32.ofNat m) (Int32.ofNat i) = some (Int32.ofNat (l + m), s1, Int32.ofNat (l + m)) ∧ (∀ p, p < l → s1 p = pd p) ∧ (∀ p, l + m - i ≤ p → s1 p = pd p) ∧ ∀ p, l ≤ p → p < l + m - i → s1 p = Int32.ofNat (zch x (l + m - 1 - p)) := by
  intro n
  induction n with
  | zero => intro i _ _ h; omega
  | succ n ih =>
    intro i pd hi hn
    rw [f_X8_put_b126]
    by_cases c : i = m
    · subst c
      rw [if_pos ((n_le (by omega) (by omega)).mpr (Nat.le_refl _)), zl_e, zl_e, n_add]
      exact ⟨pd, rfl, fun _ _ => rfl, fun _ _ => rfl, fun p p1 p2 => by omega⟩
    · have cl : zch x i < 256 := Nat.mod_lt _ (by omega)
      have e6 : Int32.ofNat l + Int32.ofNat m - 1 - Int32.ofNat i = Int32.ofNat (l + m - 1 - i) := by
        rw [n_add, show Int32.ofNat (l + m) - 1 = Int32.ofNat (l + m - 1) from n_sub (b := 1) (by omega), n_sub (by omega)]
      rw [if_neg (fun r => absurd ((n_le (by omega) (by omega)).mp r) (by omega)), zl_e, zl_e, zl_e, e6, zl_e, zl_e, zl_e, zl_e, low_8, sh_n (by omega), m_wr (by omega) (by omega), zl_e, n_suc]
      obtain ⟨s1, e, lo, hi', up⟩ := ih (i + 1) (upd pd (l + m - 1 - i) (Int32.ofNat (zhi x i % 256))) (by omega) (by omega)
      refine ⟨s1, e, fun p hp => ?_, fun p hp => ?_, fun p p1 p2 => ?_⟩
      · rw [lo p hp, upd_ne (by omega)]
      · rw [hi' p (by omega), upd_ne (by omega)]
      · by_cases q : p = l + m - 1 - i
        · subst q
          rw [hi' _ (by omega), upd_at, show l + m - 1 - (l + m - 1 - i) = i by omega]
          rfl
        · exact up p p1 (by omega)
theorem txt_put {l m : Nat} {x : Int64} {sg s1 : Nat → Int32} {T : Nat → Nat} (t : Txt sg l T) (g : Good x m) (hl : l + m ≤ 80) (lo : ∀ p, p < l → s1 p = sg p) (up : ∀ p, l ≤ p → p < l + m → s1 p = Int32.ofNat (zch x (l + m - 1 - p))) : Txt s1 (l + m) (zTp T l m x) := by
  refine ⟨hl, fun p hp => ?_, fun p hp => ?_⟩
  · unfold zTp
    by_cases c : p < l
    · rw [if_pos c, lo p c]; exact t.2.1 p c
    · rw [if_neg c, if_pos hp, up p (by omega) hp]
      exact ⟨rfl, g.2.2.1 _ (by omega)⟩
  · unfold zTp
    rw [if_neg (by omega), if_neg (by omega)]
theorem op_put {k l : Nat} {sg pd : Nat → Int32} {T : Nat → Nat} (hk : 2000 ≤ k) (t : Txt sg l T) (t' : Txt pd l T) (x : Int64) :
    ∃ r s1 p1 l1 T1, f_X7_put k sg (Int32.ofNat l) x = some (r, s1, Int32.ofNat l1) ∧ f_X8_put k pd (Int32.ofNat l) x = some (r, p1, Int32.ofNat l1) ∧ Txt s1 l1 T1 ∧ Txt p1 l1 T1 := by
  have hl := t.1
  have a := app_loop (k := k) (x := x) (sg := sg) (pl := Int32.ofNat l) k 0 (by omega) (by omega) (fun j hj => by omega)
  have b := m_put (k := k) (x := x) (pd := pd) (ln := Int32.ofNat l) (by omega)
  have e0 : f_X3_append k sg (Int32.ofNat l) x = f_X3_append_b2 k x k sg (Int32.ofNat l) (Int32.ofNat 0) := rfl
  rcases a with ⟨m, g, a⟩ | ⟨no, a⟩
  · rcases b with ⟨m', g', b⟩ | ⟨no', b⟩
    · have em := good_one g' g
      subst em
      have g8 := g.2.1
      rw [n_add] at b
      by_cases c : l + m' ≤ 80
      · rw [if_pos (show Int32.ofNat (l + m') ≤ 80 from (n_le (b := 80) (by omega) (by omega)).mpr c)] at b
        obtain ⟨s1, e1, lo1, up1⟩ := app_b92 (k := k) (l := l) (m := m') (x := x) g8 c k m' sg (Nat.le_refl _) (by omega)
        obtain ⟨p1, e2, lo2, -, up2⟩ := put_b126 (k := k) (l := l) (m := m') (x := x) g8 c k 0 pd (by omega) (by omega)
        rw [show l + m' - m' = l by omega] at e1
        refine ⟨_, s1, p1, l + m', zTp T l m' x, ?_, b.trans e2, txt_put t g c (fun p hp => lo1 p (by omega)) (fun p q1 q2 => up1 p (by omega) q2), txt_put t' g c lo2 (fun p q1 q2 => up2 p q1 (by omega))⟩
        rw [f_X7_put, e0, a, f_X3_append_b70, zl_e, n_add, if_pos (show Int32.ofNat (l + m') ≤ 80 from (n_le (b := 80) (by omega) (by omega)).mpr c), zl_e, e1, zb3_some]
      · rw [if_neg (show ¬ Int32.ofNat (l + m') ≤ 80 from fun r => c ((n_le (b := 80) (by omega) (by omega)).mp r))] at b
        refine ⟨-4, sg, pd, l, T, ?_, b, t, t'⟩
        rw [f_X7_put, e0, a, f_X3_append_b70, zl_e, n_add, if_neg (show ¬ Int32.ofNat (l + m') ≤ 80 from fun r => c ((n_le (b := 80) (by omega) (by omega)).mp r)), zb3_some]
    · exact absurd g (no' m)
  · rcases b with ⟨m', g', b⟩ | ⟨no', b⟩
    · exact absurd g' (no m')
    · exact ⟨-2, sg, pd, l, T, by rw [f_X7_put, e0, a, zb3_some], b, t, t'⟩
