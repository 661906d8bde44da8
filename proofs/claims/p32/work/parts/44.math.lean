/-! CALLS: what was is noted, and undone -/
/-- a change: its answer, the states, the row that was noted -/
def Cg (f : Nat → Int32) (g : Nat → Nat → Int32) (n h t : Nat) (x : Option (Int32 × (Nat → Int32) × (Nat → Nat → Int32) × Int32 × Int32)) : Prop :=
  ∃ r f' g' n' h' B O, x = some (r, f', g', Int32.ofNat n', Int32.ofNat h') ∧ n' < 7 ∧ h' ≤ 6 ∧ Inv f' (t + 1) B O ∧ h' = if r < 0 then h else if h = 6 then 6 else h + 1
theorem cg_of {k n h t : Nat} {f : Nat → Int32} {g : Nat → Nat → Int32} {x : Option (Int32 × (Nat → Int32))} (hn : n < 7) (hh : h ≤ 6) (hx : Rs t x) : Cg f g n h t (zb1 (f_X2_note k f g (Int32.ofNat n)) fun g1 => zb2 x fun v2 f3 => zb3 (f_X2_settle k (Int32.ofNat n) (Int32.ofNat h) v2) fun v4 nx5 hz6 => some (v4, f3, g1, nx5, hz6)) := by
  obtain ⟨r, f', B, O, rfl, R⟩ := hx
  rw [s_note hn, zb1_some, zb2_some]
  by_cases q : r < 0
  · rw [s_settle_no q, zb3_some]
    exact ⟨r, f', _, n, h, B, O, rfl, hn, hh, R, by rw [if_pos q]⟩
  · rw [s_settle hn hh q, zb3_some]
    refine ⟨r, f', _, (n + 1) % 7, _, B, O, rfl, by omega, ?_, R, by rw [if_neg q]⟩
    split <;> omega
/-- a change that is made, as it is -/
theorem cg_yes {k n h : Nat} {f f' : Nat → Int32} {g : Nat → Nat → Int32} {r : Int32} {x : Option (Int32 × (Nat → Int32))} (hn : n < 7) (hh : h ≤ 6) (hx : x = some (r, f')) (hr : ¬ r < 0) : (zb1 (f_X2_note k f g (Int32.ofNat n)) fun g1 => zb2 x fun v2 f3 => zb3 (f_X2_settle k (Int32.ofNat n) (Int32.ofNat h) v2) fun v4 nx5 hz6 => some (v4, f3, g1, nx5, hz6)) = some (r, f', ring f g n, Int32.ofNat ((n + 1) % 7), Int32.ofNat (if h = 6 then 6 else h + 1)) := by
  rw [hx, s_note hn, zb1_some, zb2_some, s_settle hn hh hr, zb3_some]
theorem cg_no {k n h : Nat} {f f' : Nat → Int32} {g : Nat → Nat → Int32} {r : Int32} {x : Option (Int32 × (Nat → Int32))} (hn : n < 7) (hx : x = some (r, f')) (hr : r < 0) : (zb1 (f_X2_note k f g (Int32.ofNat n)) fun g1 => zb2 x fun v2 f3 => zb3 (f_X2_settle k (Int32.ofNat n) (Int32.ofNat h) v2) fun v4 nx5 hz6 => some (v4, f3, g1, nx5, hz6)) = some (r, f', ring f g n, Int32.ofNat n, Int32.ofNat h) := by
  rw [hx, s_note hn, zb1_some, zb2_some, s_settle_no hr, zb3_some]
/-- and undone at once -/
theorem un_ok {k n h : Nat} {f f' : Nat → Int32} {g : Nat → Nat → Int32} (hn : n < 7) (hh : h ≤ 6) : ∃ f2 h2, f_X7_undo k f' (ring f g n) (Int32.ofNat ((n + 1) % 7)) (Int32.ofNat (if h = 6 then 6 else h + 1)) = some (Int32.ofNat h2, f2, Int32.ofNat n, Int32.ofNat h2) ∧ h2 ≤ 6 ∧ ∀ i, i < 344 → f2 i = f i := by
  obtain ⟨h', e⟩ : ∃ h', (if h = 6 then 6 else h + 1) = h' + 1 := by
    by_cases q : h = 6
    · exact ⟨5, by rw [if_pos q]⟩
    · exact ⟨h, by rw [if_neg q]⟩
  have l6 : h' + 1 ≤ 6 := by rw [← e]; split <;> omega
  rw [e]
  have nq : ¬ Int32.ofNat (h' + 1) = 0 := fun t => absurd ((n_inj (b := 0) (by omega) (by omega)).mp t) (by omega)
  have ep : Int32.ofNat (h' + 1) - 1 = Int32.ofNat h' := n_sub (a := h' + 1) (b := 1) (by omega)
  have b29 : ∀ y, y < 7 → f_X2_goBack_b29 k f' (ring f g n) (Int32.ofNat (h' + 1)) (Int32.ofNat y) = some (Int32.ofNat h', va_cpy (ring f g n y) f' 0 0 344, Int32.ofNat y, Int32.ofNat h') := fun y hy => by
    rw [f_X2_goBack_b29, zl_e, zl_e, ep, m_g hy (by omega), n_nat (by omega)]
  have e1 : f_X2_goBack k f' (ring f g n) (Int32.ofNat ((n + 1) % 7)) (Int32.ofNat (h' + 1)) = some (Int32.ofNat h', va_cpy (ring f g n n) f' 0 0 344, Int32.ofNat n, Int32.ofNat h') := by
    rw [f_X2_goBack, if_neg nq]
    by_cases c : n = 6
    · subst c
      rw [if_pos (by decide)]
      exact b29 6 (by omega)
    · rw [show (n + 1) % 7 = n + 1 by omega, if_neg (show ¬ Int32.ofNat (n + 1) ≤ 0 from fun t => absurd ((n_le (b := 0) (by omega) (by omega)).mp t) (by omega)), zl_e, show Int32.ofNat (n + 1) - 1 = Int32.ofNat n from n_sub (a := n + 1) (b := 1) (by omega), b29 _ (by omega)]
  refine ⟨_, h', by rw [f_X7_undo, e1, zb4_some], by omega, fun i hi => ?_⟩
  rw [cpy_e hi]
  unfold ring
  rw [if_pos rfl, cpy_e hi]
theorem un_0 {k n : Nat} {f : Nat → Int32} {g : Nat → Nat → Int32} : f_X7_undo k f g (Int32.ofNat n) 0 = some (-5, f, Int32.ofNat n, 0) := by
  rw [f_X7_undo, f_X2_goBack, if_pos rfl]
  rfl
theorem zb5_eta {α β γ δ ε : Type} (o : Option (α × β × γ × δ × ε)) : zb5 o (fun a b c d e => some (a, b, c, d, e)) = o := by
  cases o with
  | none => rfl
  | some q => rfl
theorem low_ok {k : Nat} {p1 p2 : Int32} (h : ¬ p2 = 0) : ∃ v, f_L_low k p1 p2 = some v := by
  rw [f_L_low]
  simp only [zl_e]
  rw [show znz p2 = true from decide_eq_true h, zg_true]
  exact ⟨_, rfl⟩
theorem o_of_any {k B O w : Nat} {f : Nat → Int32} (c : CI f B O) (p : Int32) (hw : w < 11) : ∃ r, f_X7_of k f p (Int32.ofNat w) = some r := by
  rcases h_blk c k p with ⟨b, b1, rfl, e⟩ | ⟨-, e⟩
  · exact ⟨_, o_of c b1 hw⟩
  · refine ⟨-1, ?_⟩
    rw [f_X7_of, e]
    rfl
theorem cg_if {f : Nat → Int32} {g : Nat → Nat → Int32} {n h t : Nat} {A : Prop} [Decidable A] {x y : Option (Int32 × (Nat → Int32) × (Nat → Nat → Int32) × Int32 × Int32)} (hx : A → Cg f g n h t x) (hy : ¬ A → Cg f g n h t y) : Cg f g n h t (if A then x else y) := by
  by_cases q : A
  · rw [if_pos q]; exact hx q
  · rw [if_neg q]; exact hy q
theorem l_change {k n h t B O : Nat} {f : Nat → Int32} {g : Nat → Nat → Int32} {pl p2 p3 p4 : Int32} (R : Inv f t B O) (hk : 100 ≤ k) (hn : n < 7) (hh : h ≤ 6) : Cg f g n h t (f_L_change k f g (Int32.ofNat n) (Int32.ofNat h) pl p2 p3 p4) := by
  have hB := R.c.hB
  have hO := R.c.hO
  have nB : ¬ Int32.ofNat (B + 1) = 0 := fun q => absurd ((n_inj (b := 0) (by omega) (by omega)).mp q) (by omega)
  have nO : ¬ Int32.ofNat (O + 1) = 0 := fun q => absurd ((n_inj (b := 0) (by omega) (by omega)).mp q) (by omega)
  have c1 : ∀ a b, Cg f g n h t (f_X7_set k f g (Int32.ofNat n) (Int32.ofNat h) a b) := fun a b => cg_of hn hh (st_set R a b)
  have c2 : ∀ a b c d, Cg f g n h t (f_X7_quarry k f g (Int32.ofNat n) (Int32.ofNat h) a b c d) := fun a b c d => cg_of hn hh (st_quarry R a b c d)
  have c3 : ∀ a b c, Cg f g n h t (f_X7_cut k f g (Int32.ofNat n) (Int32.ofNat h) a b c) := fun a b c => cg_of hn hh (st_cut R (by omega) a b c)
  have c4 : ∀ a, Cg f g n h t (f_X7_shelter k f g (Int32.ofNat n) (Int32.ofNat h) a) := fun a => cg_of hn hh (st_shelter R (by omega) a)
  have c5 : ∀ a b c, Cg f g n h t (f_X7_order k f g (Int32.ofNat n) (Int32.ofNat h) a b c) := fun a b c => cg_of hn hh (st_order R a b c)
  have c6 : ∀ a b, Cg f g n h t (f_X7_give k f g (Int32.ofNat n) (Int32.ofNat h) a b) := fun a b => cg_of hn hh (st_give R a b)
  have c7 : ∀ a, Cg f g n h t (f_X7_takeBack k f g (Int32.ofNat n) (Int32.ofNat h) a) := fun a => cg_of hn hh (st_take R a)
  have c8 : ∀ a b c d, Cg f g n h t (f_X7_limits k f g (Int32.ofNat n) (Int32.ofNat h) a b c d) := fun a b c d => cg_of hn hh (st_limits R a b c d)
  have c9 : ∀ a b c, Cg f g n h t (f_X7_load k f g (Int32.ofNat n) (Int32.ofNat h) a b c) := fun a b c => cg_of hn hh (st_load R (by omega) a b c)
  have c10 : ∀ a, Cg f g n h t (f_X7_unload k f g (Int32.ofNat n) (Int32.ofNat h) a) := fun a => cg_of hn hh (st_unload R (by omega) a)
  have c11 : ∀ a, Cg f g n h t (f_X7_leave k f g (Int32.ofNat n) (Int32.ofNat h) a) := fun a => cg_of hn hh (st_leave R (by omega) a (fun l hl => ⟨_, s_why R (by omega) hl⟩))
  have c12 : ∀ a, Cg f g n h t (f_X7_night k f g (Int32.ofNat n) (Int32.ofNat h) a) := fun a => cg_of hn hh (st_night R (by omega) a)
  have lw : ∀ (p : Int32) (m : Int32), ¬ m = 0 → ∃ v, f_L_low k p m = some v := fun p m hm => low_ok hm
  rw [f_L_change, o_c1 R.c, zb1_some, zl_e, n_suc]
  obtain ⟨v3, e3⟩ := lw p3 _ nB
  rw [e3, zb1_some, zl_e, o_c2 R.c, zb1_some, zl_e, n_suc]
  obtain ⟨v7, e7⟩ := lw (p3 >>> (5 &&& 31)) _ nO
  rw [e7, zb1_some]
  have b124 : Cg f g n h t (f_L_change_b124 k pl p2 p3 p4 f g (Int32.ofNat n) (Int32.ofNat h)) := by
    rw [f_L_change_b124]
    obtain ⟨a, ea⟩ := lw p3 120 (by decide)
    obtain ⟨b, eb⟩ := lw (p3 >>> (7 &&& 31)) 90 (by decide)
    obtain ⟨c, ec⟩ := lw p4 60 (by decide)
    obtain ⟨d, ed⟩ := lw (p4 >>> (8 &&& 31)) 12 (by decide)
    simp only [zl_e, ea, eb, ec, ed, zb1_some, zb5_eta]
    exact c2 _ _ _ _
  have b171 : Cg f g n h t (f_L_change_b171 k pl p2 p3 p4 f g (Int32.ofNat n) (Int32.ofNat h) v3) := by
    rw [f_L_change_b171]
    obtain ⟨a, ea⟩ := lw p4 3 (by decide)
    obtain ⟨b, eb⟩ := lw (p4 >>> (2 &&& 31)) 120 (by decide)
    simp only [zl_e, ea, eb, zb1_some, zb5_eta]
    exact c3 _ _ _
  have b193 : Cg f g n h t (f_L_change_b193 k pl p2 p3 p4 f g (Int32.ofNat n) (Int32.ofNat h) v3) := by
    rw [f_L_change_b193, zb5_eta]
    exact c4 _
  have b293 : Cg f g n h t (f_L_change_b293 k pl p2 p3 p4 f g (Int32.ofNat n) (Int32.ofNat h) v7) := by
    rw [f_L_change_b293, o_c1 R.c, zb1_some, zl_e, n_suc]
    obtain ⟨a, ea⟩ := lw p4 _ nB
    simp only [ea, zb1_some, zb5_eta]
    exact c6 _ _
  have b363 : Cg f g n h t (f_L_change_b363 k pl p2 p3 p4 f g (Int32.ofNat n) (Int32.ofNat h) v3) := by
    rw [f_L_change_b363]
    obtain ⟨a, ea⟩ := lw p4 3 (by decide)
    obtain ⟨b, eb⟩ := lw (p4 >>> (4 &&& 31)) 6 (by decide)
    simp only [zl_e, ea, eb, zb1_some, zb5_eta]
    exact c9 _ _ _
  have b400 : Cg f g n h t (f_L_change_b400 k pl p2 p3 p4 f g (Int32.ofNat n) (Int32.ofNat h)) := by
    rw [f_L_change_b400]
    obtain ⟨a, ea⟩ := lw p3 82 (by decide)
    simp only [zl_e, ea, zb1_some, zb5_eta]
    exact c12 _
  refine cg_if (fun _ => ?_) (fun _ => ?_)
  · exact b124
  refine cg_if (fun _ => ?_) (fun _ => ?_)
  · exact b124
  refine cg_if (fun _ => ?_) (fun _ => ?_)
  · exact b124
  refine cg_if (fun _ => ?_) (fun _ => ?_)
  · exact b171
  refine cg_if (fun _ => ?_) (fun _ => ?_)
  · exact b171
  refine cg_if (fun _ => ?_) (fun _ => ?_)
  · exact b171
  refine cg_if (fun _ => ?_) (fun _ => ?_)
  · exact b193
  refine cg_if (fun _ => ?_) (fun _ => ?_)
  · exact b193
  refine cg_if (fun _ => ?_) (fun _ => ?_)
  · obtain ⟨a, ea⟩ := lw p3 60 (by decide)
    obtain ⟨b, eb⟩ := lw (p3 >>> (8 &&& 31)) 60 (by decide)
    obtain ⟨c, ec⟩ := lw p4 40 (by decide)
    simp only [zl_e, ea, eb, ec, zb1_some, zb5_eta]
    exact c5 _ _ _
  refine cg_if (fun _ => ?_) (fun _ => ?_)
  · rw [zb1_some]
    refine cg_if (fun _ => ?_) (fun _ => ?_)
    · rw [zb5_eta]
      exact c5 _ _ _
    · obtain ⟨a, ea⟩ := o_of_any (k := k) (w := 1) R.c v3 (by decide)
      obtain ⟨b, eb⟩ := o_of_any (k := k) (w := 0) R.c v3 (by decide)
      obtain ⟨c, ec⟩ := o_of_any (k := k) (w := 2) R.c v3 (by decide)
      have ea : f_X7_of k f v3 1 = some a := ea
      have eb : f_X7_of k f v3 0 = some b := eb
      have ec : f_X7_of k f v3 2 = some c := ec
      simp only [zl_e, ea, eb, ec, zb1_some, zb5_eta]
      exact c5 _ _ _
  refine cg_if (fun _ => ?_) (fun _ => ?_)
  · exact b293
  refine cg_if (fun _ => ?_) (fun _ => ?_)
  · exact b293
  refine cg_if (fun _ => ?_) (fun _ => ?_)
  · rw [zb5_eta]
    exact c7 _
  refine cg_if (fun _ => ?_) (fun _ => ?_)
  · obtain ⟨a, ea⟩ := lw p3 4 (by decide)
    obtain ⟨b, eb⟩ := lw (p3 >>> (3 &&& 31)) 20000 (by decide)
    obtain ⟨c, ec⟩ := lw p4 20000 (by decide)
    obtain ⟨d, ed⟩ := lw (p4 >>> (8 &&& 31)) 30000 (by decide)
    simp only [zl_e, ea, eb, ec, ed, zb1_some, zb5_eta]
    exact c8 _ _ _ _
  refine cg_if (fun _ => ?_) (fun _ => ?_)
  · exact b363
  refine cg_if (fun _ => ?_) (fun _ => ?_)
  · exact b363
  refine cg_if (fun _ => ?_) (fun _ => ?_)
  · rw [zb5_eta]
    exact c10 _
  refine cg_if (fun _ => ?_) (fun _ => ?_)
  · obtain ⟨a, ea⟩ := lw p3 4 (by decide)
    simp only [ea, zb1_some, zb5_eta]
    exact c11 _
  refine cg_if (fun _ => ?_) (fun _ => ?_)
  · exact b400
  refine cg_if (fun _ => ?_) (fun _ => ?_)
  · exact b400
  · obtain ⟨a, ea⟩ := lw p3 5 (by decide)
    obtain ⟨b, eb⟩ := lw p4 36 (by decide)
    simp only [zl_e, ea, eb, zb1_some, zb5_eta]
    exact c1 _ _
