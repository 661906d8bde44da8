/-! THE START: what the tables and the Statement say, in my shapes (wip/p32/start/gen_start.py) -/
theorem zT_l {w : Cond} (h : w ∈ zT) : w ∈ lw_tbl := (List.mem_filter.mp h).1
theorem zao_spec {args : Array Value} {s : State} {t : FieldType} (h : (Cond.arrayOver (.array t)).before args s = true) : ∃ c, s.vm.findClass ("[" ++ (FieldType.array t).toString) = some c ∧ ArrOfT s c (.array t) := by
  simp only [Cond.before, Cond.holds, Cond.value, beq_iff_eq] at h
  cases hc : s.vm.findClass (FieldType.array t).toString with
  | none => rw [hc] at h; cases h
  | some comp =>
    simp only [hc, Option.bind_some] at h
    obtain ⟨c, -, h⟩ := Option.bind_eq_some_iff.mp h
    obtain ⟨k, hk, h⟩ := Option.map_eq_some_iff.mp h
    cases hkind : k.kind with
    | array component ty =>
      simp only [hkind, Bool.and_eq_true, decide_eq_true_eq] at h
      obtain ⟨rfl, h2⟩ := h
      exact ⟨c, h2, fun n z => ⟨fun j e => (by cases e), k, hk, component, hkind⟩⟩
    | _ => simp [hkind] at h
theorem zac_spec {args : Array Value} {s : State} {t : FieldType} (h : (Cond.arrayClass t).before args s = true) : ∃ c, s.vm.findClass ("[" ++ t.toString) = some c ∧ ArrOfT s c t := by
  obtain ⟨c, k, comp, h1, h2, h3⟩ := Cond.arrayClass_spec h
  exact ⟨c, h1, fun n z => ⟨fun j e => (by cases e), k, h2, comp, h3⟩⟩
set_option maxRecDepth 100000 in
theorem zK_of {args : Array Value} {s : State} (hts : ∀ w ∈ lw_tbl, w.before args s = true) : ∃ (D : va_G) (ct : Nat → Nat), zK D (zTys ct) s := by
  obtain ⟨c1, i1, k1⟩ := u_known (C := RX1) (T := TX1) (N := 1) (n := 1) hts (fun w h => zT_l (zin_X1 w h)) (hts _ (zT_l tw49))
  obtain ⟨c2, i2, k2⟩ := u_known (C := RX2) (T := TX2) (N := 3) (n := 3) hts (fun w h => zT_l (zin_X2 w h)) (hts _ (zT_l tw72))
  obtain ⟨c3, i3, k3⟩ := u_known (C := RX3) (T := TX3) (N := 7) (n := 7) hts (fun w h => zT_l (zin_X3 w h)) (hts _ (zT_l tw105))
  obtain ⟨c4, i4, k4⟩ := u_known (C := RX4) (T := TX4) (N := 2) (n := 2) hts (fun w h => zT_l (zin_X4 w h)) (hts _ (zT_l tw90))
  obtain ⟨c5, i5, k5⟩ := u_known (C := RX5) (T := TX5) (N := 1) (n := 1) hts (fun w h => zT_l (zin_X5 w h)) (hts _ (zT_l tw30))
  obtain ⟨c6, i6, k6⟩ := u_known (C := RX6) (T := TX6) (N := 2) (n := 2) hts (fun w h => zT_l (zin_X6 w h)) (hts _ (zT_l tw59))
  obtain ⟨c7, i7, k7⟩ := u_known (C := RX7) (T := TX7) (N := 6) (n := 6) hts (fun w h => zT_l (zin_X7 w h)) (hts _ (zT_l tw22))
  obtain ⟨t0, f0, a0⟩ := zac_spec (hts _ (zT_l tw47))
  obtain ⟨t1, f1, a1⟩ := zac_spec (hts _ (zT_l tw132))
  obtain ⟨t2, f2, a2⟩ := zac_spec (hts _ (zT_l tw103))
  obtain ⟨t3, f3, a3⟩ := zao_spec (hts _ tw78)
  refine ⟨(fun k => match k with | 0 => c1 | 1 => c2 | 2 => c3 | 3 => c4 | 4 => c5 | 5 => c6 | _ => c7, fun k => match k with | 0 => i1 | 1 => i2 | 2 => i3 | 3 => i4 | 4 => i5 | 5 => i6 | _ => i7), fun k => match k with | 0 => t0 | 1 => t1 | 2 => t2 | _ => t3, ⟨fun c q hq => ?_, fun c q hq => ?_⟩, zNw.of hts⟩
  · match c, hq with
    | 0, hq => cases hq; exact k1
    | 1, hq => cases hq; exact k2
    | 2, hq => cases hq; exact k3
    | 3, hq => cases hq; exact k4
    | 4, hq => cases hq; exact k5
    | 5, hq => cases hq; exact k6
    | 6, hq => cases hq; exact k7
    | c + 7, hq => simp [vwCl] at hq
  · match c, hq with
    | 0, hq => cases hq; exact ⟨a0, f0⟩
    | 1, hq => cases hq; exact ⟨a1, f1⟩
    | 2, hq => cases hq; exact ⟨a2, f2⟩
    | 3, hq => cases hq; exact ⟨a3, f3⟩
    | c + 4, hq => simp [zTys] at hq
/-- what stands in the Statement's words of the start -/
abbrev zGv : List Cond := flatC (Jvm.Cond.and given_1 narrow_1)
set_option maxRecDepth 100000 in
theorem gv_la : Cond.arrayOf (.static "QuarryOrders" "LEAST_SETTING" "[I") .int ∈ zGv ∧ Cond.eq (.length (.static "QuarryOrders" "LEAST_SETTING" "[I")) (.int (Int32.ofNat 4)) ∈ zGv ∧ ∀ j, j < 4 → Cond.eq (.elem (.static "QuarryOrders" "LEAST_SETTING" "[I") (.int (Int32.ofNat j))) (.int (([0, 1, -20, 0] : List Int32).getD j 0)) ∈ zGv := by decide +kernel
set_option maxRecDepth 100000 in
theorem gv_ma : Cond.arrayOf (.static "QuarryOrders" "MOST_SETTING" "[I") .int ∈ zGv ∧ Cond.eq (.length (.static "QuarryOrders" "MOST_SETTING" "[I")) (.int (Int32.ofNat 4)) ∈ zGv ∧ ∀ j, j < 4 → Cond.eq (.elem (.static "QuarryOrders" "MOST_SETTING" "[I") (.int (Int32.ofNat j))) (.int (([9, 99, 0, 30] : List Int32).getD j 0)) ∈ zGv := by decide +kernel
theorem zZ_of {b : Nat} {s : State} {A : Nat → Prop} (hts : ∀ w ∈ lw_tbl, w.before #[Value.ref b] s = true) (hgv : (Jvm.Cond.and given_1 narrow_1).before #[Value.ref b] s = true) (hA : ∀ a : Nat, a < s.heap.size → ¬ A a) : ∃ st : Nat → Nat, zZ st A s s.heap := by
  have hs : ∀ c ∈ zGv, c.before #[Value.ref b] s = true := flat_of_before _ hgv
  obtain ⟨t0, e0, T0⟩ := va_Tof (tm := .static "QuarryOrders" "LEAST_SETTING" "[I") (ty := .int) (N := 4) (f := fun j => .int (([0, 1, -20, 0] : List Int32).getD j 0)) (A := A) (by omega) (hs _ gv_la.1) (va_eqt (hs _ gv_la.2.1)) (fun j hj => va_eqt (hs _ (gv_la.2.2 j hj))) hA
  obtain ⟨t1, e1, T1⟩ := va_Tof (tm := .static "QuarryOrders" "MOST_SETTING" "[I") (ty := .int) (N := 4) (f := fun j => .int (([9, 99, 0, 30] : List Int32).getD j 0)) (A := A) (by omega) (hs _ gv_ma.1) (va_eqt (hs _ gv_ma.2.1)) (fun j hj => va_eqt (hs _ (gv_ma.2.2 j hj))) hA
  exact ⟨fun i => if i = 0 then t0 else t1, ⟨va_Zof (hts _ tw514) (hts _ (zT_l tw10)) e0 hA, T0, va_Zof (hts _ tw516) (hts _ (zT_l tw10)) e1 hA, T1, trivial⟩, trivial⟩
