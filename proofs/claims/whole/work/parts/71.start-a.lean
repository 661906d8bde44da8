/-! THE START: what the tables and the Statement say, in my shapes (wip/whole/start/gen_start.py) -/
theorem zT_l {w : Cond} (h : w ∈ zT) : w ∈ lw_tbl := (List.mem_filter.mp h).1
theorem zao_spec {args : Array Value} {s : State} {t : FieldType} (h : (Cond.arrayOver (.array t)).before args s = true) : ∃ c, s.vm.findClass ("[" ++ (FieldType.array t).toString) = some c ∧ ArrOfT s c (.array t) := by
  simp only [Cond.before, Cond.holds, Cond.value, beq_iff_eq] at h
  cases hc : s.vm.findClass (FieldType.array t).toString with
  | none => rw [hc] at h; cases h
  | some comp =>
    simp only [hc, Option.bind_some] at h
    obtain ⟨c, -, h⟩ := Option.bind_eq_some_iff.mp h
    obtain ⟨k, hk, h⟩ := Option.map_eq_some_iff.mp h
    cases hkind : k.kind with
    | array component ty =>
      simp only [hkind, Bool.and_eq_true, decide_eq_true_eq] at h
      obtain ⟨rfl, h2⟩ := h
      exact ⟨c, h2, fun n z => ⟨fun j e => (by cases e), k, hk, component, hkind⟩⟩
    | _ => simp [hkind] at h
theorem zac_spec {args : Array Value} {s : State} {t : FieldType} (h : (Cond.arrayClass t).before args s = true) : ∃ c, s.vm.findClass ("[" ++ t.toString) = some c ∧ ArrOfT s c t := by
  obtain ⟨c, k, comp, h1, h2, h3⟩ := Cond.arrayClass_spec h
  exact ⟨c, h1, fun n z => ⟨fun j e => (by cases e), k, h2, comp, h3⟩⟩
set_option maxRecDepth 100000 in
theorem zK_of {args : Array Value} {s : State} (hts : ∀ w ∈ lw_tbl, w.before args s = true) : ∃ (D : va_G) (ct : Nat → Nat), zK D (zTys ct) s := by
  obtain ⟨c1, i1, k1⟩ := u_known (C := RX1) (T := TX1) (N := 1) (n := 1) hts (fun w h => zT_l (zin_X1 w h)) (hts _ (zT_l tw104))
  obtain ⟨c2, i2, k2⟩ := u_known (C := RX2) (T := TX2) (N := 3) (n := 3) hts (fun w h => zT_l (zin_X2 w h)) (hts _ (zT_l tw127))
  obtain ⟨c3, i3, k3⟩ := u_known (C := RX3) (T := TX3) (N := 7) (n := 7) hts (fun w h => zT_l (zin_X3 w h)) (hts _ (zT_l tw160))
  obtain ⟨c4, i4, k4⟩ := u_known (C := RX4) (T := TX4) (N := 2) (n := 2) hts (fun w h => zT_l (zin_X4 w h)) (hts _ (zT_l tw145))
  obtain ⟨c5, i5, k5⟩ := u_known (C := RX5) (T := TX5) (N := 1) (n := 1) hts (fun w h => zT_l (zin_X5 w h)) (hts _ (zT_l tw85))
  obtain ⟨c6, i6, k6⟩ := u_known (C := RX6) (T := TX6) (N := 2) (n := 2) hts (fun w h => zT_l (zin_X6 w h)) (hts _ (zT_l tw114))
  obtain ⟨c7, i7, k7⟩ := u_known (C := RX7) (T := TX7) (N := 6) (n := 6) hts (fun w h => zT_l (zin_X7 w h)) (hts _ (zT_l tw77))
  obtain ⟨c8, i8, k8⟩ := u_known (C := RX8) (T := TX8) (N := 12) (n := 12) hts (fun w h => zT_l (zin_X8 w h)) (hts _ (zT_l tw787))
  obtain ⟨t0, f0, a0⟩ := zac_spec (hts _ (zT_l tw102))
  obtain ⟨t1, f1, a1⟩ := zac_spec (hts _ (zT_l tw187))
  obtain ⟨t2, f2, a2⟩ := zac_spec (hts _ (zT_l tw158))
  obtain ⟨t3, f3, a3⟩ := zao_spec (hts _ tw133)
  refine ⟨(fun k => match k with | 0 => c1 | 1 => c2 | 2 => c3 | 3 => c4 | 4 => c5 | 5 => c6 | 6 => c7 | _ => c8, fun k => match k with | 0 => i1 | 1 => i2 | 2 => i3 | 3 => i4 | 4 => i5 | 5 => i6 | 6 => i7 | _ => i8), fun k => match k with | 0 => t0 | 1 => t1 | 2 => t2 | _ => t3, ⟨fun c q hq => ?_, fun c q hq => ?_⟩, zNw.of hts⟩
  · match c, hq with
    | 0, hq => cases hq; exact k1
    | 1, hq => cases hq; exact k2
    | 2, hq => cases hq; exact k3
    | 3, hq => cases hq; exact k4
    | 4, hq => cases hq; exact k5
    | 5, hq => cases hq; exact k6
    | 6, hq => cases hq; exact k7
    | 7, hq => cases hq; exact k8
    | c + 8, hq => simp [vwCl] at hq
  · match c, hq with
    | 0, hq => cases hq; exact ⟨a0, f0⟩
    | 1, hq => cases hq; exact ⟨a1, f1⟩
    | 2, hq => cases hq; exact ⟨a2, f2⟩
    | 3, hq => cases hq; exact ⟨a3, f3⟩
    | c + 4, hq => simp [zTys] at hq
/-- what stands in the Statement's words of the start -/
abbrev zGv : List Cond := flatC (Jvm.Cond.and given_1 narrow_1)
def zTm (i : Nat) : Term := Term.string "QuarryOrders$Pad" (75 + 2 * i)
set_option maxRecDepth 100000 in
theorem gv_ex : ∀ i, i < 8 → Cond.exactly (zTm i) "java/lang/String" ∈ zGv := by decide +kernel
set_option maxRecDepth 100000 in
theorem gv_co : ∀ i, i < 8 → Cond.eq (.field (zTm i) "java/lang/String" "coder" "B") (.int 0) ∈ zGv := by decide +kernel
set_option maxRecDepth 100000 in
theorem gv_ar : ∀ i, i < 8 → Cond.arrayOf (.field (zTm i) "java/lang/String" "value" "[B") .byte ∈ zGv := by decide +kernel
set_option maxRecDepth 100000 in
theorem gv_le : ∀ i, i < 8 → Cond.eq (.length (.field (zTm i) "java/lang/String" "value" "[B")) (.int (Int32.ofNat (zSl.getD i 0))) ∈ zGv := by decide +kernel
set_option maxRecDepth 100000 in
theorem gv_el : ∀ i, i < 8 → ∀ j, j < zSl.getD i 0 → Cond.eq (.elem (.field (zTm i) "java/lang/String" "value" "[B") (.int (Int32.ofNat j))) (.int ((zSb.getD i []).getD j 0)) ∈ zGv := by decide +kernel
set_option maxRecDepth 100000 in
theorem gv_ne : ∀ i, i < 8 → ∀ j, j < 8 → i < j → Cond.not (Cond.eq (zTm i) (zTm j)) ∈ zGv := by decide +kernel
set_option maxRecDepth 100000 in
theorem gv_la : Cond.arrayOf (.static "QuarryOrders" "LEAST_SETTING" "[I") .int ∈ zGv ∧ Cond.eq (.length (.static "QuarryOrders" "LEAST_SETTING" "[I")) (.int (Int32.ofNat 4)) ∈ zGv ∧ ∀ j, j < 4 → Cond.eq (.elem (.static "QuarryOrders" "LEAST_SETTING" "[I") (.int (Int32.ofNat j))) (.int (([0, 1, -20, 0] : List Int32).getD j 0)) ∈ zGv := by decide +kernel
set_option maxRecDepth 100000 in
theorem gv_ma : Cond.arrayOf (.static "QuarryOrders" "MOST_SETTING" "[I") .int ∈ zGv ∧ Cond.eq (.length (.static "QuarryOrders" "MOST_SETTING" "[I")) (.int (Int32.ofNat 4)) ∈ zGv ∧ ∀ j, j < 4 → Cond.eq (.elem (.static "QuarryOrders" "MOST_SETTING" "[I") (.int (Int32.ofNat j))) (.int (([9, 99, 0, 30] : List Int32).getD j 0)) ∈ zGv := by decide +kernel
set_option maxRecDepth 100000 in
theorem gv_cs : Cond.eq (.static "java/lang/String" "COMPACT_STRINGS" "Z") (.int 1) ∈ zGv := by decide +kernel
set_option maxRecDepth 100000 in
theorem gv_si : Cond.isRef (.static "jdk/internal/util/Preconditions" "SIOOBE_FORMATTER" "Ljava/util/function/BiFunction;") ∈ zGv := by decide +kernel
theorem zZ_of {b : Nat} {s : State} {A : Nat → Prop} (hts : ∀ w ∈ lw_tbl, w.before #[Value.ref b] s = true) (hgv : (Jvm.Cond.and given_1 narrow_1).before #[Value.ref b] s = true) (hA : ∀ a : Nat, a < s.heap.size → ¬ A a) : ∃ st : Nat → Nat, zZ st A s s.heap := by
  have hs : ∀ c ∈ zGv, c.before #[Value.ref b] s = true := flat_of_before _ hgv
  obtain ⟨t0, e0, T0⟩ := va_Tof (tm := .static "QuarryOrders" "LEAST_SETTING" "[I") (ty := .int) (N := 4) (f := fun j => .int (([0, 1, -20, 0] : List Int32).getD j 0)) (A := A) (by omega) (hs _ gv_la.1) (va_eqt (hs _ gv_la.2.1)) (fun j hj => va_eqt (hs _ (gv_la.2.2 j hj))) hA
  obtain ⟨t1, e1, T1⟩ := va_Tof (tm := .static "QuarryOrders" "MOST_SETTING" "[I") (ty := .int) (N := 4) (f := fun j => .int (([9, 99, 0, 30] : List Int32).getD j 0)) (A := A) (by omega) (hs _ gv_ma.1) (va_eqt (hs _ gv_ma.2.1)) (fun j hj => va_eqt (hs _ (gv_ma.2.2 j hj))) hA
  obtain ⟨adK, adV, S, eK⟩ := vk_Sof (args := #[Value.ref b]) (s := s) (N := 8) (tm := zTm) (len := zSl) (byt := zSb) (A := A) (fun i hi => Nat.lt_trans (zSl_lt i hi) (by omega)) (fun i hi => hs _ (gv_ex i hi)) (fun i hi => hs _ (gv_co i hi)) (fun i hi => hs _ (gv_ar i hi)) (fun i hi => hs _ (gv_le i hi)) (fun i hi j hj => hs _ (gv_el i hi j hj)) (fun i j hi hj hne => by
    rcases Nat.lt_or_gt_of_ne hne with h | h
    · exact .inl (hs _ (gv_ne i hi j hj h))
    · exact .inr (hs _ (gv_ne j hj i hi h))) hA
  obtain ⟨st, hst⟩ : ∃ st : Nat → Nat, st = fun i => if i = 0 then t0 else if i = 1 then t1 else if i < 18 then adK (i - 10) else adV (i - 20) := ⟨_, rfl⟩
  have k10 : ∀ i, i < 8 → st (10 + i) = adK i := fun i hi => by
    rw [hst]
    show (if 10 + i = 0 then t0 else if 10 + i = 1 then t1 else if 10 + i < 18 then adK (10 + i - 10) else adV (10 + i - 20)) = _
    rw [if_neg (by omega), if_neg (by omega), if_pos (by omega), Nat.add_sub_cancel_left]
  have k20 : ∀ i, i < 8 → st (20 + i) = adV i := fun i hi => by
    rw [hst]
    show (if 20 + i = 0 then t0 else if 20 + i = 1 then t1 else if 20 + i < 18 then adK (20 + i - 10) else adV (20 + i - 20)) = _
    rw [if_neg (by omega), if_neg (by omega), if_neg (by omega), Nat.add_sub_cancel_left]
  have s0 : st 0 = t0 := by rw [hst]; rfl
  have s1 : st 1 = t1 := by rw [hst]; rfl
  refine ⟨st, ⟨?_, ?_, ?_, ?_, ?_, ?_, ?_⟩, ?_⟩
  · rw [s0]; exact va_Zof (hts _ tw234) (hts _ (zT_l tw60)) e0 hA
  · rw [s0]; exact T0
  · rw [s1]; exact va_Zof (hts _ tw236) (hts _ (zT_l tw60)) e1 hA
  · rw [s1]; exact T1
  · exact va_Zof (hts _ tw686) (hts _ (zT_l tw72)) (va_eqi (hs _ gv_cs)) hA
  · exact va_Zqof (hts _ tw702) (hts _ (zT_l tw74)) (hs _ gv_si) hA
  · refine ⟨fun i hi => ?_, fun i j hi hj e => S.2 i j hi hj (by rw [← k10 i hi, ← k10 j hj]; exact e)⟩
    show va_O "java/lang/String" (st (10 + i)) A s s.heap ∧ va_OF "java/lang/String" "coder" "B" (.int 0) (st (10 + i)) A s s.heap ∧ va_OF "java/lang/String" "value" "[B" (.ref (st (20 + i))) (st (10 + i)) A s s.heap ∧ va_T .byte (st (20 + i)) (zSl.getD i 0) (fun j => .int ((zSb.getD i []).getD j 0)) A s s.heap
    rw [k10 i hi, k20 i hi]
    exact S.1 i hi
  · have r : ∀ i, i < 8 → (zTm i).eval #[Value.ref b] s none [] s = some (.ref (st (10 + i))) := fun i hi => by rw [k10 i hi]; exact eK i hi
    exact ⟨vk_R.of (hts _ tw665) (r 0 (by omega)), vk_R.of (hts _ tw666) (r 1 (by omega)), vk_R.of (hts _ tw667) (r 2 (by omega)), vk_R.of (hts _ tw668) (r 3 (by omega)), vk_R.of (hts _ tw669) (r 4 (by omega)), vk_R.of (hts _ tw670) (r 5 (by omega)), vk_R.of (hts _ tw671) (r 6 (by omega)), vk_R.of (hts _ tw672) (r 7 (by omega))⟩
theorem wX8_eq {ct a b : Nat → Nat} {s ah hi : Nat → Int32} {kp : Int32} {sl sv pd : Nat → Int32} {ln : Int32} {so : Nat → Int32} {po wr : Int32} {to : Nat → Int32} (h : ∀ i, 30 ≤ i → a i = b i) : wX8 ct a s ah hi kp sl sv pd ln so po wr to = wX8 ct b s ah hi kp sl sv pd ln so po wr to := by
  unfold wX8
  rw [h 30 (by decide), h 31 (by decide), h 32 (by decide), h 33 (by decide), h 34 (by decide), h 35 (by decide), h 36 (by decide), h 37 (by decide), h 38 (by decide)]
