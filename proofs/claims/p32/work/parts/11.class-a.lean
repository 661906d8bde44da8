/-! written by wip/p32/gen.py: each method as a function, and its contract -/
def f_X5_setCell (k : Nat) (f : Nat → Int32) (p1 : Int32) (p2 : Int32) : Option ((Nat → Int32)) :=
  if p1 < 0 then
    some f
  else
    if (344 : Int32) ≤ p1 then
      some f
    else
      zg (zin p1 344) (zl (upd f p1.toNatClampNeg p2) fun f1 =>
      some f1)
set_option maxRecDepth 100000 in
set_option maxHeartbeats 4000000 in
theorem ct_X5_setCell (l : Launch) (D : va_G) (ct a : Nat → Nat) (f : Nat → Int32) (sz : Nat) (p1 : Int32) (p2 : Int32) (k : Nat) (f' : Nat → Int32) (h : f_X5_setCell k f p1 p2 = some f') : Met l yX5_setCell (Cond.code yX5_setCell cX5_setCell 3 none :: zT) ({ frames := 0, cells := 0, slots := 0, locals := 0 } : Room) (va_Pc [.ref (a 3), .int p1, .int p2] (zPW D (zTys ct) (wX5 ct a f) sz)) (va_Qv (fun (_ : Unit) => True) (zQW D (wX5 ct a f) sz (wX5 ct a f')) (va_A (wX5 ct a f) sz)) 0 0 (va_A (wX5 ct a f) sz) := by
  refine zMet (cc := cX5_setCell) (maxL := 3) (ret := none) (av := [.ref (a 3), .int p1, .int p2]) (by decide) (Nat.le_of_ble_eq_true rfl) (fun p e s m below meth c ls hx hb hr hml hts hown hlocks hin hB hl => ?_)
  have hl : lv_has ls 3 [(0, .ref (a 3)), (1, .int p1), (2, .int p2)] := hl
  have hown : s.vm.findClass RX5 = some m.cls := hown
  obtain ⟨hsz, hP, hK, hD0⟩ := hB
  subst hsz
  have hD := hD0.self (sz := s.heap.size)
  obtain ⟨A, hAe⟩ : ∃ A, A = va_A (wX5 ct a f) s.heap.size := ⟨_, rfl⟩
  rw [← hAe] at hD
  have hA : ∀ q : Nat, s.heap.size ≤ q → A q := fun q h => by rw [hAe]; exact Or.inr h
  have hS : va_S A s.heap s.heap [] := va_S.rf
  rw [f_X5_setCell] at h
  refine lv_iload_n hx hb dX5_setCell_0 rfl (lv_at hl 1 rfl) ?_
  refine zi_lt (tgt := 20) hx hb dX5_setCell_1 (by decide) h (fun h => ?_) (fun h => ?_)
  · cases h
    exact zX_v hx hb hr hlocks hP hD hS hAe dX5_setCell_20
  · refine lv_iload_n hx hb dX5_setCell_4 rfl (lv_at hl 1 rfl) ?_
    refine lv_aload_n hx hb dX5_setCell_5 rfl (lv_at hl 0 rfl) ?_
    refine z_get (C := RX5) (T := TX5) (N := 1) (ci := 4) hx hb hts zin_X5 hown hK.1 hP 0 0 rfl rfl (by decide) tw43 rfl rfl dX5_setCell_6 ?_
    refine y_alen (v := (344 : Int32)) hx hb hK hP 1 0 rfl rfl rfl dX5_setCell_9 ?_
    refine zc_ge (tgt := 20) hx hb dX5_setCell_10 (by decide) h (fun h => ?_) (fun h => ?_)
    · cases h
      exact zX_v hx hb hr hlocks hP hD hS hAe dX5_setCell_20
    · refine lv_aload_n hx hb dX5_setCell_13 rfl (lv_at hl 0 rfl) ?_
      refine z_get (C := RX5) (T := TX5) (N := 1) (ci := 4) hx hb hts zin_X5 hown hK.1 hP 0 0 rfl rfl (by decide) tw43 rfl rfl dX5_setCell_14 ?_
      refine lv_iload_n hx hb dX5_setCell_17 rfl (lv_at hl 1 rfl) ?_
      refine lv_iload_n hx hb dX5_setCell_18 rfl (lv_at hl 2 rfl) ?_
      refine z_iast hx hb hK.1 hP hD hS 1 0 rfl rfl h dX5_setCell_19 (fun f1 H locs h hP hD hS => ?_)
      have hP : va_P D vwCl (wX5 ct a f1) H := hP
      have hD : va_D A (wX5 ct a f1) := hD
      cases h
      exact zX_v hx hb hr hlocks hP hD hS hAe dX5_setCell_20

def f_X5_setLorryCell (k : Nat) (f : Nat → Int32) (p1 : Int32) (p2 : Int32) (p3 : Int32) : Option ((Nat → Int32)) :=
  zl (p1 * (4 : Int32)) fun v1 =>
  zl ((332 : Int32) + v1) fun v2 =>
  zl (v2 + p2) fun v3 =>
  zb1 (f_X5_setCell k f v3 p3) fun f4 =>
  some f4
set_option maxRecDepth 100000 in
set_option maxHeartbeats 4000000 in
theorem ct_X5_setLorryCell (l : Launch) (D : va_G) (ct a : Nat → Nat) (f : Nat → Int32) (sz : Nat) (p1 : Int32) (p2 : Int32) (p3 : Int32) (k : Nat) (f' : Nat → Int32) (h : f_X5_setLorryCell k f p1 p2 p3 = some f') : Met l yX5_setLorryCell (Cond.code yX5_setLorryCell cX5_setLorryCell 4 none :: zT) ({ frames := 1, cells := 0, slots := 0, locals := 22 } : Room) (va_Pc [.ref (a 3), .int p1, .int p2, .int p3] (zPW D (zTys ct) (wX5 ct a f) sz)) (va_Qv (fun (_ : Unit) => True) (zQW D (wX5 ct a f) sz (wX5 ct a f')) (va_A (wX5 ct a f) sz)) 0 0 (va_A (wX5 ct a f) sz) := by
  refine zMet (cc := cX5_setLorryCell) (maxL := 4) (ret := none) (av := [.ref (a 3), .int p1, .int p2, .int p3]) (by decide) (Nat.le_of_ble_eq_true rfl) (fun p e s m below meth c ls hx hb hr hml hts hown hlocks hin hB hl => ?_)
  have hl : lv_has ls 4 [(0, .ref (a 3)), (1, .int p1), (2, .int p2), (3, .int p3)] := hl
  have hown : s.vm.findClass RX5 = some m.cls := hown
  obtain ⟨hsz, hP, hK, hD0⟩ := hB
  subst hsz
  have hD := hD0.self (sz := s.heap.size)
  obtain ⟨A, hAe⟩ : ∃ A, A = va_A (wX5 ct a f) s.heap.size := ⟨_, rfl⟩
  rw [← hAe] at hD
  have hA : ∀ q : Nat, s.heap.size ≤ q → A q := fun q h => by rw [hAe]; exact Or.inr h
  have hS : va_S A s.heap s.heap [] := va_S.rf
  rw [f_X5_setLorryCell] at h
  refine lv_aload_n hx hb dX5_setLorryCell_0 rfl (lv_at hl 0 rfl) ?_
  refine lv_sipush (v := (332 : Int32)) hx hb dX5_setLorryCell_1 (by decide) ?_
  refine lv_iload_n hx hb dX5_setLorryCell_4 rfl (lv_at hl 1 rfl) ?_
  refine lv_iconst (v := (4 : Int32)) hx hb dX5_setLorryCell_5 (by decide) ?_
  refine o_imul hx hb dX5_setLorryCell_6 h (fun v1 h => ?_)
  refine o_iadd hx hb dX5_setLorryCell_7 h (fun v2 h => ?_)
  refine lv_iload_n hx hb dX5_setLorryCell_8 rfl (lv_at hl 2 rfl) ?_
  refine o_iadd hx hb dX5_setLorryCell_9 h (fun v3 h => ?_)
  refine lv_iload_n hx hb dX5_setLorryCell_10 rfl (lv_at hl 3 rfl) ?_
  obtain ⟨f4, hc, h⟩ := zb1_s h
  refine zG_v (w1 := wX5 ct a f4) (ws' := wX5 ct a f4) hP hD hS hA [0, 1] [] [0, 1] rfl rfl (by decide) (by decide) rfl (by decide) (zrV (C := RX5) (As := [.int v3, .int p3]) (rest := []) hx hb hml hown hts tw35 mv_X5_setCell ⟨Nat.le_of_ble_eq_true rfl, Nat.le_of_ble_eq_true rfl⟩ rfl rfl (ct_X5_setCell l D ct a f _ v3 p3 k f4 hc) (z_wv hK hP hD [0, 1] (by decide) rfl 0 rfl rfl) hl.1 rfl rfl (Nat.le_of_ble_eq_true rfl) dX5_setLorryCell_11 ⟨Nat.le_refl _, Nat.le_refl _⟩) (fun H locs hP hD hS => ?_)
  cases h
  exact zX_v hx hb hr hlocks hP hD hS hAe dX5_setLorryCell_14

def f_X5_cell (k : Nat) (f : Nat → Int32) (p1 : Int32) : Option (Int32) :=
  if p1 < 0 then
    some (0 : Int32)
  else
    if (344 : Int32) ≤ p1 then
      some (0 : Int32)
    else
      zg (zin p1 344) (zl (f p1.toNatClampNeg) fun v1 =>
      some v1)
set_option maxRecDepth 100000 in
set_option maxHeartbeats 4000000 in
theorem ct_X5_cell (l : Launch) (D : va_G) (ct a : Nat → Nat) (f : Nat → Int32) (p1 : Int32) (k : Nat) (r : Int32) (h : f_X5_cell k f p1 = some r) : Met l yX5_cell (Cond.code yX5_cell cX5_cell 2 (some .int) :: zT) ({ frames := 0, cells := 0, slots := 0, locals := 0 } : Room) (va_Pc [.ref (a 3), .int p1] (zPR D (zTys ct) (wX5 ct a f))) (vp_Si (fun r' => r' = r)) 0 0 (fun _ => False) := by
  refine zMet (cc := cX5_cell) (maxL := 2) (ret := (some .int)) (av := [.ref (a 3), .int p1]) (by decide) (Nat.le_of_ble_eq_true rfl) (fun p e s m below meth c ls hx hb hr hml hts hown hlocks hin hB hl => ?_)
  have hl : lv_has ls 2 [(0, .ref (a 3)), (1, .int p1)] := hl
  have hown : s.vm.findClass RX5 = some m.cls := hown
  obtain ⟨hP, hK⟩ := hB
  rw [f_X5_cell] at h
  refine lv_iload_n hx hb dX5_cell_0 rfl (lv_at hl 1 rfl) ?_
  refine zi_lt (tgt := 22) hx hb dX5_cell_1 (by decide) h (fun h => ?_) (fun h => ?_)
  · refine lv_iconst (v := (0 : Int32)) hx hb dX5_cell_22 (by decide) ?_
    exact zR_i hx hb hr hlocks dX5_cell_23 h
  · refine lv_iload_n hx hb dX5_cell_4 rfl (lv_at hl 1 rfl) ?_
    refine lv_aload_n hx hb dX5_cell_5 rfl (lv_at hl 0 rfl) ?_
    refine z_get (C := RX5) (T := TX5) (N := 1) (ci := 4) hx hb hts zin_X5 hown hK.1 hP 0 0 rfl rfl (by decide) tw43 rfl rfl dX5_cell_6 ?_
    refine y_alen (v := (344 : Int32)) hx hb hK hP 1 0 rfl rfl rfl dX5_cell_9 ?_
    refine zc_ge (tgt := 22) hx hb dX5_cell_10 (by decide) h (fun h => ?_) (fun h => ?_)
    · refine lv_iconst (v := (0 : Int32)) hx hb dX5_cell_22 (by decide) ?_
      exact zR_i hx hb hr hlocks dX5_cell_23 h
    · refine lv_aload_n hx hb dX5_cell_13 rfl (lv_at hl 0 rfl) ?_
      refine z_get (C := RX5) (T := TX5) (N := 1) (ci := 4) hx hb hts zin_X5 hown hK.1 hP 0 0 rfl rfl (by decide) tw43 rfl rfl dX5_cell_14 ?_
      refine lv_iload_n hx hb dX5_cell_17 rfl (lv_at hl 1 rfl) ?_
      refine y_iald hx hb hK hP 1 0 rfl rfl h dX5_cell_18 (fun v1 h => ?_)
      refine lv_goto (tgt := 23) hx hb dX5_cell_19 (by decide) ?_
      exact zR_i hx hb hr hlocks dX5_cell_23 h

def f_X2_settle_b24 (k : Nat) (p1 : Int32)  (nx_ : Int32) (hz_ : Int32) (y0 : Int32) : Option (Int32 × Int32 × Int32) :=
  zl y0 fun nx1 =>
  zl (hz_ + (1 : Int32)) fun v2 =>
  zl (if (6 : Int32) < v2 then (6 : Int32) else v2) fun v3 =>
  zl v3 fun hz4 =>
  some (p1, nx1, hz4)
def f_X2_settle (k : Nat) (nx : Int32) (hz : Int32) (p1 : Int32) : Option (Int32 × Int32 × Int32) :=
  if p1 < 0 then
    some (p1, nx, hz)
  else
    if (6 : Int32) ≤ nx then
      f_X2_settle_b24 k p1 nx hz (0 : Int32)
    else
      zl (nx + (1 : Int32)) fun v5 =>
      f_X2_settle_b24 k p1 nx hz v5
set_option maxRecDepth 100000 in
set_option maxHeartbeats 4000000 in
theorem ct_X2_settle (l : Launch) (D : va_G) (ct a : Nat → Nat) (g : Nat → Nat → Int32) (nx : Int32) (hz : Int32) (sz : Nat) (p1 : Int32) (k : Nat) (r : Int32) (nx' : Int32) (hz' : Int32) (h : f_X2_settle k nx hz p1 = some (r, nx', hz')) : Met l yX2_settle (Cond.code yX2_settle cX2_settle 2 (some .int) :: zT) ({ frames := 1, cells := 0, slots := 0, locals := 21 } : Room) (va_Pc [.ref (a 5), .int p1] (zPW D (zTys ct) (wX2 ct a g nx hz) sz)) (va_Qi (fun r' (_ : Unit) => r' = r) (zQW D (wX2 ct a g nx hz) sz (wX2 ct a g nx' hz')) (va_A (wX2 ct a g nx hz) sz)) 0 0 (va_A (wX2 ct a g nx hz) sz) := by
  refine zMet (cc := cX2_settle) (maxL := 2) (ret := (some .int)) (av := [.ref (a 5), .int p1]) (by decide) (Nat.le_of_ble_eq_true rfl) (fun p e s m below meth c ls hx hb hr hml hts hown hlocks hin hB hl => ?_)
  have hl : lv_has ls 2 [(0, .ref (a 5)), (1, .int p1)] := hl
  have hown : s.vm.findClass RX2 = some m.cls := hown
  obtain ⟨hsz, hP, hK, hD0⟩ := hB
  subst hsz
  have hD := hD0.self (sz := s.heap.size)
  obtain ⟨A, hAe⟩ : ∃ A, A = va_A (wX2 ct a g nx hz) s.heap.size := ⟨_, rfl⟩
  rw [← hAe] at hD
  have hA : ∀ q : Nat, s.heap.size ≤ q → A q := fun q h => by rw [hAe]; exact Or.inr h
  have hS : va_S A s.heap s.heap [] := va_S.rf
  have B24 : ∀ (nx_ : Int32) (hz_ : Int32) (y0 : Int32), f_X2_settle_b24 k p1 nx_ hz_ y0 = some (r, nx', hz') → ∀ (H : Heap) (locs : List Loc), va_P D vwCl (wX2 ct a g nx_ hz_) H → va_D A (wX2 ct a g nx_ hz_) → va_S A s.heap H locs → ∀ (ls : Array Slot), lv_has ls 2 [(0, .ref (a 5)), (1, .int p1)] → W p l e ({ frames := 1, cells := 0, slots := 0, locals := 21 } : Room) s m ([.ref (a 5), .int p1] : List Value).toArray below meth c H locs 0 0 (MQ below (va_Qi (fun r' (_ : Unit) => r' = r) (zQW D (wX2 ct a g nx hz) s.heap.size (wX2 ct a g nx' hz')) (va_A (wX2 ct a g nx hz) s.heap.size)) ([.ref (a 5), .int p1] : List Value).toArray s 0 0 (va_A (wX2 ct a g nx hz) s.heap.size)) (F0 m 24 ls [.int y0, .ref (a 5)]) := by
    intro nx_ hz_ y0 h H locs hP hD hS ls hl
    rw [f_X2_settle_b24] at h
    refine z_puti (C := RX2) (T := TX2) (N := 3) (ci := 1) hx hb hts zin_X2 tyX2 tyX2_ok nmX2 hown hK.1 hP hD hS 0 1 rfl rfl (by decide) tw80 rfl rfl (by decide +kernel) (Nat.le_of_ble_eq_true rfl) h dX2_settle_24 (fun nx1 H locs h hP hD hS => ?_)
    have hP : va_P D vwCl (wX2 ct a g nx1 hz_) H := hP
    have hD : va_D A (wX2 ct a g nx1 hz_) := hD
    refine lv_aload_n hx hb dX2_settle_27 rfl (lv_at hl 0 rfl) ?_
    refine lv_aload_n hx hb dX2_settle_28 rfl (lv_at hl 0 rfl) ?_
    refine z_get (C := RX2) (T := TX2) (N := 3) (ci := 1) hx hb hts zin_X2 hown hK.1 hP 0 2 rfl rfl (by decide) tw81 rfl rfl dX2_settle_29 ?_
    refine lv_iconst (v := (1 : Int32)) hx hb dX2_settle_32 (by decide) ?_
    refine o_iadd hx hb dX2_settle_33 h (fun v2 h => ?_)
    refine lv_bipush (v := (6 : Int32)) hx hb dX2_settle_34 (by decide) ?_
    refine o_mmin hx hb hml hl.1 hown hts tw294 (Nat.le_of_ble_eq_true rfl) (Nat.le_of_ble_eq_true rfl) (Nat.le_refl _) (Nat.le_refl _) dX2_settle_36 h (fun v3 h => ?_)
    refine z_puti (C := RX2) (T := TX2) (N := 3) (ci := 1) hx hb hts zin_X2 tyX2 tyX2_ok nmX2 hown hK.1 hP hD hS 0 2 rfl rfl (by decide) tw81 rfl rfl (by decide +kernel) (Nat.le_of_ble_eq_true rfl) h dX2_settle_39 (fun hz4 H locs h hP hD hS => ?_)
    have hP : va_P D vwCl (wX2 ct a g nx1 hz4) H := hP
    have hD : va_D A (wX2 ct a g nx1 hz4) := hD
    refine lv_iload_n hx hb dX2_settle_42 rfl (lv_at hl 1 rfl) ?_
    cases h
    exact zX_i hx hb hr hlocks hP hD hS hAe dX2_settle_43 rfl
  rw [f_X2_settle] at h
  refine lv_iload_n hx hb dX2_settle_0 rfl (lv_at hl 1 rfl) ?_
  refine zi_lt (tgt := 42) hx hb dX2_settle_1 (by decide) h (fun h => ?_) (fun h => ?_)
  · refine lv_iload_n hx hb dX2_settle_42 rfl (lv_at hl 1 rfl) ?_
    cases h
    exact zX_i hx hb hr hlocks hP hD hS hAe dX2_settle_43 rfl
  · refine lv_aload_n hx hb dX2_settle_4 rfl (lv_at hl 0 rfl) ?_
    refine lv_aload_n hx hb dX2_settle_5 rfl (lv_at hl 0 rfl) ?_
    refine z_get (C := RX2) (T := TX2) (N := 3) (ci := 1) hx hb hts zin_X2 hown hK.1 hP 0 1 rfl rfl (by decide) tw80 rfl rfl dX2_settle_6 ?_
    refine lv_bipush (v := (6 : Int32)) hx hb dX2_settle_9 (by decide) ?_
    refine zc_ge (tgt := 23) hx hb dX2_settle_11 (by decide) h (fun h => ?_) (fun h => ?_)
    · refine lv_iconst (v := (0 : Int32)) hx hb dX2_settle_23 (by decide) ?_
      exact B24 nx hz (0 : Int32) h _ _ hP hD hS ls (lv_sub hl [0, 1] rfl)
    · refine lv_aload_n hx hb dX2_settle_14 rfl (lv_at hl 0 rfl) ?_
      refine z_get (C := RX2) (T := TX2) (N := 3) (ci := 1) hx hb hts zin_X2 hown hK.1 hP 0 1 rfl rfl (by decide) tw80 rfl rfl dX2_settle_15 ?_
      refine lv_iconst (v := (1 : Int32)) hx hb dX2_settle_18 (by decide) ?_
      refine o_iadd hx hb dX2_settle_19 h (fun v5 h => ?_)
      refine lv_goto (tgt := 24) hx hb dX2_settle_20 (by decide) ?_
      exact B24 nx hz v5 h _ _ hP hD hS ls (lv_sub hl [0, 1] rfl)

def f_X7_isSize (k : Nat) (p1 : Int32) : Option (Int32) :=
  if p1 < (1 : Int32) then
    some (0 : Int32)
  else
    if (300 : Int32) < p1 then
      some (0 : Int32)
    else
      some (1 : Int32)
set_option maxRecDepth 100000 in
set_option maxHeartbeats 4000000 in
theorem ct_X7_isSize (l : Launch) (p1 : Int32) (k : Nat) (r : Int32) (h : f_X7_isSize k p1 = some r) : Met l yX7_isSize (Cond.code yX7_isSize cX7_isSize 1 (some .boolean) :: zT) ({ frames := 0, cells := 0, slots := 0, locals := 0 } : Room) (va_Pc [.int p1] (fun _ => True)) (vp_Si (fun r' => r' = r)) 0 0 (fun _ => False) := by
  refine zMet (cc := cX7_isSize) (maxL := 1) (ret := (some .boolean)) (av := [.int p1]) (by decide) (Nat.le_of_ble_eq_true rfl) (fun p e s m below meth c ls hx hb hr hml hts hown hlocks hin hB hl => ?_)
  have hl : lv_has ls 1 [(0, .int p1)] := hl
  have hown : s.vm.findClass RX7 = some m.cls := hown
  rw [f_X7_isSize] at h
  refine lv_iload_n hx hb dX7_isSize_0 rfl (lv_at hl 0 rfl) ?_
  refine lv_iconst (v := (1 : Int32)) hx hb dX7_isSize_1 (by decide) ?_
  refine zc_lt (tgt := 16) hx hb dX7_isSize_2 (by decide) h (fun h => ?_) (fun h => ?_)
  · refine lv_iconst (v := (0 : Int32)) hx hb dX7_isSize_16 (by decide) ?_
    exact zR_z hx hb hr hlocks dX7_isSize_17 h
  · refine lv_iload_n hx hb dX7_isSize_5 rfl (lv_at hl 0 rfl) ?_
    refine lv_sipush (v := (300 : Int32)) hx hb dX7_isSize_6 (by decide) ?_
    refine zc_gt (tgt := 16) hx hb dX7_isSize_9 (by decide) h (fun h => ?_) (fun h => ?_)
    · refine lv_iconst (v := (0 : Int32)) hx hb dX7_isSize_16 (by decide) ?_
      exact zR_z hx hb hr hlocks dX7_isSize_17 h
    · refine lv_iconst (v := (1 : Int32)) hx hb dX7_isSize_12 (by decide) ?_
      refine lv_goto (tgt := 17) hx hb dX7_isSize_13 (by decide) ?_
      exact zR_z hx hb hr hlocks dX7_isSize_17 h

def f_X5_setBlockCell (k : Nat) (f : Nat → Int32) (p1 : Int32) (p2 : Int32) (p3 : Int32) : Option ((Nat → Int32)) :=
  zl (p1 * (11 : Int32)) fun v1 =>
  zl ((8 : Int32) + v1) fun v2 =>
  zl (v2 + p2) fun v3 =>
  zb1 (f_X5_setCell k f v3 p3) fun f4 =>
  some f4
set_option maxRecDepth 100000 in
set_option maxHeartbeats 4000000 in
theorem ct_X5_setBlockCell (l : Launch) (D : va_G) (ct a : Nat → Nat) (f : Nat → Int32) (sz : Nat) (p1 : Int32) (p2 : Int32) (p3 : Int32) (k : Nat) (f' : Nat → Int32) (h : f_X5_setBlockCell k f p1 p2 p3 = some f') : Met l yX5_setBlockCell (Cond.code yX5_setBlockCell cX5_setBlockCell 4 none :: zT) ({ frames := 1, cells := 0, slots := 0, locals := 22 } : Room) (va_Pc [.ref (a 3), .int p1, .int p2, .int p3] (zPW D (zTys ct) (wX5 ct a f) sz)) (va_Qv (fun (_ : Unit) => True) (zQW D (wX5 ct a f) sz (wX5 ct a f')) (va_A (wX5 ct a f) sz)) 0 0 (va_A (wX5 ct a f) sz) := by
  refine zMet (cc := cX5_setBlockCell) (maxL := 4) (ret := none) (av := [.ref (a 3), .int p1, .int p2, .int p3]) (by decide) (Nat.le_of_ble_eq_true rfl) (fun p e s m below meth c ls hx hb hr hml hts hown hlocks hin hB hl => ?_)
  have hl : lv_has ls 4 [(0, .ref (a 3)), (1, .int p1), (2, .int p2), (3, .int p3)] := hl
  have hown : s.vm.findClass RX5 = some m.cls := hown
  obtain ⟨hsz, hP, hK, hD0⟩ := hB
  subst hsz
  have hD := hD0.self (sz := s.heap.size)
  obtain ⟨A, hAe⟩ : ∃ A, A = va_A (wX5 ct a f) s.heap.size := ⟨_, rfl⟩
  rw [← hAe] at hD
  have hA : ∀ q : Nat, s.heap.size ≤ q → A q := fun q h => by rw [hAe]; exact Or.inr h
  have hS : va_S A s.heap s.heap [] := va_S.rf
  rw [f_X5_setBlockCell] at h
  refine lv_aload_n hx hb dX5_setBlockCell_0 rfl (lv_at hl 0 rfl) ?_
  refine lv_bipush (v := (8 : Int32)) hx hb dX5_setBlockCell_1 (by decide) ?_
  refine lv_iload_n hx hb dX5_setBlockCell_3 rfl (lv_at hl 1 rfl) ?_
  refine lv_bipush (v := (11 : Int32)) hx hb dX5_setBlockCell_4 (by decide) ?_
  refine o_imul hx hb dX5_setBlockCell_6 h (fun v1 h => ?_)
  refine o_iadd hx hb dX5_setBlockCell_7 h (fun v2 h => ?_)
  refine lv_iload_n hx hb dX5_setBlockCell_8 rfl (lv_at hl 2 rfl) ?_
  refine o_iadd hx hb dX5_setBlockCell_9 h (fun v3 h => ?_)
  refine lv_iload_n hx hb dX5_setBlockCell_10 rfl (lv_at hl 3 rfl) ?_
  obtain ⟨f4, hc, h⟩ := zb1_s h
  refine zG_v (w1 := wX5 ct a f4) (ws' := wX5 ct a f4) hP hD hS hA [0, 1] [] [0, 1] rfl rfl (by decide) (by decide) rfl (by decide) (zrV (C := RX5) (As := [.int v3, .int p3]) (rest := []) hx hb hml hown hts tw35 mv_X5_setCell ⟨Nat.le_of_ble_eq_true rfl, Nat.le_of_ble_eq_true rfl⟩ rfl rfl (ct_X5_setCell l D ct a f _ v3 p3 k f4 hc) (z_wv hK hP hD [0, 1] (by decide) rfl 0 rfl rfl) hl.1 rfl rfl (Nat.le_of_ble_eq_true rfl) dX5_setBlockCell_11 ⟨Nat.le_refl _, Nat.le_refl _⟩) (fun H locs hP hD hS => ?_)
  cases h
  exact zX_v hx hb hr hlocks hP hD hS hAe dX5_setBlockCell_14

def f_X6_addBlock (k : Nat) (f : Nat → Int32) (p1 : Int32) (p2 : Int32) (p3 : Int32) (p4 : Int32) : Option (Int32 × (Nat → Int32)) :=
  zb1 (f_X5_cell k f (6 : Int32)) fun v1 =>
  zl (v1 + (1 : Int32)) fun v2 =>
  zb1 (f_X5_setCell k f (6 : Int32) v2) fun f3 =>
  zb1 (f_X5_setBlockCell k f3 v1 (0 : Int32) p1) fun f4 =>
  zb1 (f_X5_setBlockCell k f4 v1 (1 : Int32) p2) fun f5 =>
  zb1 (f_X5_setBlockCell k f5 v1 (2 : Int32) p3) fun f6 =>
  zb1 (f_X5_setBlockCell k f6 v1 (3 : Int32) p4) fun f7 =>
  zl (p1 * p2) fun v8 =>
  zl (v8 * p3) fun v9 =>
  zl (v9 * p4) fun v10 =>
  zl (v10 / (10000 : Int32)) fun v11 =>
  zb1 (f_X5_setBlockCell k f7 v1 (4 : Int32) v11) fun f12 =>
  zb1 (f_X5_setBlockCell k f12 v1 (5 : Int32) (0 : Int32)) fun f13 =>
  zb1 (f_X5_setBlockCell k f13 v1 (6 : Int32) (3 : Int32)) fun f14 =>
  zb1 (f_X5_setBlockCell k f14 v1 (7 : Int32) (0 : Int32)) fun f15 =>
  zb1 (f_X5_setBlockCell k f15 v1 (8 : Int32) (-6 : Int32)) fun f16 =>
  zb1 (f_X5_setBlockCell k f16 v1 (9 : Int32) (-6 : Int32)) fun f17 =>
  zb1 (f_X5_setBlockCell k f17 v1 (10 : Int32) (-6 : Int32)) fun f18 =>
  some (v1, f18)
set_option maxRecDepth 100000 in
set_option maxHeartbeats 4000000 in
theorem ct_X6_addBlock (l : Launch) (D : va_G) (ct a : Nat → Nat) (f : Nat → Int32) (sz : Nat) (p1 : Int32) (p2 : Int32) (p3 : Int32) (p4 : Int32) (k : Nat) (r : Int32) (f' : Nat → Int32) (h : f_X6_addBlock k f p1 p2 p3 p4 = some (r, f')) : Met l yX6_addBlock (Cond.code yX6_addBlock cX6_addBlock 6 (some .int) :: zT) ({ frames := 2, cells := 0, slots := 0, locals := 45 } : Room) (va_Pc [.ref (a 1), .int p1, .int p2, .int p3, .int p4] (zPW D (zTys ct) (wX6 ct a f) sz)) (va_Qi (fun r' (_ : Unit) => r' = r) (zQW D (wX6 ct a f) sz (wX6 ct a f')) (va_A (wX6 ct a f) sz)) 0 0 (va_A (wX6 ct a f) sz) := by
  refine zMet (cc := cX6_addBlock) (maxL := 6) (ret := (some .int)) (av := [.ref (a 1), .int p1, .int p2, .int p3, .int p4]) (by decide) (Nat.le_of_ble_eq_true rfl) (fun p e s m below meth c ls hx hb hr hml hts hown hlocks hin hB hl => ?_)
  have hl : lv_has ls 6 [(0, .ref (a 1)), (1, .int p1), (2, .int p2), (3, .int p3), (4, .int p4)] := hl
  have hown : s.vm.findClass RX6 = some m.cls := hown
  obtain ⟨hsz, hP, hK, hD0⟩ := hB
  subst hsz
  have hD := hD0.self (sz := s.heap.size)
  obtain ⟨A, hAe⟩ : ∃ A, A = va_A (wX6 ct a f) s.heap.size := ⟨_, rfl⟩
  rw [← hAe] at hD
  have hA : ∀ q : Nat, s.heap.size ≤ q → A q := fun q h => by rw [hAe]; exact Or.inr h
  have hS : va_S A s.heap s.heap [] := va_S.rf
  rw [f_X6_addBlock] at h
  refine lv_aload_n hx hb dX6_addBlock_0 rfl (lv_at hl 0 rfl) ?_
  refine z_get (C := RX6) (T := TX6) (N := 2) (ci := 5) hx hb hts zin_X6 hown hK.1 hP 0 0 rfl rfl (by decide) tw64 rfl rfl dX6_addBlock_1 ?_
  refine lv_bipush (v := (6 : Int32)) hx hb dX6_addBlock_4 (by decide) ?_
  obtain ⟨v1, hc, h⟩ := zb1_s h
  refine zE_i (zrV (C := RX5) (As := [.int (6 : Int32)]) (rest := []) hx hb hml hown hts tw280 mv_X5_cell ⟨Nat.le_of_ble_eq_true rfl, Nat.le_of_ble_eq_true rfl⟩ rfl rfl (ct_X5_cell l D ct a f (6 : Int32) k v1 hc) (z_pv hK hP [2, 3] rfl 2 rfl rfl) hl.1 rfl rfl (Nat.le_of_ble_eq_true rfl) dX6_addBlock_6 ⟨Nat.le_refl _, Nat.le_refl _⟩) ?_
  refine lv_istore (lv' := [(5, .int v1), (0, .ref (a 1)), (1, .int p1), (2, .int p2), (3, .int p3), (4, .int p4)]) hx hb dX6_addBlock_9 hl (by decide) rfl (fun ls hl => ?_)
  refine lv_aload_n hx hb dX6_addBlock_11 rfl (lv_at hl 1 rfl) ?_
  refine z_get (C := RX6) (T := TX6) (N := 2) (ci := 5) hx hb hts zin_X6 hown hK.1 hP 0 0 rfl rfl (by decide) tw64 rfl rfl dX6_addBlock_12 ?_
  refine lv_bipush (v := (6 : Int32)) hx hb dX6_addBlock_15 (by decide) ?_
  refine lv_iload hx hb dX6_addBlock_17 (lv_at hl 0 rfl) ?_
  refine lv_iconst (v := (1 : Int32)) hx hb dX6_addBlock_19 (by decide) ?_
  refine o_iadd hx hb dX6_addBlock_20 h (fun v2 h => ?_)
  obtain ⟨f3, hc, h⟩ := zb1_s h
  refine zG_v (w1 := wX5 ct a f3) (ws' := wX6 ct a f3) hP hD hS hA [2, 3] [0, 1] [0, 1, 2, 3] rfl rfl (by decide) (by decide) rfl (by decide) (zrV (C := RX5) (As := [.int (6 : Int32), .int v2]) (rest := []) hx hb hml hown hts tw285 mv_X5_setCell ⟨Nat.le_of_ble_eq_true rfl, Nat.le_of_ble_eq_true rfl⟩ rfl rfl (ct_X5_setCell l D ct a f _ (6 : Int32) v2 k f3 hc) (z_wv hK hP hD [2, 3] (by decide) rfl 2 rfl rfl) hl.1 rfl rfl (Nat.le_of_ble_eq_true rfl) dX6_addBlock_21 ⟨Nat.le_refl _, Nat.le_refl _⟩) (fun H locs hP hD hS => ?_)
  refine lv_aload_n hx hb dX6_addBlock_24 rfl (lv_at hl 1 rfl) ?_
  refine z_get (C := RX6) (T := TX6) (N := 2) (ci := 5) hx hb hts zin_X6 hown hK.1 hP 0 0 rfl rfl (by decide) tw64 rfl rfl dX6_addBlock_25 ?_
  refine lv_iload hx hb dX6_addBlock_28 (lv_at hl 0 rfl) ?_
  refine lv_iconst (v := (0 : Int32)) hx hb dX6_addBlock_30 (by decide) ?_
  refine lv_iload_n hx hb dX6_addBlock_31 rfl (lv_at hl 2 rfl) ?_
  obtain ⟨f4, hc, h⟩ := zb1_s h
  refine zG_v (w1 := wX5 ct a f4) (ws' := wX6 ct a f4) hP hD hS hA [2, 3] [0, 1] [0, 1, 2, 3] rfl rfl (by decide) (by decide) rfl (by decide) (zrV (C := RX5) (As := [.int v1, .int (0 : Int32), .int p1]) (rest := []) hx hb hml hown hts tw286 mv_X5_setBlockCell ⟨Nat.le_of_ble_eq_true rfl, Nat.le_of_ble_eq_true rfl⟩ rfl rfl (ct_X5_setBlockCell l D ct a f3 _ v1 (0 : Int32) p1 k f4 hc) (z_wv hK hP hD [2, 3] (by decide) rfl 2 rfl rfl) hl.1 rfl rfl (Nat.le_of_ble_eq_true rfl) dX6_addBlock_32 ⟨Nat.le_refl _, Nat.le_refl _⟩) (fun H locs hP hD hS => ?_)
  refine lv_aload_n hx hb dX6_addBlock_35 rfl (lv_at hl 1 rfl) ?_
  refine z_get (C := RX6) (T := TX6) (N := 2) (ci := 5) hx hb hts zin_X6 hown hK.1 hP 0 0 rfl rfl (by decide) tw64 rfl rfl dX6_addBlock_36 ?_
  refine lv_iload hx hb dX6_addBlock_39 (lv_at hl 0 rfl) ?_
  refine lv_iconst (v := (1 : Int32)) hx hb dX6_addBlock_41 (by decide) ?_
  refine lv_iload_n hx hb dX6_addBlock_42 rfl (lv_at hl 3 rfl) ?_
  obtain ⟨f5, hc, h⟩ := zb1_s h
  refine zG_v (w1 := wX5 ct a f5) (ws' := wX6 ct a f5) hP hD hS hA [2, 3] [0, 1] [0, 1, 2, 3] rfl rfl (by decide) (by decide) rfl (by decide) (zrV (C := RX5) (As := [.int v1, .int (1 : Int32), .int p2]) (rest := []) hx hb hml hown hts tw286 mv_X5_setBlockCell ⟨Nat.le_of_ble_eq_true rfl, Nat.le_of_ble_eq_true rfl⟩ rfl rfl (ct_X5_setBlockCell l D ct a f4 _ v1 (1 : Int32) p2 k f5 hc) (z_wv hK hP hD [2, 3] (by decide) rfl 2 rfl rfl) hl.1 rfl rfl (Nat.le_of_ble_eq_true rfl) dX6_addBlock_43 ⟨Nat.le_refl _, Nat.le_refl _⟩) (fun H locs hP hD hS => ?_)
  refine lv_aload_n hx hb dX6_addBlock_46 rfl (lv_at hl 1 rfl) ?_
  refine z_get (C := RX6) (T := TX6) (N := 2) (ci := 5) hx hb hts zin_X6 hown hK.1 hP 0 0 rfl rfl (by decide) tw64 rfl rfl dX6_addBlock_47 ?_
  refine lv_iload hx hb dX6_addBlock_50 (lv_at hl 0 rfl) ?_
  refine lv_iconst (v := (2 : Int32)) hx hb dX6_addBlock_52 (by decide) ?_
  refine lv_iload_n hx hb dX6_addBlock_53 rfl (lv_at hl 4 rfl) ?_
  obtain ⟨f6, hc, h⟩ := zb1_s h
  refine zG_v (w1 := wX5 ct a f6) (ws' := wX6 ct a f6) hP hD hS hA [2, 3] [0, 1] [0, 1, 2, 3] rfl rfl (by decide) (by decide) rfl (by decide) (zrV (C := RX5) (As := [.int v1, .int (2 : Int32), .int p3]) (rest := []) hx hb hml hown hts tw286 mv_X5_setBlockCell ⟨Nat.le_of_ble_eq_true rfl, Nat.le_of_ble_eq_true rfl⟩ rfl rfl (ct_X5_setBlockCell l D ct a f5 _ v1 (2 : Int32) p3 k f6 hc) (z_wv hK hP hD [2, 3] (by decide) rfl 2 rfl rfl) hl.1 rfl rfl (Nat.le_of_ble_eq_true rfl) dX6_addBlock_54 ⟨Nat.le_refl _, Nat.le_refl _⟩) (fun H locs hP hD hS => ?_)
  refine lv_aload_n hx hb dX6_addBlock_57 rfl (lv_at hl 1 rfl) ?_
  refine z_get (C := RX6) (T := TX6) (N := 2) (ci := 5) hx hb hts zin_X6 hown hK.1 hP 0 0 rfl rfl (by decide) tw64 rfl rfl dX6_addBlock_58 ?_
  refine lv_iload hx hb dX6_addBlock_61 (lv_at hl 0 rfl) ?_
  refine lv_iconst (v := (3 : Int32)) hx hb dX6_addBlock_63 (by decide) ?_
  refine lv_iload hx hb dX6_addBlock_64 (lv_at hl 5 rfl) ?_
  obtain ⟨f7, hc, h⟩ := zb1_s h
  refine zG_v (w1 := wX5 ct a f7) (ws' := wX6 ct a f7) hP hD hS hA [2, 3] [0, 1] [0, 1, 2, 3] rfl rfl (by decide) (by decide) rfl (by decide) (zrV (C := RX5) (As := [.int v1, .int (3 : Int32), .int p4]) (rest := []) hx hb hml hown hts tw286 mv_X5_setBlockCell ⟨Nat.le_of_ble_eq_true rfl, Nat.le_of_ble_eq_true rfl⟩ rfl rfl (ct_X5_setBlockCell l D ct a f6 _ v1 (3 : Int32) p4 k f7 hc) (z_wv hK hP hD [2, 3] (by decide) rfl 2 rfl rfl) hl.1 rfl rfl (Nat.le_of_ble_eq_true rfl) dX6_addBlock_66 ⟨Nat.le_refl _, Nat.le_refl _⟩) (fun H locs hP hD hS => ?_)
  refine lv_aload_n hx hb dX6_addBlock_69 rfl (lv_at hl 1 rfl) ?_
  refine z_get (C := RX6) (T := TX6) (N := 2) (ci := 5) hx hb hts zin_X6 hown hK.1 hP 0 0 rfl rfl (by decide) tw64 rfl rfl dX6_addBlock_70 ?_
  refine lv_iload hx hb dX6_addBlock_73 (lv_at hl 0 rfl) ?_
  refine lv_iconst (v := (4 : Int32)) hx hb dX6_addBlock_75 (by decide) ?_
  refine lv_iload_n hx hb dX6_addBlock_76 rfl (lv_at hl 2 rfl) ?_
  refine lv_iload_n hx hb dX6_addBlock_77 rfl (lv_at hl 3 rfl) ?_
  refine o_imul hx hb dX6_addBlock_78 h (fun v8 h => ?_)
  refine lv_iload_n hx hb dX6_addBlock_79 rfl (lv_at hl 4 rfl) ?_
  refine o_imul hx hb dX6_addBlock_80 h (fun v9 h => ?_)
  refine lv_iload hx hb dX6_addBlock_81 (lv_at hl 5 rfl) ?_
  refine o_imul hx hb dX6_addBlock_83 h (fun v10 h => ?_)
  refine lv_sipush (v := (10000 : Int32)) hx hb dX6_addBlock_84 (by decide) ?_
  refine o_idiv hx hb dX6_addBlock_87 (by decide) h (fun v11 h => ?_)
  obtain ⟨f12, hc, h⟩ := zb1_s h
  refine zG_v (w1 := wX5 ct a f12) (ws' := wX6 ct a f12) hP hD hS hA [2, 3] [0, 1] [0, 1, 2, 3] rfl rfl (by decide) (by decide) rfl (by decide) (zrV (C := RX5) (As := [.int v1, .int (4 : Int32), .int v11]) (rest := []) hx hb hml hown hts tw286 mv_X5_setBlockCell ⟨Nat.le_of_ble_eq_true rfl, Nat.le_of_ble_eq_true rfl⟩ rfl rfl (ct_X5_setBlockCell l D ct a f7 _ v1 (4 : Int32) v11 k f12 hc) (z_wv hK hP hD [2, 3] (by decide) rfl 2 rfl rfl) hl.1 rfl rfl (Nat.le_of_ble_eq_true rfl) dX6_addBlock_88 ⟨Nat.le_refl _, Nat.le_refl _⟩) (fun H locs hP hD hS => ?_)
  refine lv_aload_n hx hb dX6_addBlock_91 rfl (lv_at hl 1 rfl) ?_
  refine z_get (C := RX6) (T := TX6) (N := 2) (ci := 5) hx hb hts zin_X6 hown hK.1 hP 0 0 rfl rfl (by decide) tw64 rfl rfl dX6_addBlock_92 ?_
  refine lv_iload hx hb dX6_addBlock_95 (lv_at hl 0 rfl) ?_
  refine lv_iconst (v := (5 : Int32)) hx hb dX6_addBlock_97 (by decide) ?_
  refine lv_iconst (v := (0 : Int32)) hx hb dX6_addBlock_98 (by decide) ?_
  obtain ⟨f13, hc, h⟩ := zb1_s h
  refine zG_v (w1 := wX5 ct a f13) (ws' := wX6 ct a f13) hP hD hS hA [2, 3] [0, 1] [0, 1, 2, 3] rfl rfl (by decide) (by decide) rfl (by decide) (zrV (C := RX5) (As := [.int v1, .int (5 : Int32), .int (0 : Int32)]) (rest := []) hx hb hml hown hts tw286 mv_X5_setBlockCell ⟨Nat.le_of_ble_eq_true rfl, Nat.le_of_ble_eq_true rfl⟩ rfl rfl (ct_X5_setBlockCell l D ct a f12 _ v1 (5 : Int32) (0 : Int32) k f13 hc) (z_wv hK hP hD [2, 3] (by decide) rfl 2 rfl rfl) hl.1 rfl rfl (Nat.le_of_ble_eq_true rfl) dX6_addBlock_99 ⟨Nat.le_refl _, Nat.le_refl _⟩) (fun H locs hP hD hS => ?_)
  refine lv_aload_n hx hb dX6_addBlock_102 rfl (lv_at hl 1 rfl) ?_
  refine z_get (C := RX6) (T := TX6) (N := 2) (ci := 5) hx hb hts zin_X6 hown hK.1 hP 0 0 rfl rfl (by decide) tw64 rfl rfl dX6_addBlock_103 ?_
  refine lv_iload hx hb dX6_addBlock_106 (lv_at hl 0 rfl) ?_
  refine lv_bipush (v := (6 : Int32)) hx hb dX6_addBlock_108 (by decide) ?_
  refine lv_iconst (v := (3 : Int32)) hx hb dX6_addBlock_110 (by decide) ?_
  obtain ⟨f14, hc, h⟩ := zb1_s h
  refine zG_v (w1 := wX5 ct a f14) (ws' := wX6 ct a f14) hP hD hS hA [2, 3] [0, 1] [0, 1, 2, 3] rfl rfl (by decide) (by decide) rfl (by decide) (zrV (C := RX5) (As := [.int v1, .int (6 : Int32), .int (3 : Int32)]) (rest := []) hx hb hml hown hts tw286 mv_X5_setBlockCell ⟨Nat.le_of_ble_eq_true rfl, Nat.le_of_ble_eq_true rfl⟩ rfl rfl (ct_X5_setBlockCell l D ct a f13 _ v1 (6 : Int32) (3 : Int32) k f14 hc) (z_wv hK hP hD [2, 3] (by decide) rfl 2 rfl rfl) hl.1 rfl rfl (Nat.le_of_ble_eq_true rfl) dX6_addBlock_111 ⟨Nat.le_refl _, Nat.le_refl _⟩) (fun H locs hP hD hS => ?_)
  refine lv_aload_n hx hb dX6_addBlock_114 rfl (lv_at hl 1 rfl) ?_
  refine z_get (C := RX6) (T := TX6) (N := 2) (ci := 5) hx hb hts zin_X6 hown hK.1 hP 0 0 rfl rfl (by decide) tw64 rfl rfl dX6_addBlock_115 ?_
  refine lv_iload hx hb dX6_addBlock_118 (lv_at hl 0 rfl) ?_
  refine lv_bipush (v := (7 : Int32)) hx hb dX6_addBlock_120 (by decide) ?_
  refine lv_iconst (v := (0 : Int32)) hx hb dX6_addBlock_122 (by decide) ?_
  obtain ⟨f15, hc, h⟩ := zb1_s h
  refine zG_v (w1 := wX5 ct a f15) (ws' := wX6 ct a f15) hP hD hS hA [2, 3] [0, 1] [0, 1, 2, 3] rfl rfl (by decide) (by decide) rfl (by decide) (zrV (C := RX5) (As := [.int v1, .int (7 : Int32), .int (0 : Int32)]) (rest := []) hx hb hml hown hts tw286 mv_X5_setBlockCell ⟨Nat.le_of_ble_eq_true rfl, Nat.le_of_ble_eq_true rfl⟩ rfl rfl (ct_X5_setBlockCell l D ct a f14 _ v1 (7 : Int32) (0 : Int32) k f15 hc) (z_wv hK hP hD [2, 3] (by decide) rfl 2 rfl rfl) hl.1 rfl rfl (Nat.le_of_ble_eq_true rfl) dX6_addBlock_123 ⟨Nat.le_refl _, Nat.le_refl _⟩) (fun H locs hP hD hS => ?_)
  refine lv_aload_n hx hb dX6_addBlock_126 rfl (lv_at hl 1 rfl) ?_
  refine z_get (C := RX6) (T := TX6) (N := 2) (ci := 5) hx hb hts zin_X6 hown hK.1 hP 0 0 rfl rfl (by decide) tw64 rfl rfl dX6_addBlock_127 ?_
  refine lv_iload hx hb dX6_addBlock_130 (lv_at hl 0 rfl) ?_
  refine lv_bipush (v := (8 : Int32)) hx hb dX6_addBlock_132 (by decide) ?_
  refine lv_bipush (v := (-6 : Int32)) hx hb dX6_addBlock_134 (by decide) ?_
  obtain ⟨f16, hc, h⟩ := zb1_s h
  refine zG_v (w1 := wX5 ct a f16) (ws' := wX6 ct a f16) hP hD hS hA [2, 3] [0, 1] [0, 1, 2, 3] rfl rfl (by decide) (by decide) rfl (by decide) (zrV (C := RX5) (As := [.int v1, .int (8 : Int32), .int (-6 : Int32)]) (rest := []) hx hb hml hown hts tw286 mv_X5_setBlockCell ⟨Nat.le_of_ble_eq_true rfl, Nat.le_of_ble_eq_true rfl⟩ rfl rfl (ct_X5_setBlockCell l D ct a f15 _ v1 (8 : Int32) (-6 : Int32) k f16 hc) (z_wv hK hP hD [2, 3] (by decide) rfl 2 rfl rfl) hl.1 rfl rfl (Nat.le_of_ble_eq_true rfl) dX6_addBlock_136 ⟨Nat.le_refl _, Nat.le_refl _⟩) (fun H locs hP hD hS => ?_)
  refine lv_aload_n hx hb dX6_addBlock_139 rfl (lv_at hl 1 rfl) ?_
  refine z_get (C := RX6) (T := TX6) (N := 2) (ci := 5) hx hb hts zin_X6 hown hK.1 hP 0 0 rfl rfl (by decide) tw64 rfl rfl dX6_addBlock_140 ?_
  refine lv_iload hx hb dX6_addBlock_143 (lv_at hl 0 rfl) ?_
  refine lv_bipush (v := (9 : Int32)) hx hb dX6_addBlock_145 (by decide) ?_
  refine lv_bipush (v := (-6 : Int32)) hx hb dX6_addBlock_147 (by decide) ?_
  obtain ⟨f17, hc, h⟩ := zb1_s h
  refine zG_v (w1 := wX5 ct a f17) (ws' := wX6 ct a f17) hP hD hS hA [2, 3] [0, 1] [0, 1, 2, 3] rfl rfl (by decide) (by decide) rfl (by decide) (zrV (C := RX5) (As := [.int v1, .int (9 : Int32), .int (-6 : Int32)]) (rest := []) hx hb hml hown hts tw286 mv_X5_setBlockCell ⟨Nat.le_of_ble_eq_true rfl, Nat.le_of_ble_eq_true rfl⟩ rfl rfl (ct_X5_setBlockCell l D ct a f16 _ v1 (9 : Int32) (-6 : Int32) k f17 hc) (z_wv hK hP hD [2, 3] (by decide) rfl 2 rfl rfl) hl.1 rfl rfl (Nat.le_of_ble_eq_true rfl) dX6_addBlock_149 ⟨Nat.le_refl _, Nat.le_refl _⟩) (fun H locs hP hD hS => ?_)
  refine lv_aload_n hx hb dX6_addBlock_152 rfl (lv_at hl 1 rfl) ?_
  refine z_get (C := RX6) (T := TX6) (N := 2) (ci := 5) hx hb hts zin_X6 hown hK.1 hP 0 0 rfl rfl (by decide) tw64 rfl rfl dX6_addBlock_153 ?_
  refine lv_iload hx hb dX6_addBlock_156 (lv_at hl 0 rfl) ?_
  refine lv_bipush (v := (10 : Int32)) hx hb dX6_addBlock_158 (by decide) ?_
  refine lv_bipush (v := (-6 : Int32)) hx hb dX6_addBlock_160 (by decide) ?_
  obtain ⟨f18, hc, h⟩ := zb1_s h
  refine zG_v (w1 := wX5 ct a f18) (ws' := wX6 ct a f18) hP hD hS hA [2, 3] [0, 1] [0, 1, 2, 3] rfl rfl (by decide) (by decide) rfl (by decide) (zrV (C := RX5) (As := [.int v1, .int (10 : Int32), .int (-6 : Int32)]) (rest := []) hx hb hml hown hts tw286 mv_X5_setBlockCell ⟨Nat.le_of_ble_eq_true rfl, Nat.le_of_ble_eq_true rfl⟩ rfl rfl (ct_X5_setBlockCell l D ct a f17 _ v1 (10 : Int32) (-6 : Int32) k f18 hc) (z_wv hK hP hD [2, 3] (by decide) rfl 2 rfl rfl) hl.1 rfl rfl (Nat.le_of_ble_eq_true rfl) dX6_addBlock_162 ⟨Nat.le_refl _, Nat.le_refl _⟩) (fun H locs hP hD hS => ?_)
  refine lv_iload hx hb dX6_addBlock_165 (lv_at hl 0 rfl) ?_
  cases h
  exact zX_i hx hb hr hlocks hP hD hS hAe dX6_addBlock_167 rfl

def f_X6_quarryBlock (k : Nat) (f : Nat → Int32) (p1 : Int32) (p2 : Int32) (p3 : Int32) (p4 : Int32) : Option (Int32 × (Nat → Int32)) :=
  zb1 (f_X7_isSize k p1) fun v1 =>
  if v1 = 0 then
    some ((-2 : Int32), f)
  else
    zb1 (f_X7_isSize k p2) fun v2 =>
    if v2 = 0 then
      some ((-2 : Int32), f)
    else
      zb1 (f_X7_isSize k p3) fun v3 =>
      if v3 = 0 then
        some ((-2 : Int32), f)
      else
        if p4 < (20 : Int32) then
          some ((-2 : Int32), f)
        else
          if p4 ≤ (30 : Int32) then
            zb1 (f_X5_cell k f (6 : Int32)) fun v4 =>
            if v4 < (24 : Int32) then
              zb2 (f_X6_addBlock k f p1 p2 p3 p4) fun v5 f6 =>
              some (v5, f6)
            else
              some ((-4 : Int32), f)
          else
            some ((-2 : Int32), f)
set_option maxRecDepth 100000 in
set_option maxHeartbeats 4000000 in
theorem ct_X6_quarryBlock (l : Launch) (D : va_G) (ct a : Nat → Nat) (f : Nat → Int32) (sz : Nat) (p1 : Int32) (p2 : Int32) (p3 : Int32) (p4 : Int32) (k : Nat) (r : Int32) (f' : Nat → Int32) (h : f_X6_quarryBlock k f p1 p2 p3 p4 = some (r, f')) : Met l yX6_quarryBlock (Cond.code yX6_quarryBlock cX6_quarryBlock 5 (some .int) :: zT) ({ frames := 3, cells := 0, slots := 0, locals := 70 } : Room) (va_Pc [.ref (a 1), .int p1, .int p2, .int p3, .int p4] (zPW D (zTys ct) (wX6 ct a f) sz)) (va_Qi (fun r' (_ : Unit) => r' = r) (zQW D (wX6 ct a f) sz (wX6 ct a f')) (va_A (wX6 ct a f) sz)) 0 0 (va_A (wX6 ct a f) sz) := by
  refine zMet (cc := cX6_quarryBlock) (maxL := 5) (ret := (some .int)) (av := [.ref (a 1), .int p1, .int p2, .int p3, .int p4]) (by decide) (Nat.le_of_ble_eq_true rfl) (fun p e s m below meth c ls hx hb hr hml hts hown hlocks hin hB hl => ?_)
  have hl : lv_has ls 5 [(0, .ref (a 1)), (1, .int p1), (2, .int p2), (3, .int p3), (4, .int p4)] := hl
  have hown : s.vm.findClass RX6 = some m.cls := hown
  obtain ⟨hsz, hP, hK, hD0⟩ := hB
  subst hsz
  have hD := hD0.self (sz := s.heap.size)
  obtain ⟨A, hAe⟩ : ∃ A, A = va_A (wX6 ct a f) s.heap.size := ⟨_, rfl⟩
  rw [← hAe] at hD
  have hA : ∀ q : Nat, s.heap.size ≤ q → A q := fun q h => by rw [hAe]; exact Or.inr h
  have hS : va_S A s.heap s.heap [] := va_S.rf
  rw [f_X6_quarryBlock] at h
  refine lv_iload_n hx hb dX6_quarryBlock_0 rfl (lv_at hl 1 rfl) ?_
  obtain ⟨v1, hc, h⟩ := zb1_s h
  refine zE_i (zrN (As := [.int p1]) (rest := []) hx hb hml hown hts (nw277 hK.2) ms_X7_isSize ⟨Nat.le_of_ble_eq_true rfl, Nat.le_of_ble_eq_true rfl⟩ rfl rfl (ct_X7_isSize l p1 k v1 hc) z_p0 hl.1 rfl rfl (Nat.le_of_ble_eq_true rfl) dX6_quarryBlock_1 ⟨Nat.le_refl _, Nat.le_refl _⟩) ?_
  refine zi_eq (tgt := 35) hx hb dX6_quarryBlock_4 (by decide) h (fun h => ?_) (fun h => ?_)
  · refine lv_bipush (v := (-2 : Int32)) hx hb dX6_quarryBlock_35 (by decide) ?_
    cases h
    exact zX_i hx hb hr hlocks hP hD hS hAe dX6_quarryBlock_37 rfl
  · refine lv_iload_n hx hb dX6_quarryBlock_7 rfl (lv_at hl 2 rfl) ?_
    obtain ⟨v2, hc, h⟩ := zb1_s h
    refine zE_i (zrN (As := [.int p2]) (rest := []) hx hb hml hown hts (nw277 hK.2) ms_X7_isSize ⟨Nat.le_of_ble_eq_true rfl, Nat.le_of_ble_eq_true rfl⟩ rfl rfl (ct_X7_isSize l p2 k v2 hc) z_p0 hl.1 rfl rfl (Nat.le_of_ble_eq_true rfl) dX6_quarryBlock_8 ⟨Nat.le_refl _, Nat.le_refl _⟩) ?_
    refine zi_eq (tgt := 35) hx hb dX6_quarryBlock_11 (by decide) h (fun h => ?_) (fun h => ?_)
    · refine lv_bipush (v := (-2 : Int32)) hx hb dX6_quarryBlock_35 (by decide) ?_
      cases h
      exact zX_i hx hb hr hlocks hP hD hS hAe dX6_quarryBlock_37 rfl
    · refine lv_iload_n hx hb dX6_quarryBlock_14 rfl (lv_at hl 3 rfl) ?_
      obtain ⟨v3, hc, h⟩ := zb1_s h
      refine zE_i (zrN (As := [.int p3]) (rest := []) hx hb hml hown hts (nw277 hK.2) ms_X7_isSize ⟨Nat.le_of_ble_eq_true rfl, Nat.le_of_ble_eq_true rfl⟩ rfl rfl (ct_X7_isSize l p3 k v3 hc) z_p0 hl.1 rfl rfl (Nat.le_of_ble_eq_true rfl) dX6_quarryBlock_15 ⟨Nat.le_refl _, Nat.le_refl _⟩) ?_
      refine zi_eq (tgt := 35) hx hb dX6_quarryBlock_18 (by decide) h (fun h => ?_) (fun h => ?_)
      · refine lv_bipush (v := (-2 : Int32)) hx hb dX6_quarryBlock_35 (by decide) ?_
        cases h
        exact zX_i hx hb hr hlocks hP hD hS hAe dX6_quarryBlock_37 rfl
      · refine lv_iload hx hb dX6_quarryBlock_21 (lv_at hl 4 rfl) ?_
        refine lv_bipush (v := (20 : Int32)) hx hb dX6_quarryBlock_23 (by decide) ?_
        refine zc_lt (tgt := 35) hx hb dX6_quarryBlock_25 (by decide) h (fun h => ?_) (fun h => ?_)
        · refine lv_bipush (v := (-2 : Int32)) hx hb dX6_quarryBlock_35 (by decide) ?_
          cases h
          exact zX_i hx hb hr hlocks hP hD hS hAe dX6_quarryBlock_37 rfl
        · refine lv_iload hx hb dX6_quarryBlock_28 (lv_at hl 4 rfl) ?_
          refine lv_bipush (v := (30 : Int32)) hx hb dX6_quarryBlock_30 (by decide) ?_
          refine zc_le (tgt := 38) hx hb dX6_quarryBlock_32 (by decide) h (fun h => ?_) (fun h => ?_)
          · refine lv_aload_n hx hb dX6_quarryBlock_38 rfl (lv_at hl 0 rfl) ?_
            refine z_get (C := RX6) (T := TX6) (N := 2) (ci := 5) hx hb hts zin_X6 hown hK.1 hP 0 0 rfl rfl (by decide) tw64 rfl rfl dX6_quarryBlock_39 ?_
            refine lv_bipush (v := (6 : Int32)) hx hb dX6_quarryBlock_42 (by decide) ?_
            obtain ⟨v4, hc, h⟩ := zb1_s h
            refine zE_i (zrV (C := RX5) (As := [.int (6 : Int32)]) (rest := []) hx hb hml hown hts tw280 mv_X5_cell ⟨Nat.le_of_ble_eq_true rfl, Nat.le_of_ble_eq_true rfl⟩ rfl rfl (ct_X5_cell l D ct a f (6 : Int32) k v4 hc) (z_pv hK hP [2, 3] rfl 2 rfl rfl) hl.1 rfl rfl (Nat.le_of_ble_eq_true rfl) dX6_quarryBlock_44 ⟨Nat.le_refl _, Nat.le_refl _⟩) ?_
            refine lv_bipush (v := (24 : Int32)) hx hb dX6_quarryBlock_47 (by decide) ?_
            refine zc_lt (tgt := 57) hx hb dX6_quarryBlock_49 (by decide) h (fun h => ?_) (fun h => ?_)
            · refine lv_aload_n hx hb dX6_quarryBlock_57 rfl (lv_at hl 0 rfl) ?_
              refine lv_iload_n hx hb dX6_quarryBlock_58 rfl (lv_at hl 1 rfl) ?_
              refine lv_iload_n hx hb dX6_quarryBlock_59 rfl (lv_at hl 2 rfl) ?_
              refine lv_iload_n hx hb dX6_quarryBlock_60 rfl (lv_at hl 3 rfl) ?_
              refine lv_iload hx hb dX6_quarryBlock_61 (lv_at hl 4 rfl) ?_
              obtain ⟨v5, f6, hc, h⟩ := zb2_s h
              refine zG_i (w1 := wX6 ct a f6) (ws' := wX6 ct a f6) hP hD hS hA [0, 1, 2, 3] [] [0, 1, 2, 3] rfl rfl (by decide) (by decide) rfl (by decide) (zrV (C := RX6) (As := [.int p1, .int p2, .int p3, .int p4]) (rest := []) hx hb hml hown hts tw281 mv_X6_addBlock ⟨Nat.le_of_ble_eq_true rfl, Nat.le_of_ble_eq_true rfl⟩ rfl rfl (ct_X6_addBlock l D ct a f _ p1 p2 p3 p4 k v5 f6 hc) (z_wv hK hP hD [0, 1, 2, 3] (by decide) rfl 0 rfl rfl) hl.1 rfl rfl (Nat.le_of_ble_eq_true rfl) dX6_quarryBlock_63 ⟨Nat.le_refl _, Nat.le_refl _⟩) (fun H locs hP hD hS => ?_)
              cases h
              exact zX_i hx hb hr hlocks hP hD hS hAe dX6_quarryBlock_66 rfl
            · refine lv_bipush (v := (-4 : Int32)) hx hb dX6_quarryBlock_52 (by decide) ?_
              refine lv_goto (tgt := 66) hx hb dX6_quarryBlock_54 (by decide) ?_
              cases h
              exact zX_i hx hb hr hlocks hP hD hS hAe dX6_quarryBlock_66 rfl
          · refine lv_bipush (v := (-2 : Int32)) hx hb dX6_quarryBlock_35 (by decide) ?_
            cases h
            exact zX_i hx hb hr hlocks hP hD hS hAe dX6_quarryBlock_37 rfl

def f_X5_hasBlock (k : Nat) (f : Nat → Int32) (p1 : Int32) : Option (Int32) :=
  if p1 < 0 then
    some (0 : Int32)
  else
    zb1 (f_X5_cell k f (6 : Int32)) fun v1 =>
    if v1 ≤ p1 then
      some (0 : Int32)
    else
      some (1 : Int32)
set_option maxRecDepth 100000 in
set_option maxHeartbeats 4000000 in
theorem ct_X5_hasBlock (l : Launch) (D : va_G) (ct a : Nat → Nat) (f : Nat → Int32) (p1 : Int32) (k : Nat) (r : Int32) (h : f_X5_hasBlock k f p1 = some r) : Met l yX5_hasBlock (Cond.code yX5_hasBlock cX5_hasBlock 2 (some .boolean) :: zT) ({ frames := 1, cells := 0, slots := 0, locals := 21 } : Room) (va_Pc [.ref (a 3), .int p1] (zPR D (zTys ct) (wX5 ct a f))) (vp_Si (fun r' => r' = r)) 0 0 (fun _ => False) := by
  refine zMet (cc := cX5_hasBlock) (maxL := 2) (ret := (some .boolean)) (av := [.ref (a 3), .int p1]) (by decide) (Nat.le_of_ble_eq_true rfl) (fun p e s m below meth c ls hx hb hr hml hts hown hlocks hin hB hl => ?_)
  have hl : lv_has ls 2 [(0, .ref (a 3)), (1, .int p1)] := hl
  have hown : s.vm.findClass RX5 = some m.cls := hown
  obtain ⟨hP, hK⟩ := hB
  rw [f_X5_hasBlock] at h
  refine lv_iload_n hx hb dX5_hasBlock_0 rfl (lv_at hl 1 rfl) ?_
  refine zi_lt (tgt := 18) hx hb dX5_hasBlock_1 (by decide) h (fun h => ?_) (fun h => ?_)
  · refine lv_iconst (v := (0 : Int32)) hx hb dX5_hasBlock_18 (by decide) ?_
    exact zR_z hx hb hr hlocks dX5_hasBlock_19 h
  · refine lv_iload_n hx hb dX5_hasBlock_4 rfl (lv_at hl 1 rfl) ?_
    refine lv_aload_n hx hb dX5_hasBlock_5 rfl (lv_at hl 0 rfl) ?_
    refine lv_bipush (v := (6 : Int32)) hx hb dX5_hasBlock_6 (by decide) ?_
    obtain ⟨v1, hc, h⟩ := zb1_s h
    refine zE_i (zrV (C := RX5) (As := [.int (6 : Int32)]) (rest := [.int p1]) hx hb hml hown hts tw164 mv_X5_cell ⟨Nat.le_of_ble_eq_true rfl, Nat.le_of_ble_eq_true rfl⟩ rfl rfl (ct_X5_cell l D ct a f (6 : Int32) k v1 hc) (z_pv hK hP [0, 1] rfl 0 rfl rfl) hl.1 rfl rfl (Nat.le_of_ble_eq_true rfl) dX5_hasBlock_8 ⟨Nat.le_refl _, Nat.le_refl _⟩) ?_
    refine zc_ge (tgt := 18) hx hb dX5_hasBlock_11 (by decide) h (fun h => ?_) (fun h => ?_)
    · refine lv_iconst (v := (0 : Int32)) hx hb dX5_hasBlock_18 (by decide) ?_
      exact zR_z hx hb hr hlocks dX5_hasBlock_19 h
    · refine lv_iconst (v := (1 : Int32)) hx hb dX5_hasBlock_14 (by decide) ?_
      refine lv_goto (tgt := 19) hx hb dX5_hasBlock_15 (by decide) ?_
      exact zR_z hx hb hr hlocks dX5_hasBlock_19 h

def f_X5_blockCell (k : Nat) (f : Nat → Int32) (p1 : Int32) (p2 : Int32) : Option (Int32) :=
  zl (p1 * (11 : Int32)) fun v1 =>
  zl ((8 : Int32) + v1) fun v2 =>
  zl (v2 + p2) fun v3 =>
  if v3 < 0 then
    some (0 : Int32)
  else
    if (344 : Int32) ≤ v3 then
      some (0 : Int32)
    else
      zg (zin v3 344) (zl (f v3.toNatClampNeg) fun v4 =>
      some v4)
set_option maxRecDepth 100000 in
set_option maxHeartbeats 4000000 in
theorem ct_X5_blockCell (l : Launch) (D : va_G) (ct a : Nat → Nat) (f : Nat → Int32) (p1 : Int32) (p2 : Int32) (k : Nat) (r : Int32) (h : f_X5_blockCell k f p1 p2 = some r) : Met l yX5_blockCell (Cond.code yX5_blockCell cX5_blockCell 4 (some .int) :: zT) ({ frames := 0, cells := 0, slots := 0, locals := 0 } : Room) (va_Pc [.ref (a 3), .int p1, .int p2] (zPR D (zTys ct) (wX5 ct a f))) (vp_Si (fun r' => r' = r)) 0 0 (fun _ => False) := by
  refine zMet (cc := cX5_blockCell) (maxL := 4) (ret := (some .int)) (av := [.ref (a 3), .int p1, .int p2]) (by decide) (Nat.le_of_ble_eq_true rfl) (fun p e s m below meth c ls hx hb hr hml hts hown hlocks hin hB hl => ?_)
  have hl : lv_has ls 4 [(0, .ref (a 3)), (1, .int p1), (2, .int p2)] := hl
  have hown : s.vm.findClass RX5 = some m.cls := hown
  obtain ⟨hP, hK⟩ := hB
  rw [f_X5_blockCell] at h
  refine lv_bipush (v := (8 : Int32)) hx hb dX5_blockCell_0 (by decide) ?_
  refine lv_iload_n hx hb dX5_blockCell_2 rfl (lv_at hl 1 rfl) ?_
  refine lv_bipush (v := (11 : Int32)) hx hb dX5_blockCell_3 (by decide) ?_
  refine o_imul hx hb dX5_blockCell_5 h (fun v1 h => ?_)
  refine o_iadd hx hb dX5_blockCell_6 h (fun v2 h => ?_)
  refine lv_iload_n hx hb dX5_blockCell_7 rfl (lv_at hl 2 rfl) ?_
  refine o_iadd hx hb dX5_blockCell_8 h (fun v3 h => ?_)
  refine lv_istore_n (lv' := [(3, .int v3), (0, .ref (a 3)), (1, .int p1), (2, .int p2)]) hx hb dX5_blockCell_9 rfl hl (by decide) rfl (fun ls hl => ?_)
  refine lv_iload_n hx hb dX5_blockCell_10 rfl (lv_at hl 0 rfl) ?_
  refine zi_lt (tgt := 32) hx hb dX5_blockCell_11 (by decide) h (fun h => ?_) (fun h => ?_)
  · refine lv_iconst (v := (0 : Int32)) hx hb dX5_blockCell_32 (by decide) ?_
    exact zR_i hx hb hr hlocks dX5_blockCell_33 h
  · refine lv_iload_n hx hb dX5_blockCell_14 rfl (lv_at hl 0 rfl) ?_
    refine lv_aload_n hx hb dX5_blockCell_15 rfl (lv_at hl 1 rfl) ?_
    refine z_get (C := RX5) (T := TX5) (N := 1) (ci := 4) hx hb hts zin_X5 hown hK.1 hP 0 0 rfl rfl (by decide) tw43 rfl rfl dX5_blockCell_16 ?_
    refine y_alen (v := (344 : Int32)) hx hb hK hP 1 0 rfl rfl rfl dX5_blockCell_19 ?_
    refine zc_ge (tgt := 32) hx hb dX5_blockCell_20 (by decide) h (fun h => ?_) (fun h => ?_)
    · refine lv_iconst (v := (0 : Int32)) hx hb dX5_blockCell_32 (by decide) ?_
      exact zR_i hx hb hr hlocks dX5_blockCell_33 h
    · refine lv_aload_n hx hb dX5_blockCell_23 rfl (lv_at hl 1 rfl) ?_
      refine z_get (C := RX5) (T := TX5) (N := 1) (ci := 4) hx hb hts zin_X5 hown hK.1 hP 0 0 rfl rfl (by decide) tw43 rfl rfl dX5_blockCell_24 ?_
      refine lv_iload_n hx hb dX5_blockCell_27 rfl (lv_at hl 0 rfl) ?_
      refine y_iald hx hb hK hP 1 0 rfl rfl h dX5_blockCell_28 (fun v4 h => ?_)
      refine lv_goto (tgt := 33) hx hb dX5_blockCell_29 (by decide) ?_
      exact zR_i hx hb hr hlocks dX5_blockCell_33 h

def f_X1_isAtHand (k : Nat) (f : Nat → Int32) (p1 : Int32) : Option (Int32) :=
  zb1 (f_X5_blockCell k f p1 (5 : Int32)) fun v1 =>
  if v1 = 0 then
    some (1 : Int32)
  else
    if v1 = (1 : Int32) then
      some (1 : Int32)
    else
      some (0 : Int32)
set_option maxRecDepth 100000 in
set_option maxHeartbeats 4000000 in
theorem ct_X1_isAtHand (l : Launch) (D : va_G) (ct a : Nat → Nat) (f : Nat → Int32) (p1 : Int32) (k : Nat) (r : Int32) (h : f_X1_isAtHand k f p1 = some r) : Met l yX1_isAtHand (Cond.code yX1_isAtHand cX1_isAtHand 3 (some .boolean) :: zT) ({ frames := 1, cells := 0, slots := 0, locals := 23 } : Room) (va_Pc [.ref (a 2), .int p1] (zPR D (zTys ct) (wX1 ct a f))) (vp_Si (fun r' => r' = r)) 0 0 (fun _ => False) := by
  refine zMet (cc := cX1_isAtHand) (maxL := 3) (ret := (some .boolean)) (av := [.ref (a 2), .int p1]) (by decide) (Nat.le_of_ble_eq_true rfl) (fun p e s m below meth c ls hx hb hr hml hts hown hlocks hin hB hl => ?_)
  have hl : lv_has ls 3 [(0, .ref (a 2)), (1, .int p1)] := hl
  have hown : s.vm.findClass RX1 = some m.cls := hown
  obtain ⟨hP, hK⟩ := hB
  rw [f_X1_isAtHand] at h
  refine lv_aload_n hx hb dX1_isAtHand_0 rfl (lv_at hl 0 rfl) ?_
  refine z_get (C := RX1) (T := TX1) (N := 1) (ci := 0) hx hb hts zin_X1 hown hK.1 hP 0 0 rfl rfl (by decide) tw54 rfl rfl dX1_isAtHand_1 ?_
  refine lv_iload_n hx hb dX1_isAtHand_4 rfl (lv_at hl 1 rfl) ?_
  refine lv_iconst (v := (5 : Int32)) hx hb dX1_isAtHand_5 (by decide) ?_
  obtain ⟨v1, hc, h⟩ := zb1_s h
  refine zE_i (zrV (C := RX5) (As := [.int p1, .int (5 : Int32)]) (rest := []) hx hb hml hown hts tw183 mv_X5_blockCell ⟨Nat.le_of_ble_eq_true rfl, Nat.le_of_ble_eq_true rfl⟩ rfl rfl (ct_X5_blockCell l D ct a f p1 (5 : Int32) k v1 hc) (z_pv hK hP [1, 2] rfl 1 rfl rfl) hl.1 rfl rfl (Nat.le_of_ble_eq_true rfl) dX1_isAtHand_6 ⟨Nat.le_refl _, Nat.le_refl _⟩) ?_
  refine lv_istore_n (lv' := [(2, .int v1), (0, .ref (a 2)), (1, .int p1)]) hx hb dX1_isAtHand_9 rfl hl (by decide) rfl (fun ls hl => ?_)
  refine lv_iload_n hx hb dX1_isAtHand_10 rfl (lv_at hl 0 rfl) ?_
  refine zi_eq (tgt := 19) hx hb dX1_isAtHand_11 (by decide) h (fun h => ?_) (fun h => ?_)
  · refine lv_iconst (v := (1 : Int32)) hx hb dX1_isAtHand_19 (by decide) ?_
    refine lv_goto (tgt := 24) hx hb dX1_isAtHand_20 (by decide) ?_
    exact zR_z hx hb hr hlocks dX1_isAtHand_24 h
  · refine lv_iload_n hx hb dX1_isAtHand_14 rfl (lv_at hl 0 rfl) ?_
    refine lv_iconst (v := (1 : Int32)) hx hb dX1_isAtHand_15 (by decide) ?_
    refine zc_ne (tgt := 23) hx hb dX1_isAtHand_16 (by decide) h (fun h => ?_) (fun h => ?_)
    · refine lv_iconst (v := (0 : Int32)) hx hb dX1_isAtHand_23 (by decide) ?_
      exact zR_z hx hb hr hlocks dX1_isAtHand_24 h
    · refine lv_iconst (v := (1 : Int32)) hx hb dX1_isAtHand_19 (by decide) ?_
      refine lv_goto (tgt := 24) hx hb dX1_isAtHand_20 (by decide) ?_
      exact zR_z hx hb hr hlocks dX1_isAtHand_24 h

def f_X1_mayBeSawn (k : Nat) (f : Nat → Int32) (p1 : Int32) : Option (Int32) :=
  zb1 (f_X5_cell k f (4 : Int32)) fun v1 =>
  if v1 = 0 then
    zb1 (f_X1_isAtHand k f p1) fun v2 =>
    if v2 = 0 then
      some (0 : Int32)
    else
      zb1 (f_X5_blockCell k f p1 (8 : Int32)) fun v3 =>
      if v3 = (-6 : Int32) then
        some (1 : Int32)
      else
        some (0 : Int32)
  else
    some (0 : Int32)
set_option maxRecDepth 100000 in
set_option maxHeartbeats 4000000 in
theorem ct_X1_mayBeSawn (l : Launch) (D : va_G) (ct a : Nat → Nat) (f : Nat → Int32) (p1 : Int32) (k : Nat) (r : Int32) (h : f_X1_mayBeSawn k f p1 = some r) : Met l yX1_mayBeSawn (Cond.code yX1_mayBeSawn cX1_mayBeSawn 2 (some .boolean) :: zT) ({ frames := 2, cells := 0, slots := 0, locals := 45 } : Room) (va_Pc [.ref (a 2), .int p1] (zPR D (zTys ct) (wX1 ct a f))) (vp_Si (fun r' => r' = r)) 0 0 (fun _ => False) := by
  refine zMet (cc := cX1_mayBeSawn) (maxL := 2) (ret := (some .boolean)) (av := [.ref (a 2), .int p1]) (by decide) (Nat.le_of_ble_eq_true rfl) (fun p e s m below meth c ls hx hb hr hml hts hown hlocks hin hB hl => ?_)
  have hl : lv_has ls 2 [(0, .ref (a 2)), (1, .int p1)] := hl
  have hown : s.vm.findClass RX1 = some m.cls := hown
  obtain ⟨hP, hK⟩ := hB
  rw [f_X1_mayBeSawn] at h
  refine lv_aload_n hx hb dX1_mayBeSawn_0 rfl (lv_at hl 0 rfl) ?_
  refine z_get (C := RX1) (T := TX1) (N := 1) (ci := 0) hx hb hts zin_X1 hown hK.1 hP 0 0 rfl rfl (by decide) tw54 rfl rfl dX1_mayBeSawn_1 ?_
  refine lv_iconst (v := (4 : Int32)) hx hb dX1_mayBeSawn_4 (by decide) ?_
  obtain ⟨v1, hc, h⟩ := zb1_s h
  refine zE_i (zrV (C := RX5) (As := [.int (4 : Int32)]) (rest := []) hx hb hml hown hts tw173 mv_X5_cell ⟨Nat.le_of_ble_eq_true rfl, Nat.le_of_ble_eq_true rfl⟩ rfl rfl (ct_X5_cell l D ct a f (4 : Int32) k v1 hc) (z_pv hK hP [1, 2] rfl 1 rfl rfl) hl.1 rfl rfl (Nat.le_of_ble_eq_true rfl) dX1_mayBeSawn_5 ⟨Nat.le_refl _, Nat.le_refl _⟩) ?_
  refine zi_ne (tgt := 38) hx hb dX1_mayBeSawn_8 (by decide) h (fun h => ?_) (fun h => ?_)
  · refine lv_iconst (v := (0 : Int32)) hx hb dX1_mayBeSawn_38 (by decide) ?_
    exact zR_z hx hb hr hlocks dX1_mayBeSawn_39 h
  · refine lv_aload_n hx hb dX1_mayBeSawn_11 rfl (lv_at hl 0 rfl) ?_
    refine lv_iload_n hx hb dX1_mayBeSawn_12 rfl (lv_at hl 1 rfl) ?_
    obtain ⟨v2, hc, h⟩ := zb1_s h
    refine zE_i (zrV (C := RX1) (As := [.int p1]) (rest := []) hx hb hml hown hts tw314 mv_X1_isAtHand ⟨Nat.le_of_ble_eq_true rfl, Nat.le_of_ble_eq_true rfl⟩ rfl rfl (ct_X1_isAtHand l D ct a f p1 k v2 hc) (z_pv hK hP [0, 1, 2] rfl 0 rfl rfl) hl.1 rfl rfl (Nat.le_of_ble_eq_true rfl) dX1_mayBeSawn_13 ⟨Nat.le_refl _, Nat.le_refl _⟩) ?_
    refine zi_eq (tgt := 38) hx hb dX1_mayBeSawn_16 (by decide) h (fun h => ?_) (fun h => ?_)
    · refine lv_iconst (v := (0 : Int32)) hx hb dX1_mayBeSawn_38 (by decide) ?_
      exact zR_z hx hb hr hlocks dX1_mayBeSawn_39 h
    · refine lv_aload_n hx hb dX1_mayBeSawn_19 rfl (lv_at hl 0 rfl) ?_
      refine z_get (C := RX1) (T := TX1) (N := 1) (ci := 0) hx hb hts zin_X1 hown hK.1 hP 0 0 rfl rfl (by decide) tw54 rfl rfl dX1_mayBeSawn_20 ?_
      refine lv_iload_n hx hb dX1_mayBeSawn_23 rfl (lv_at hl 1 rfl) ?_
      refine lv_bipush (v := (8 : Int32)) hx hb dX1_mayBeSawn_24 (by decide) ?_
      obtain ⟨v3, hc, h⟩ := zb1_s h
      refine zE_i (zrV (C := RX5) (As := [.int p1, .int (8 : Int32)]) (rest := []) hx hb hml hown hts tw183 mv_X5_blockCell ⟨Nat.le_of_ble_eq_true rfl, Nat.le_of_ble_eq_true rfl⟩ rfl rfl (ct_X5_blockCell l D ct a f p1 (8 : Int32) k v3 hc) (z_pv hK hP [1, 2] rfl 1 rfl rfl) hl.1 rfl rfl (Nat.le_of_ble_eq_true rfl) dX1_mayBeSawn_26 ⟨Nat.le_refl _, Nat.le_refl _⟩) ?_
      refine lv_bipush (v := (-6 : Int32)) hx hb dX1_mayBeSawn_29 (by decide) ?_
      refine zc_ne (tgt := 38) hx hb dX1_mayBeSawn_31 (by decide) h (fun h => ?_) (fun h => ?_)
      · refine lv_iconst (v := (0 : Int32)) hx hb dX1_mayBeSawn_38 (by decide) ?_
        exact zR_z hx hb hr hlocks dX1_mayBeSawn_39 h
      · refine lv_iconst (v := (1 : Int32)) hx hb dX1_mayBeSawn_34 (by decide) ?_
        refine lv_goto (tgt := 39) hx hb dX1_mayBeSawn_35 (by decide) ?_
        exact zR_z hx hb hr hlocks dX1_mayBeSawn_39 h

def f_X5_blocksWith_b13 (k : Nat) (f : Nat → Int32) (p1 : Int32) (p2 : Int32)  : Nat → Int32 → Int32 → Int32 → Option (Int32)
  | 0, _, _, _ => none
  | n + 1, x3, x4, x5 =>
    if x3 ≤ x5 then
      some x4
    else
      zb1 (f_X5_blockCell k f x5 p1) fun v2 =>
      if v2 = p2 then
        zl ((1 : Int32) <<< (x5 &&& 31)) fun v4 =>
        zl (x4 ||| v4) fun v5 =>
        zl (x5 + (1 : Int32)) fun v6 =>
        f_X5_blocksWith_b13 k f p1 p2 n x3 v5 v6
      else
        zl (x5 + (1 : Int32)) fun v3 =>
        f_X5_blocksWith_b13 k f p1 p2 n x3 x4 v3
def f_X5_blocksWith (k : Nat) (f : Nat → Int32) (p1 : Int32) (p2 : Int32) : Option (Int32) :=
  zb1 (f_X5_cell k f (6 : Int32)) fun v1 =>
  f_X5_blocksWith_b13 k f p1 p2 k v1 (0 : Int32) (0 : Int32)
set_option maxRecDepth 100000 in
set_option maxHeartbeats 4000000 in
theorem ct_X5_blocksWith (l : Launch) (D : va_G) (ct a : Nat → Nat) (f : Nat → Int32) (p1 : Int32) (p2 : Int32) (k : Nat) (r : Int32) (h : f_X5_blocksWith k f p1 p2 = some r) : Met l yX5_blocksWith (Cond.code yX5_blocksWith cX5_blocksWith 6 (some .int) :: zT) ({ frames := 1, cells := 0, slots := 0, locals := 23 } : Room) (va_Pc [.ref (a 3), .int p1, .int p2] (zPR D (zTys ct) (wX5 ct a f))) (vp_Si (fun r' => r' = r)) 0 0 (fun _ => False) := by
  refine zMet (cc := cX5_blocksWith) (maxL := 6) (ret := (some .int)) (av := [.ref (a 3), .int p1, .int p2]) (by decide) (Nat.le_of_ble_eq_true rfl) (fun p e s m below meth c ls hx hb hr hml hts hown hlocks hin hB hl => ?_)
  have hl : lv_has ls 6 [(0, .ref (a 3)), (1, .int p1), (2, .int p2)] := hl
  have hown : s.vm.findClass RX5 = some m.cls := hown
  obtain ⟨hP, hK⟩ := hB
  have B13 : ∀ (n : Nat), ∀ (x3 : Int32) (x4 : Int32) (x5 : Int32), f_X5_blocksWith_b13 k f p1 p2 n x3 x4 x5 = some r → ∀ (ls : Array Slot), lv_has ls 6 [(0, .ref (a 3)), (1, .int p1), (2, .int p2), (3, .int x3), (4, .int x4), (5, .int x5)] → W p l e ({ frames := 1, cells := 0, slots := 0, locals := 23 } : Room) s m ([.ref (a 3), .int p1, .int p2] : List Value).toArray below meth c s.heap [] 0 0 (MQ below (vp_Si (fun r' => r' = r)) ([.ref (a 3), .int p1, .int p2] : List Value).toArray s 0 0 (fun _ => False)) (F0 m 13 ls []) := by
    intro n
    induction n with
    | zero => intro x3 x4 x5 h; exact absurd h (by rw [f_X5_blocksWith_b13]; exact fun q => nomatch q)
    | succ n ih13 =>
      intro x3 x4 x5 h ls hl
      rw [f_X5_blocksWith_b13] at h
      refine lv_iload hx hb dX5_blocksWith_13 (lv_at hl 5 rfl) ?_
      refine lv_iload_n hx hb dX5_blocksWith_15 rfl (lv_at hl 3 rfl) ?_
      refine zc_ge (tgt := 45) hx hb dX5_blocksWith_16 (by decide) h (fun h => ?_) (fun h => ?_)
      · refine lv_iload hx hb dX5_blocksWith_45 (lv_at hl 4 rfl) ?_
        exact zR_i hx hb hr hlocks dX5_blocksWith_47 h
      · refine lv_aload_n hx hb dX5_blocksWith_19 rfl (lv_at hl 0 rfl) ?_
        refine lv_iload hx hb dX5_blocksWith_20 (lv_at hl 5 rfl) ?_
        refine lv_iload_n hx hb dX5_blocksWith_22 rfl (lv_at hl 1 rfl) ?_
        obtain ⟨v2, hc, h⟩ := zb1_s h
        refine zE_i (zrV (C := RX5) (As := [.int x5, .int p1]) (rest := []) hx hb hml hown hts tw165 mv_X5_blockCell ⟨Nat.le_of_ble_eq_true rfl, Nat.le_of_ble_eq_true rfl⟩ rfl rfl (ct_X5_blockCell l D ct a f x5 p1 k v2 hc) (z_pv hK hP [0, 1] rfl 0 rfl rfl) hl.1 rfl rfl (Nat.le_of_ble_eq_true rfl) dX5_blocksWith_23 ⟨Nat.le_refl _, Nat.le_refl _⟩) ?_
        refine lv_iload_n hx hb dX5_blocksWith_26 rfl (lv_at hl 2 rfl) ?_
        refine zc_ne (tgt := 39) hx hb dX5_blocksWith_27 (by decide) h (fun h => ?_) (fun h => ?_)
        · refine o_nm h (fun v3 ey h => ?_)
          refine lv_iinc (v := v3) (lv' := [(5, .int v3), (0, .ref (a 3)), (1, .int p1), (2, .int p2), (3, .int x3), (4, .int x4)]) hx hb dX5_blocksWith_39 hl (k := 5) rfl (Eq.trans rfl ey) (by decide) rfl (fun ls hl => ?_)
          refine lv_goto (tgt := 13) hx hb dX5_blocksWith_42 (by decide) ?_
          exact ih13 x3 x4 v3 h ls (lv_sub hl [1, 2, 3, 4, 5, 0] rfl)
        · refine lv_iload hx hb dX5_blocksWith_30 (lv_at hl 4 rfl) ?_
          refine lv_iconst (v := (1 : Int32)) hx hb dX5_blocksWith_32 (by decide) ?_
          refine lv_iload hx hb dX5_blocksWith_33 (lv_at hl 5 rfl) ?_
          refine o_ishl hx hb dX5_blocksWith_35 h (fun v4 h => ?_)
          refine o_ior hx hb dX5_blocksWith_36 h (fun v5 h => ?_)
          refine lv_istore (lv' := [(4, .int v5), (0, .ref (a 3)), (1, .int p1), (2, .int p2), (3, .int x3), (5, .int x5)]) hx hb dX5_blocksWith_37 hl (by decide) rfl (fun ls hl => ?_)
          refine o_nm h (fun v6 ey h => ?_)
          refine lv_iinc (v := v6) (lv' := [(5, .int v6), (4, .int v5), (0, .ref (a 3)), (1, .int p1), (2, .int p2), (3, .int x3)]) hx hb dX5_blocksWith_39 hl (k := 5) rfl (Eq.trans rfl ey) (by decide) rfl (fun ls hl => ?_)
          refine lv_goto (tgt := 13) hx hb dX5_blocksWith_42 (by decide) ?_
          exact ih13 x3 v5 v6 h ls (lv_sub hl [2, 3, 4, 5, 1, 0] rfl)
  rw [f_X5_blocksWith] at h
  refine lv_aload_n hx hb dX5_blocksWith_0 rfl (lv_at hl 0 rfl) ?_
  refine lv_bipush (v := (6 : Int32)) hx hb dX5_blocksWith_1 (by decide) ?_
  obtain ⟨v1, hc, h⟩ := zb1_s h
  refine zE_i (zrV (C := RX5) (As := [.int (6 : Int32)]) (rest := []) hx hb hml hown hts tw164 mv_X5_cell ⟨Nat.le_of_ble_eq_true rfl, Nat.le_of_ble_eq_true rfl⟩ rfl rfl (ct_X5_cell l D ct a f (6 : Int32) k v1 hc) (z_pv hK hP [0, 1] rfl 0 rfl rfl) hl.1 rfl rfl (Nat.le_of_ble_eq_true rfl) dX5_blocksWith_3 ⟨Nat.le_refl _, Nat.le_refl _⟩) ?_
  refine lv_istore_n (lv' := [(3, .int v1), (0, .ref (a 3)), (1, .int p1), (2, .int p2)]) hx hb dX5_blocksWith_6 rfl hl (by decide) rfl (fun ls hl => ?_)
  refine lv_iconst (v := (0 : Int32)) hx hb dX5_blocksWith_7 (by decide) ?_
  refine lv_istore (lv' := [(4, .int (0 : Int32)), (3, .int v1), (0, .ref (a 3)), (1, .int p1), (2, .int p2)]) hx hb dX5_blocksWith_8 hl (by decide) rfl (fun ls hl => ?_)
  refine lv_iconst (v := (0 : Int32)) hx hb dX5_blocksWith_10 (by decide) ?_
  refine lv_istore (lv' := [(5, .int (0 : Int32)), (4, .int (0 : Int32)), (3, .int v1), (0, .ref (a 3)), (1, .int p1), (2, .int p2)]) hx hb dX5_blocksWith_11 hl (by decide) rfl (fun ls hl => ?_)
  exact B13 k v1 (0 : Int32) (0 : Int32) h ls (lv_sub hl [3, 4, 5, 2, 1, 0] rfl)

def f_J6_bitCount_0f7a4 (k : Nat) (p1 : Int32) : Option (Int32) :=
  zl ((p1.toUInt32 >>> ((1 : Int32).toUInt32 &&& Int32.toUInt32 31)).toInt32) fun v1 =>
  zl (v1 &&& (1431655765 : Int32)) fun v2 =>
  zl (p1 - v2) fun v3 =>
  zl (v3 &&& (858993459 : Int32)) fun v4 =>
  zl ((v3.toUInt32 >>> ((2 : Int32).toUInt32 &&& Int32.toUInt32 31)).toInt32) fun v5 =>
  zl (v5 &&& (858993459 : Int32)) fun v6 =>
  zl (v4 + v6) fun v7 =>
  zl ((v7.toUInt32 >>> ((4 : Int32).toUInt32 &&& Int32.toUInt32 31)).toInt32) fun v8 =>
  zl (v7 + v8) fun v9 =>
  zl (v9 &&& (252645135 : Int32)) fun v10 =>
  zl ((v10.toUInt32 >>> ((8 : Int32).toUInt32 &&& Int32.toUInt32 31)).toInt32) fun v11 =>
  zl (v10 + v11) fun v12 =>
  zl ((v12.toUInt32 >>> ((16 : Int32).toUInt32 &&& Int32.toUInt32 31)).toInt32) fun v13 =>
  zl (v12 + v13) fun v14 =>
  zl (v14 &&& (63 : Int32)) fun v15 =>
  some v15
set_option maxRecDepth 100000 in
set_option maxHeartbeats 4000000 in
theorem ct_J6_bitCount_0f7a4 (l : Launch) (p1 : Int32) (k : Nat) (r : Int32) (h : f_J6_bitCount_0f7a4 k p1 = some r) : Met l yJ6_bitCount_0f7a4 (Cond.code yJ6_bitCount_0f7a4 cJ6_bitCount_0f7a4 1 (some .int) :: zT) ({ frames := 0, cells := 0, slots := 0, locals := 0 } : Room) (va_Pc [.int p1] (fun _ => True)) (vp_Si (fun r' => r' = r)) 0 0 (fun _ => False) := by
  refine zMet (cc := cJ6_bitCount_0f7a4) (maxL := 1) (ret := (some .int)) (av := [.int p1]) (by decide) (Nat.le_of_ble_eq_true rfl) (fun p e s m below meth c ls hx hb hr hml hts hown hlocks hin hB hl => ?_)
  have hl : lv_has ls 1 [(0, .int p1)] := hl
  have hown : s.vm.findClass RJ6 = some m.cls := hown
  rw [f_J6_bitCount_0f7a4] at h
  refine lv_iload_n hx hb dJ6_bitCount_0f7a4_0 rfl (lv_at hl 0 rfl) ?_
  refine lv_iload_n hx hb dJ6_bitCount_0f7a4_1 rfl (lv_at hl 0 rfl) ?_
  refine lv_iconst (v := (1 : Int32)) hx hb dJ6_bitCount_0f7a4_2 (by decide) ?_
  refine o_iushr hx hb dJ6_bitCount_0f7a4_3 h (fun v1 h => ?_)
  refine lv_ldcw (v := (1431655765 : Int32)) hx hb hown (hts _ (List.mem_cons_of_mem _ tw219)) dJ6_bitCount_0f7a4_4 ?_
  refine o_iand hx hb dJ6_bitCount_0f7a4_7 h (fun v2 h => ?_)
  refine o_isub hx hb dJ6_bitCount_0f7a4_8 h (fun v3 h => ?_)
  refine lv_istore_n (lv' := [(0, .int v3)]) hx hb dJ6_bitCount_0f7a4_9 rfl hl (by decide) rfl (fun ls hl => ?_)
  refine lv_iload_n hx hb dJ6_bitCount_0f7a4_10 rfl (lv_at hl 0 rfl) ?_
  refine lv_ldcw (v := (858993459 : Int32)) hx hb hown (hts _ (List.mem_cons_of_mem _ tw220)) dJ6_bitCount_0f7a4_11 ?_
  refine o_iand hx hb dJ6_bitCount_0f7a4_14 h (fun v4 h => ?_)
  refine lv_iload_n hx hb dJ6_bitCount_0f7a4_15 rfl (lv_at hl 0 rfl) ?_
  refine lv_iconst (v := (2 : Int32)) hx hb dJ6_bitCount_0f7a4_16 (by decide) ?_
  refine o_iushr hx hb dJ6_bitCount_0f7a4_17 h (fun v5 h => ?_)
  refine lv_ldcw (v := (858993459 : Int32)) hx hb hown (hts _ (List.mem_cons_of_mem _ tw220)) dJ6_bitCount_0f7a4_18 ?_
  refine o_iand hx hb dJ6_bitCount_0f7a4_21 h (fun v6 h => ?_)
  refine o_iadd hx hb dJ6_bitCount_0f7a4_22 h (fun v7 h => ?_)
  refine lv_istore_n (lv' := [(0, .int v7)]) hx hb dJ6_bitCount_0f7a4_23 rfl hl (by decide) rfl (fun ls hl => ?_)
  refine lv_iload_n hx hb dJ6_bitCount_0f7a4_24 rfl (lv_at hl 0 rfl) ?_
  refine lv_iload_n hx hb dJ6_bitCount_0f7a4_25 rfl (lv_at hl 0 rfl) ?_
  refine lv_iconst (v := (4 : Int32)) hx hb dJ6_bitCount_0f7a4_26 (by decide) ?_
  refine o_iushr hx hb dJ6_bitCount_0f7a4_27 h (fun v8 h => ?_)
  refine o_iadd hx hb dJ6_bitCount_0f7a4_28 h (fun v9 h => ?_)
  refine lv_ldcw (v := (252645135 : Int32)) hx hb hown (hts _ (List.mem_cons_of_mem _ tw221)) dJ6_bitCount_0f7a4_29 ?_
  refine o_iand hx hb dJ6_bitCount_0f7a4_32 h (fun v10 h => ?_)
  refine lv_istore_n (lv' := [(0, .int v10)]) hx hb dJ6_bitCount_0f7a4_33 rfl hl (by decide) rfl (fun ls hl => ?_)
  refine lv_iload_n hx hb dJ6_bitCount_0f7a4_34 rfl (lv_at hl 0 rfl) ?_
  refine lv_iload_n hx hb dJ6_bitCount_0f7a4_35 rfl (lv_at hl 0 rfl) ?_
  refine lv_bipush (v := (8 : Int32)) hx hb dJ6_bitCount_0f7a4_36 (by decide) ?_
  refine o_iushr hx hb dJ6_bitCount_0f7a4_38 h (fun v11 h => ?_)
  refine o_iadd hx hb dJ6_bitCount_0f7a4_39 h (fun v12 h => ?_)
  refine lv_istore_n (lv' := [(0, .int v12)]) hx hb dJ6_bitCount_0f7a4_40 rfl hl (by decide) rfl (fun ls hl => ?_)
  refine lv_iload_n hx hb dJ6_bitCount_0f7a4_41 rfl (lv_at hl 0 rfl) ?_
  refine lv_iload_n hx hb dJ6_bitCount_0f7a4_42 rfl (lv_at hl 0 rfl) ?_
  refine lv_bipush (v := (16 : Int32)) hx hb dJ6_bitCount_0f7a4_43 (by decide) ?_
  refine o_iushr hx hb dJ6_bitCount_0f7a4_45 h (fun v13 h => ?_)
  refine o_iadd hx hb dJ6_bitCount_0f7a4_46 h (fun v14 h => ?_)
  refine lv_istore_n (lv' := [(0, .int v14)]) hx hb dJ6_bitCount_0f7a4_47 rfl hl (by decide) rfl (fun ls hl => ?_)
  refine lv_iload_n hx hb dJ6_bitCount_0f7a4_48 rfl (lv_at hl 0 rfl) ?_
  refine lv_bipush (v := (63 : Int32)) hx hb dJ6_bitCount_0f7a4_49 (by decide) ?_
  refine o_iand hx hb dJ6_bitCount_0f7a4_51 h (fun v15 h => ?_)
  exact zR_i hx hb hr hlocks dJ6_bitCount_0f7a4_52 h

def f_X1_roofHasRoom (k : Nat) (f : Nat → Int32) : Option (Int32) :=
  zb1 (f_X5_blocksWith k f (5 : Int32) (1 : Int32)) fun v1 =>
  zb1 (f_J6_bitCount_0f7a4 k v1) fun v2 =>
  if (4 : Int32) ≤ v2 then
    some (0 : Int32)
  else
    some (1 : Int32)
set_option maxRecDepth 100000 in
set_option maxHeartbeats 4000000 in
theorem ct_X1_roofHasRoom (l : Launch) (D : va_G) (ct a : Nat → Nat) (f : Nat → Int32) (k : Nat) (r : Int32) (h : f_X1_roofHasRoom k f = some r) : Met l yX1_roofHasRoom (Cond.code yX1_roofHasRoom cX1_roofHasRoom 1 (some .boolean) :: zT) ({ frames := 2, cells := 0, slots := 0, locals := 48 } : Room) (va_Pc [.ref (a 2)] (zPR D (zTys ct) (wX1 ct a f))) (vp_Si (fun r' => r' = r)) 0 0 (fun _ => False) := by
  refine zMet (cc := cX1_roofHasRoom) (maxL := 1) (ret := (some .boolean)) (av := [.ref (a 2)]) (by decide) (Nat.le_of_ble_eq_true rfl) (fun p e s m below meth c ls hx hb hr hml hts hown hlocks hin hB hl => ?_)
  have hl : lv_has ls 1 [(0, .ref (a 2))] := hl
  have hown : s.vm.findClass RX1 = some m.cls := hown
  obtain ⟨hP, hK⟩ := hB
  rw [f_X1_roofHasRoom] at h
  refine lv_aload_n hx hb dX1_roofHasRoom_0 rfl (lv_at hl 0 rfl) ?_
  refine z_get (C := RX1) (T := TX1) (N := 1) (ci := 0) hx hb hts zin_X1 hown hK.1 hP 0 0 rfl rfl (by decide) tw54 rfl rfl dX1_roofHasRoom_1 ?_
  refine lv_iconst (v := (5 : Int32)) hx hb dX1_roofHasRoom_4 (by decide) ?_
  refine lv_iconst (v := (1 : Int32)) hx hb dX1_roofHasRoom_5 (by decide) ?_
  obtain ⟨v1, hc, h⟩ := zb1_s h
  refine zE_i (zrV (C := RX5) (As := [.int (5 : Int32), .int (1 : Int32)]) (rest := []) hx hb hml hown hts tw174 mv_X5_blocksWith ⟨Nat.le_of_ble_eq_true rfl, Nat.le_of_ble_eq_true rfl⟩ rfl rfl (ct_X5_blocksWith l D ct a f (5 : Int32) (1 : Int32) k v1 hc) (z_pv hK hP [1, 2] rfl 1 rfl rfl) hl.1 rfl rfl (Nat.le_of_ble_eq_true rfl) dX1_roofHasRoom_6 ⟨Nat.le_refl _, Nat.le_refl _⟩) ?_
  obtain ⟨v2, hc, h⟩ := zb1_s h
  refine zE_i (zrS (As := [.int v1]) (rest := []) hx hb hml hown hts tw326 ms_J6_bitCount_0f7a4 ⟨Nat.le_of_ble_eq_true rfl, Nat.le_of_ble_eq_true rfl⟩ rfl rfl (ct_J6_bitCount_0f7a4 l v1 k v2 hc) z_p0 hl.1 rfl rfl (Nat.le_of_ble_eq_true rfl) dX1_roofHasRoom_9 ⟨Nat.le_refl _, Nat.le_refl _⟩) ?_
  refine lv_iconst (v := (4 : Int32)) hx hb dX1_roofHasRoom_12 (by decide) ?_
  refine zc_ge (tgt := 20) hx hb dX1_roofHasRoom_13 (by decide) h (fun h => ?_) (fun h => ?_)
  · refine lv_iconst (v := (0 : Int32)) hx hb dX1_roofHasRoom_20 (by decide) ?_
    exact zR_z hx hb hr hlocks dX1_roofHasRoom_21 h
  · refine lv_iconst (v := (1 : Int32)) hx hb dX1_roofHasRoom_16 (by decide) ?_
    refine lv_goto (tgt := 21) hx hb dX1_roofHasRoom_17 (by decide) ?_
    exact zR_z hx hb hr hlocks dX1_roofHasRoom_21 h

def f_X6_addPiece_b106 (k : Nat) (p1 : Int32) (p2 : Int32) (p3 : Int32) (p4 : Int32)  (f_ : Nat → Int32) (x8 : Int32) : Option (Int32 × (Nat → Int32)) :=
  zb1 (f_X5_blockCell k f_ p1 (6 : Int32)) fun v7 =>
  zb1 (f_X5_setBlockCell k f_ x8 (6 : Int32) v7) fun f8 =>
  zb1 (f_X5_blockCell k f8 p1 (7 : Int32)) fun v9 =>
  zb1 (f_X5_setBlockCell k f8 x8 (7 : Int32) v9) fun f10 =>
  zb1 (f_X5_setBlockCell k f10 x8 (10 : Int32) p1) fun f11 =>
  some (x8, f11)
def f_X6_addPiece_b57 (k : Nat) (p1 : Int32) (p2 : Int32) (p3 : Int32) (p4 : Int32)  (f_ : Nat → Int32) (x5 : Int32) (x6 : Int32) (y0 : Int32) : Option (Int32 × (Nat → Int32)) :=
  zb1 (f_X5_blockCell k f_ p1 (3 : Int32)) fun v4 =>
  zb2 (f_X6_addBlock k f_ x5 x6 y0 v4) fun v5 f6 =>
  if p4 = 0 then
    f_X6_addPiece_b106 k p1 p2 p3 p4 f6 v5
  else
    zb1 (f_X1_roofHasRoom k f6) fun v12 =>
    if v12 = 0 then
      f_X6_addPiece_b106 k p1 p2 p3 p4 f6 v5
    else
      zb1 (f_X5_setBlockCell k f6 v5 (5 : Int32) (1 : Int32)) fun f13 =>
      f_X6_addPiece_b106 k p1 p2 p3 p4 f13 v5
def f_X6_addPiece_b37 (k : Nat) (p1 : Int32) (p2 : Int32) (p3 : Int32) (p4 : Int32)  (f_ : Nat → Int32) (x5 : Int32) (y0 : Int32) : Option (Int32 × (Nat → Int32)) :=
  if p2 = (2 : Int32) then
    f_X6_addPiece_b57 k p1 p2 p3 p4 f_ x5 y0 p3
  else
    zb1 (f_X5_blockCell k f_ p1 (2 : Int32)) fun v3 =>
    f_X6_addPiece_b57 k p1 p2 p3 p4 f_ x5 y0 v3
def f_X6_addPiece_b17 (k : Nat) (p1 : Int32) (p2 : Int32) (p3 : Int32) (p4 : Int32)  (f_ : Nat → Int32) (y0 : Int32) : Option (Int32 × (Nat → Int32)) :=
  if p2 = (1 : Int32) then
    f_X6_addPiece_b37 k p1 p2 p3 p4 f_ y0 p3
  else
    zb1 (f_X5_blockCell k f_ p1 (1 : Int32)) fun v2 =>
    f_X6_addPiece_b37 k p1 p2 p3 p4 f_ y0 v2
def f_X6_addPiece (k : Nat) (f : Nat → Int32) (p1 : Int32) (p2 : Int32) (p3 : Int32) (p4 : Int32) : Option (Int32 × (Nat → Int32)) :=
  if p2 = 0 then
    f_X6_addPiece_b17 k p1 p2 p3 p4 f p3
  else
    zb1 (f_X5_blockCell k f p1 (0 : Int32)) fun v1 =>
    f_X6_addPiece_b17 k p1 p2 p3 p4 f v1
set_option maxRecDepth 100000 in
set_option maxHeartbeats 4000000 in
theorem ct_X6_addPiece (l : Launch) (D : va_G) (ct a : Nat → Nat) (f : Nat → Int32) (sz : Nat) (p1 : Int32) (p2 : Int32) (p3 : Int32) (p4 : Int32) (k : Nat) (r : Int32) (f' : Nat → Int32) (h : f_X6_addPiece k f p1 p2 p3 p4 = some (r, f')) : Met l yX6_addPiece (Cond.code yX6_addPiece cX6_addPiece 9 (some .int) :: zT) ({ frames := 3, cells := 0, slots := 0, locals := 70 } : Room) (va_Pc [.ref (a 1), .int p1, .int p2, .int p3, .int p4] (zPW D (zTys ct) (wX6 ct a f) sz)) (va_Qi (fun r' (_ : Unit) => r' = r) (zQW D (wX6 ct a f) sz (wX6 ct a f')) (va_A (wX6 ct a f) sz)) 0 0 (va_A (wX6 ct a f) sz) := by
  refine zMet (cc := cX6_addPiece) (maxL := 9) (ret := (some .int)) (av := [.ref (a 1), .int p1, .int p2, .int p3, .int p4]) (by decide) (Nat.le_of_ble_eq_true rfl) (fun p e s m below meth c ls hx hb hr hml hts hown hlocks hin hB hl => ?_)
  have hl : lv_has ls 9 [(0, .ref (a 1)), (1, .int p1), (2, .int p2), (3, .int p3), (4, .int p4)] := hl
  have hown : s.vm.findClass RX6 = some m.cls := hown
  obtain ⟨hsz, hP, hK, hD0⟩ := hB
  subst hsz
  have hD := hD0.self (sz := s.heap.size)
  obtain ⟨A, hAe⟩ : ∃ A, A = va_A (wX6 ct a f) s.heap.size := ⟨_, rfl⟩
  rw [← hAe] at hD
  have hA : ∀ q : Nat, s.heap.size ≤ q → A q := fun q h => by rw [hAe]; exact Or.inr h
  have hS : va_S A s.heap s.heap [] := va_S.rf
  have B106 : ∀ (f_ : Nat → Int32) (x8 : Int32), f_X6_addPiece_b106 k p1 p2 p3 p4 f_ x8 = some (r, f') → ∀ (H : Heap) (locs : List Loc), va_P D vwCl (wX6 ct a f_) H → va_D A (wX6 ct a f_) → va_S A s.heap H locs → ∀ (ls : Array Slot), lv_has ls 9 [(0, .ref (a 1)), (1, .int p1), (8, .int x8)] → W p l e ({ frames := 3, cells := 0, slots := 0, locals := 70 } : Room) s m ([.ref (a 1), .int p1, .int p2, .int p3, .int p4] : List Value).toArray below meth c H locs 0 0 (MQ below (va_Qi (fun r' (_ : Unit) => r' = r) (zQW D (wX6 ct a f) s.heap.size (wX6 ct a f')) (va_A (wX6 ct a f) s.heap.size)) ([.ref (a 1), .int p1, .int p2, .int p3, .int p4] : List Value).toArray s 0 0 (va_A (wX6 ct a f) s.heap.size)) (F0 m 106 ls []) := by
    intro f_ x8 h H locs hP hD hS ls hl
    rw [f_X6_addPiece_b106] at h
    refine lv_aload_n hx hb dX6_addPiece_106 rfl (lv_at hl 0 rfl) ?_
    refine z_get (C := RX6) (T := TX6) (N := 2) (ci := 5) hx hb hts zin_X6 hown hK.1 hP 0 0 rfl rfl (by decide) tw64 rfl rfl dX6_addPiece_107 ?_
    refine lv_iload hx hb dX6_addPiece_110 (lv_at hl 2 rfl) ?_
    refine lv_bipush (v := (6 : Int32)) hx hb dX6_addPiece_112 (by decide) ?_
    refine lv_aload_n hx hb dX6_addPiece_114 rfl (lv_at hl 0 rfl) ?_
    refine z_get (C := RX6) (T := TX6) (N := 2) (ci := 5) hx hb hts zin_X6 hown hK.1 hP 0 0 rfl rfl (by decide) tw64 rfl rfl dX6_addPiece_115 ?_
    refine lv_iload_n hx hb dX6_addPiece_118 rfl (lv_at hl 1 rfl) ?_
    refine lv_bipush (v := (6 : Int32)) hx hb dX6_addPiece_119 (by decide) ?_
    obtain ⟨v7, hc, h⟩ := zb1_s h
    refine zE_i (zrV (C := RX5) (As := [.int p1, .int (6 : Int32)]) (rest := [.int (6 : Int32), .int x8, .ref (a 3)]) hx hb hml hown hts tw309 mv_X5_blockCell ⟨Nat.le_of_ble_eq_true rfl, Nat.le_of_ble_eq_true rfl⟩ rfl rfl (ct_X5_blockCell l D ct a f_ p1 (6 : Int32) k v7 hc) (z_pv hK hP [2, 3] rfl 2 rfl rfl) hl.1 rfl rfl (Nat.le_of_ble_eq_true rfl) dX6_addPiece_121 ⟨Nat.le_refl _, Nat.le_refl _⟩) ?_
    obtain ⟨f8, hc, h⟩ := zb1_s h
    refine zG_v (w1 := wX5 ct a f8) (ws' := wX6 ct a f8) hP hD hS hA [2, 3] [0, 1] [0, 1, 2, 3] rfl rfl (by decide) (by decide) rfl (by decide) (zrV (C := RX5) (As := [.int x8, .int (6 : Int32), .int v7]) (rest := []) hx hb hml hown hts tw286 mv_X5_setBlockCell ⟨Nat.le_of_ble_eq_true rfl, Nat.le_of_ble_eq_true rfl⟩ rfl rfl (ct_X5_setBlockCell l D ct a f_ _ x8 (6 : Int32) v7 k f8 hc) (z_wv hK hP hD [2, 3] (by decide) rfl 2 rfl rfl) hl.1 rfl rfl (Nat.le_of_ble_eq_true rfl) dX6_addPiece_124 ⟨Nat.le_refl _, Nat.le_refl _⟩) (fun H locs hP hD hS => ?_)
    refine lv_aload_n hx hb dX6_addPiece_127 rfl (lv_at hl 0 rfl) ?_
    refine z_get (C := RX6) (T := TX6) (N := 2) (ci := 5) hx hb hts zin_X6 hown hK.1 hP 0 0 rfl rfl (by decide) tw64 rfl rfl dX6_addPiece_128 ?_
    refine lv_iload hx hb dX6_addPiece_131 (lv_at hl 2 rfl) ?_
    refine lv_bipush (v := (7 : Int32)) hx hb dX6_addPiece_133 (by decide) ?_
    refine lv_aload_n hx hb dX6_addPiece_135 rfl (lv_at hl 0 rfl) ?_
    refine z_get (C := RX6) (T := TX6) (N := 2) (ci := 5) hx hb hts zin_X6 hown hK.1 hP 0 0 rfl rfl (by decide) tw64 rfl rfl dX6_addPiece_136 ?_
    refine lv_iload_n hx hb dX6_addPiece_139 rfl (lv_at hl 1 rfl) ?_
    refine lv_bipush (v := (7 : Int32)) hx hb dX6_addPiece_140 (by decide) ?_
    obtain ⟨v9, hc, h⟩ := zb1_s h
    refine zE_i (zrV (C := RX5) (As := [.int p1, .int (7 : Int32)]) (rest := [.int (7 : Int32), .int x8, .ref (a 3)]) hx hb hml hown hts tw309 mv_X5_blockCell ⟨Nat.le_of_ble_eq_true rfl, Nat.le_of_ble_eq_true rfl⟩ rfl rfl (ct_X5_blockCell l D ct a f8 p1 (7 : Int32) k v9 hc) (z_pv hK hP [2, 3] rfl 2 rfl rfl) hl.1 rfl rfl (Nat.le_of_ble_eq_true rfl) dX6_addPiece_142 ⟨Nat.le_refl _, Nat.le_refl _⟩) ?_
    obtain ⟨f10, hc, h⟩ := zb1_s h
    refine zG_v (w1 := wX5 ct a f10) (ws' := wX6 ct a f10) hP hD hS hA [2, 3] [0, 1] [0, 1, 2, 3] rfl rfl (by decide) (by decide) rfl (by decide) (zrV (C := RX5) (As := [.int x8, .int (7 : Int32), .int v9]) (rest := []) hx hb hml hown hts tw286 mv_X5_setBlockCell ⟨Nat.le_of_ble_eq_true rfl, Nat.le_of_ble_eq_true rfl⟩ rfl rfl (ct_X5_setBlockCell l D ct a f8 _ x8 (7 : Int32) v9 k f10 hc) (z_wv hK hP hD [2, 3] (by decide) rfl 2 rfl rfl) hl.1 rfl rfl (Nat.le_of_ble_eq_true rfl) dX6_addPiece_145 ⟨Nat.le_refl _, Nat.le_refl _⟩) (fun H locs hP hD hS => ?_)
    refine lv_aload_n hx hb dX6_addPiece_148 rfl (lv_at hl 0 rfl) ?_
    refine z_get (C := RX6) (T := TX6) (N := 2) (ci := 5) hx hb hts zin_X6 hown hK.1 hP 0 0 rfl rfl (by decide) tw64 rfl rfl dX6_addPiece_149 ?_
    refine lv_iload hx hb dX6_addPiece_152 (lv_at hl 2 rfl) ?_
    refine lv_bipush (v := (10 : Int32)) hx hb dX6_addPiece_154 (by decide) ?_
    refine lv_iload_n hx hb dX6_addPiece_156 rfl (lv_at hl 1 rfl) ?_
    obtain ⟨f11, hc, h⟩ := zb1_s h
    refine zG_v (w1 := wX5 ct a f11) (ws' := wX6 ct a f11) hP hD hS hA [2, 3] [0, 1] [0, 1, 2, 3] rfl rfl (by decide) (by decide) rfl (by decide) (zrV (C := RX5) (As := [.int x8, .int (10 : Int32), .int p1]) (rest := []) hx hb hml hown hts tw286 mv_X5_setBlockCell ⟨Nat.le_of_ble_eq_true rfl, Nat.le_of_ble_eq_true rfl⟩ rfl rfl (ct_X5_setBlockCell l D ct a f10 _ x8 (10 : Int32) p1 k f11 hc) (z_wv hK hP hD [2, 3] (by decide) rfl 2 rfl rfl) hl.1 rfl rfl (Nat.le_of_ble_eq_true rfl) dX6_addPiece_157 ⟨Nat.le_refl _, Nat.le_refl _⟩) (fun H locs hP hD hS => ?_)
    refine lv_iload hx hb dX6_addPiece_160 (lv_at hl 2 rfl) ?_
    cases h
    exact zX_i hx hb hr hlocks hP hD hS hAe dX6_addPiece_162 rfl
  have B57 : ∀ (f_ : Nat → Int32) (x5 : Int32) (x6 : Int32) (y0 : Int32), f_X6_addPiece_b57 k p1 p2 p3 p4 f_ x5 x6 y0 = some (r, f') → ∀ (H : Heap) (locs : List Loc), va_P D vwCl (wX6 ct a f_) H → va_D A (wX6 ct a f_) → va_S A s.heap H locs → ∀ (ls : Array Slot), lv_has ls 9 [(0, .ref (a 1)), (1, .int p1), (4, .int p4), (5, .int x5), (6, .int x6)] → W p l e ({ frames := 3, cells := 0, slots := 0, locals := 70 } : Room) s m ([.ref (a 1), .int p1, .int p2, .int p3, .int p4] : List Value).toArray below meth c H locs 0 0 (MQ below (va_Qi (fun r' (_ : Unit) => r' = r) (zQW D (wX6 ct a f) s.heap.size (wX6 ct a f')) (va_A (wX6 ct a f) s.heap.size)) ([.ref (a 1), .int p1, .int p2, .int p3, .int p4] : List Value).toArray s 0 0 (va_A (wX6 ct a f) s.heap.size)) (F0 m 57 ls [.int y0]) := by
    intro f_ x5 x6 y0 h H locs hP hD hS ls hl
    rw [f_X6_addPiece_b57] at h
    refine lv_istore (lv' := [(7, .int y0), (0, .ref (a 1)), (1, .int p1), (4, .int p4), (5, .int x5), (6, .int x6)]) hx hb dX6_addPiece_57 hl (by decide) rfl (fun ls hl => ?_)
    refine lv_aload_n hx hb dX6_addPiece_59 rfl (lv_at hl 1 rfl) ?_
    refine lv_iload hx hb dX6_addPiece_60 (lv_at hl 4 rfl) ?_
    refine lv_iload hx hb dX6_addPiece_62 (lv_at hl 5 rfl) ?_
    refine lv_iload hx hb dX6_addPiece_64 (lv_at hl 0 rfl) ?_
    refine lv_aload_n hx hb dX6_addPiece_66 rfl (lv_at hl 1 rfl) ?_
    refine z_get (C := RX6) (T := TX6) (N := 2) (ci := 5) hx hb hts zin_X6 hown hK.1 hP 0 0 rfl rfl (by decide) tw64 rfl rfl dX6_addPiece_67 ?_
    refine lv_iload_n hx hb dX6_addPiece_70 rfl (lv_at hl 2 rfl) ?_
    refine lv_iconst (v := (3 : Int32)) hx hb dX6_addPiece_71 (by decide) ?_
    obtain ⟨v4, hc, h⟩ := zb1_s h
    refine zE_i (zrV (C := RX5) (As := [.int p1, .int (3 : Int32)]) (rest := [.int y0, .int x6, .int x5, .ref (a 1)]) hx hb hml hown hts tw309 mv_X5_blockCell ⟨Nat.le_of_ble_eq_true rfl, Nat.le_of_ble_eq_true rfl⟩ rfl rfl (ct_X5_blockCell l D ct a f_ p1 (3 : Int32) k v4 hc) (z_pv hK hP [2, 3] rfl 2 rfl rfl) hl.1 rfl rfl (Nat.le_of_ble_eq_true rfl) dX6_addPiece_72 ⟨Nat.le_refl _, Nat.le_refl _⟩) ?_
    obtain ⟨v5, f6, hc, h⟩ := zb2_s h
    refine zG_i (w1 := wX6 ct a f6) (ws' := wX6 ct a f6) hP hD hS hA [0, 1, 2, 3] [] [0, 1, 2, 3] rfl rfl (by decide) (by decide) rfl (by decide) (zrV (C := RX6) (As := [.int x5, .int x6, .int y0, .int v4]) (rest := []) hx hb hml hown hts tw281 mv_X6_addBlock ⟨Nat.le_of_ble_eq_true rfl, Nat.le_of_ble_eq_true rfl⟩ rfl rfl (ct_X6_addBlock l D ct a f_ _ x5 x6 y0 v4 k v5 f6 hc) (z_wv hK hP hD [0, 1, 2, 3] (by decide) rfl 0 rfl rfl) hl.1 rfl rfl (Nat.le_of_ble_eq_true rfl) dX6_addPiece_75 ⟨Nat.le_refl _, Nat.le_refl _⟩) (fun H locs hP hD hS => ?_)
    refine lv_istore (lv' := [(8, .int v5), (7, .int y0), (0, .ref (a 1)), (1, .int p1), (4, .int p4), (5, .int x5), (6, .int x6)]) hx hb dX6_addPiece_78 hl (by decide) rfl (fun ls hl => ?_)
    refine lv_iload hx hb dX6_addPiece_80 (lv_at hl 4 rfl) ?_
    refine zi_eq (tgt := 106) hx hb dX6_addPiece_82 (by decide) h (fun h => ?_) (fun h => ?_)
    · exact B106 f6 v5 h _ _ hP hD hS ls (lv_sub hl [2, 3, 0] rfl)
    · refine lv_aload_n hx hb dX6_addPiece_85 rfl (lv_at hl 2 rfl) ?_
      refine z_get (C := RX6) (T := TX6) (N := 2) (ci := 5) hx hb hts zin_X6 hown hK.1 hP 0 1 rfl rfl (by decide) tw65 rfl rfl dX6_addPiece_86 ?_
      obtain ⟨v12, hc, h⟩ := zb1_s h
      refine zE_i (zrV (C := RX1) (As := []) (rest := []) hx hb hml hown hts tw322 mv_X1_roofHasRoom ⟨Nat.le_of_ble_eq_true rfl, Nat.le_of_ble_eq_true rfl⟩ rfl rfl (ct_X1_roofHasRoom l D ct a f6 k v12 hc) (z_pv hK hP [1, 2, 3] rfl 1 rfl rfl) hl.1 rfl rfl (Nat.le_of_ble_eq_true rfl) dX6_addPiece_89 ⟨Nat.le_refl _, Nat.le_refl _⟩) ?_
      refine zi_eq (tgt := 106) hx hb dX6_addPiece_92 (by decide) h (fun h => ?_) (fun h => ?_)
      · exact B106 f6 v5 h _ _ hP hD hS ls (lv_sub hl [2, 3, 0] rfl)
      · refine lv_aload_n hx hb dX6_addPiece_95 rfl (lv_at hl 2 rfl) ?_
        refine z_get (C := RX6) (T := TX6) (N := 2) (ci := 5) hx hb hts zin_X6 hown hK.1 hP 0 0 rfl rfl (by decide) tw64 rfl rfl dX6_addPiece_96 ?_
        refine lv_iload hx hb dX6_addPiece_99 (lv_at hl 0 rfl) ?_
        refine lv_iconst (v := (5 : Int32)) hx hb dX6_addPiece_101 (by decide) ?_
        refine lv_iconst (v := (1 : Int32)) hx hb dX6_addPiece_102 (by decide) ?_
        obtain ⟨f13, hc, h⟩ := zb1_s h
        refine zG_v (w1 := wX5 ct a f13) (ws' := wX6 ct a f13) hP hD hS hA [2, 3] [0, 1] [0, 1, 2, 3] rfl rfl (by decide) (by decide) rfl (by decide) (zrV (C := RX5) (As := [.int v5, .int (5 : Int32), .int (1 : Int32)]) (rest := []) hx hb hml hown hts tw286 mv_X5_setBlockCell ⟨Nat.le_of_ble_eq_true rfl, Nat.le_of_ble_eq_true rfl⟩ rfl rfl (ct_X5_setBlockCell l D ct a f6 _ v5 (5 : Int32) (1 : Int32) k f13 hc) (z_wv hK hP hD [2, 3] (by decide) rfl 2 rfl rfl) hl.1 rfl rfl (Nat.le_of_ble_eq_true rfl) dX6_addPiece_103 ⟨Nat.le_refl _, Nat.le_refl _⟩) (fun H locs hP hD hS => ?_)
        exact B106 f13 v5 h _ _ hP hD hS ls (lv_sub hl [2, 3, 0] rfl)
  have B37 : ∀ (f_ : Nat → Int32) (x5 : Int32) (y0 : Int32), f_X6_addPiece_b37 k p1 p2 p3 p4 f_ x5 y0 = some (r, f') → ∀ (H : Heap) (locs : List Loc), va_P D vwCl (wX6 ct a f_) H → va_D A (wX6 ct a f_) → va_S A s.heap H locs → ∀ (ls : Array Slot), lv_has ls 9 [(0, .ref (a 1)), (1, .int p1), (2, .int p2), (3, .int p3), (4, .int p4), (5, .int x5)] → W p l e ({ frames := 3, cells := 0, slots := 0, locals := 70 } : Room) s m ([.ref (a 1), .int p1, .int p2, .int p3, .int p4] : List Value).toArray below meth c H locs 0 0 (MQ below (va_Qi (fun r' (_ : Unit) => r' = r) (zQW D (wX6 ct a f) s.heap.size (wX6 ct a f')) (va_A (wX6 ct a f) s.heap.size)) ([.ref (a 1), .int p1, .int p2, .int p3, .int p4] : List Value).toArray s 0 0 (va_A (wX6 ct a f) s.heap.size)) (F0 m 37 ls [.int y0]) := by
    intro f_ x5 y0 h H locs hP hD hS ls hl
    rw [f_X6_addPiece_b37] at h
    refine lv_istore (lv' := [(6, .int y0), (0, .ref (a 1)), (1, .int p1), (2, .int p2), (3, .int p3), (4, .int p4), (5, .int x5)]) hx hb dX6_addPiece_37 hl (by decide) rfl (fun ls hl => ?_)
    refine lv_iload_n hx hb dX6_addPiece_39 rfl (lv_at hl 3 rfl) ?_
    refine lv_iconst (v := (2 : Int32)) hx hb dX6_addPiece_40 (by decide) ?_
    refine zc_ne (tgt := 48) hx hb dX6_addPiece_41 (by decide) h (fun h => ?_) (fun h => ?_)
    · refine lv_aload_n hx hb dX6_addPiece_48 rfl (lv_at hl 1 rfl) ?_
      refine z_get (C := RX6) (T := TX6) (N := 2) (ci := 5) hx hb hts zin_X6 hown hK.1 hP 0 0 rfl rfl (by decide) tw64 rfl rfl dX6_addPiece_49 ?_
      refine lv_iload_n hx hb dX6_addPiece_52 rfl (lv_at hl 2 rfl) ?_
      refine lv_iconst (v := (2 : Int32)) hx hb dX6_addPiece_53 (by decide) ?_
      obtain ⟨v3, hc, h⟩ := zb1_s h
      refine zE_i (zrV (C := RX5) (As := [.int p1, .int (2 : Int32)]) (rest := []) hx hb hml hown hts tw309 mv_X5_blockCell ⟨Nat.le_of_ble_eq_true rfl, Nat.le_of_ble_eq_true rfl⟩ rfl rfl (ct_X5_blockCell l D ct a f_ p1 (2 : Int32) k v3 hc) (z_pv hK hP [2, 3] rfl 2 rfl rfl) hl.1 rfl rfl (Nat.le_of_ble_eq_true rfl) dX6_addPiece_54 ⟨Nat.le_refl _, Nat.le_refl _⟩) ?_
      exact B57 f_ x5 y0 v3 h _ _ hP hD hS ls (lv_sub hl [1, 2, 5, 6, 0] rfl)
    · refine lv_iload_n hx hb dX6_addPiece_44 rfl (lv_at hl 4 rfl) ?_
      refine lv_goto (tgt := 57) hx hb dX6_addPiece_45 (by decide) ?_
      exact B57 f_ x5 y0 p3 h _ _ hP hD hS ls (lv_sub hl [1, 2, 5, 6, 0] rfl)
  have B17 : ∀ (f_ : Nat → Int32) (y0 : Int32), f_X6_addPiece_b17 k p1 p2 p3 p4 f_ y0 = some (r, f') → ∀ (H : Heap) (locs : List Loc), va_P D vwCl (wX6 ct a f_) H → va_D A (wX6 ct a f_) → va_S A s.heap H locs → ∀ (ls : Array Slot), lv_has ls 9 [(0, .ref (a 1)), (1, .int p1), (2, .int p2), (3, .int p3), (4, .int p4)] → W p l e ({ frames := 3, cells := 0, slots := 0, locals := 70 } : Room) s m ([.ref (a 1), .int p1, .int p2, .int p3, .int p4] : List Value).toArray below meth c H locs 0 0 (MQ below (va_Qi (fun r' (_ : Unit) => r' = r) (zQW D (wX6 ct a f) s.heap.size (wX6 ct a f')) (va_A (wX6 ct a f) s.heap.size)) ([.ref (a 1), .int p1, .int p2, .int p3, .int p4] : List Value).toArray s 0 0 (va_A (wX6 ct a f) s.heap.size)) (F0 m 17 ls [.int y0]) := by
    intro f_ y0 h H locs hP hD hS ls hl
    rw [f_X6_addPiece_b17] at h
    refine lv_istore (lv' := [(5, .int y0), (0, .ref (a 1)), (1, .int p1), (2, .int p2), (3, .int p3), (4, .int p4)]) hx hb dX6_addPiece_17 hl (by decide) rfl (fun ls hl => ?_)
    refine lv_iload_n hx hb dX6_addPiece_19 rfl (lv_at hl 3 rfl) ?_
    refine lv_iconst (v := (1 : Int32)) hx hb dX6_addPiece_20 (by decide) ?_
    refine zc_ne (tgt := 28) hx hb dX6_addPiece_21 (by decide) h (fun h => ?_) (fun h => ?_)
    · refine lv_aload_n hx hb dX6_addPiece_28 rfl (lv_at hl 1 rfl) ?_
      refine z_get (C := RX6) (T := TX6) (N := 2) (ci := 5) hx hb hts zin_X6 hown hK.1 hP 0 0 rfl rfl (by decide) tw64 rfl rfl dX6_addPiece_29 ?_
      refine lv_iload_n hx hb dX6_addPiece_32 rfl (lv_at hl 2 rfl) ?_
      refine lv_iconst (v := (1 : Int32)) hx hb dX6_addPiece_33 (by decide) ?_
      obtain ⟨v2, hc, h⟩ := zb1_s h
      refine zE_i (zrV (C := RX5) (As := [.int p1, .int (1 : Int32)]) (rest := []) hx hb hml hown hts tw309 mv_X5_blockCell ⟨Nat.le_of_ble_eq_true rfl, Nat.le_of_ble_eq_true rfl⟩ rfl rfl (ct_X5_blockCell l D ct a f_ p1 (1 : Int32) k v2 hc) (z_pv hK hP [2, 3] rfl 2 rfl rfl) hl.1 rfl rfl (Nat.le_of_ble_eq_true rfl) dX6_addPiece_34 ⟨Nat.le_refl _, Nat.le_refl _⟩) ?_
      exact B37 f_ y0 v2 h _ _ hP hD hS ls (lv_sub hl [1, 2, 3, 4, 5, 0] rfl)
    · refine lv_iload_n hx hb dX6_addPiece_24 rfl (lv_at hl 4 rfl) ?_
      refine lv_goto (tgt := 37) hx hb dX6_addPiece_25 (by decide) ?_
      exact B37 f_ y0 p3 h _ _ hP hD hS ls (lv_sub hl [1, 2, 3, 4, 5, 0] rfl)
  rw [f_X6_addPiece] at h
  refine lv_iload_n hx hb dX6_addPiece_0 rfl (lv_at hl 2 rfl) ?_
  refine zi_ne (tgt := 8) hx hb dX6_addPiece_1 (by decide) h (fun h => ?_) (fun h => ?_)
  · refine lv_aload_n hx hb dX6_addPiece_8 rfl (lv_at hl 0 rfl) ?_
    refine z_get (C := RX6) (T := TX6) (N := 2) (ci := 5) hx hb hts zin_X6 hown hK.1 hP 0 0 rfl rfl (by decide) tw64 rfl rfl dX6_addPiece_9 ?_
    refine lv_iload_n hx hb dX6_addPiece_12 rfl (lv_at hl 1 rfl) ?_
    refine lv_iconst (v := (0 : Int32)) hx hb dX6_addPiece_13 (by decide) ?_
    obtain ⟨v1, hc, h⟩ := zb1_s h
    refine zE_i (zrV (C := RX5) (As := [.int p1, .int (0 : Int32)]) (rest := []) hx hb hml hown hts tw309 mv_X5_blockCell ⟨Nat.le_of_ble_eq_true rfl, Nat.le_of_ble_eq_true rfl⟩ rfl rfl (ct_X5_blockCell l D ct a f p1 (0 : Int32) k v1 hc) (z_pv hK hP [2, 3] rfl 2 rfl rfl) hl.1 rfl rfl (Nat.le_of_ble_eq_true rfl) dX6_addPiece_14 ⟨Nat.le_refl _, Nat.le_refl _⟩) ?_
    exact B17 f v1 h _ _ hP hD hS ls (lv_sub hl [0, 1, 2, 3, 4] rfl)
  · refine lv_iload_n hx hb dX6_addPiece_4 rfl (lv_at hl 3 rfl) ?_
    refine lv_goto (tgt := 17) hx hb dX6_addPiece_5 (by decide) ?_
    exact B17 f p3 h _ _ hP hD hS ls (lv_sub hl [0, 1, 2, 3, 4] rfl)

def f_X6_cutBlock_b111 (k : Nat) (p1 : Int32) (p2 : Int32) (p3 : Int32)  (f_ : Nat → Int32) (x4 : Int32) (y0 : Int32) : Option (Int32 × (Nat → Int32)) :=
  zb1 (f_X5_setBlockCell k f_ p1 (5 : Int32) (4 : Int32)) fun f11 =>
  zb2 (f_X6_addPiece k f11 p1 p2 p3 y0) fun v12 f13 =>
  zb2 (f_X6_addPiece k f13 p1 p2 x4 y0) fun v14 f15 =>
  some (v12, f15)
def f_X6_cutBlock (k : Nat) (f : Nat → Int32) (p1 : Int32) (p2 : Int32) (p3 : Int32) : Option (Int32 × (Nat → Int32)) :=
  zb1 (f_X5_hasBlock k f p1) fun v1 =>
  if v1 = 0 then
    some ((-1 : Int32), f)
  else
    if p2 < 0 then
      some ((-2 : Int32), f)
    else
      if (3 : Int32) ≤ p2 then
        some ((-2 : Int32), f)
      else
        zb1 (f_X7_isSize k p3) fun v2 =>
        if v2 = 0 then
          some ((-2 : Int32), f)
        else
          zb1 (f_X5_blockCell k f p1 p2) fun v3 =>
          zl (v3 - p3) fun v4 =>
          zb1 (f_X5_cell k f (0 : Int32)) fun v5 =>
          zl (v4 - v5) fun v6 =>
          zb1 (f_X1_mayBeSawn k f p1) fun v7 =>
          if v7 = 0 then
            some ((-5 : Int32), f)
          else
            if (1 : Int32) ≤ v6 then
              zb1 (f_X5_cell k f (6 : Int32)) fun v8 =>
              zl (v8 + (2 : Int32)) fun v9 =>
              if v9 ≤ (24 : Int32) then
                zb1 (f_X5_blockCell k f p1 (5 : Int32)) fun v10 =>
                if v10 = (1 : Int32) then
                  f_X6_cutBlock_b111 k p1 p2 p3 f v6 (1 : Int32)
                else
                  f_X6_cutBlock_b111 k p1 p2 p3 f v6 (0 : Int32)
              else
                some ((-4 : Int32), f)
            else
              some ((-5 : Int32), f)
set_option maxRecDepth 100000 in
set_option maxHeartbeats 4000000 in
theorem ct_X6_cutBlock (l : Launch) (D : va_G) (ct a : Nat → Nat) (f : Nat → Int32) (sz : Nat) (p1 : Int32) (p2 : Int32) (p3 : Int32) (k : Nat) (r : Int32) (f' : Nat → Int32) (h : f_X6_cutBlock k f p1 p2 p3 = some (r, f')) : Met l yX6_cutBlock (Cond.code yX6_cutBlock cX6_cutBlock 7 (some .int) :: zT) ({ frames := 4, cells := 0, slots := 0, locals := 98 } : Room) (va_Pc [.ref (a 1), .int p1, .int p2, .int p3] (zPW D (zTys ct) (wX6 ct a f) sz)) (va_Qi (fun r' (_ : Unit) => r' = r) (zQW D (wX6 ct a f) sz (wX6 ct a f')) (va_A (wX6 ct a f) sz)) 0 0 (va_A (wX6 ct a f) sz) := by
  refine zMet (cc := cX6_cutBlock) (maxL := 7) (ret := (some .int)) (av := [.ref (a 1), .int p1, .int p2, .int p3]) (by decide) (Nat.le_of_ble_eq_true rfl) (fun p e s m below meth c ls hx hb hr hml hts hown hlocks hin hB hl => ?_)
  have hl : lv_has ls 7 [(0, .ref (a 1)), (1, .int p1), (2, .int p2), (3, .int p3)] := hl
  have hown : s.vm.findClass RX6 = some m.cls := hown
  obtain ⟨hsz, hP, hK, hD0⟩ := hB
  subst hsz
  have hD := hD0.self (sz := s.heap.size)
  obtain ⟨A, hAe⟩ : ∃ A, A = va_A (wX6 ct a f) s.heap.size := ⟨_, rfl⟩
  rw [← hAe] at hD
  have hA : ∀ q : Nat, s.heap.size ≤ q → A q := fun q h => by rw [hAe]; exact Or.inr h
  have hS : va_S A s.heap s.heap [] := va_S.rf
  have B111 : ∀ (f_ : Nat → Int32) (x4 : Int32) (y0 : Int32), f_X6_cutBlock_b111 k p1 p2 p3 f_ x4 y0 = some (r, f') → ∀ (H : Heap) (locs : List Loc), va_P D vwCl (wX6 ct a f_) H → va_D A (wX6 ct a f_) → va_S A s.heap H locs → ∀ (ls : Array Slot), lv_has ls 7 [(0, .ref (a 1)), (1, .int p1), (2, .int p2), (3, .int p3), (4, .int x4)] → W p l e ({ frames := 4, cells := 0, slots := 0, locals := 98 } : Room) s m ([.ref (a 1), .int p1, .int p2, .int p3] : List Value).toArray below meth c H locs 0 0 (MQ below (va_Qi (fun r' (_ : Unit) => r' = r) (zQW D (wX6 ct a f) s.heap.size (wX6 ct a f')) (va_A (wX6 ct a f) s.heap.size)) ([.ref (a 1), .int p1, .int p2, .int p3] : List Value).toArray s 0 0 (va_A (wX6 ct a f) s.heap.size)) (F0 m 111 ls [.int y0]) := by
    intro f_ x4 y0 h H locs hP hD hS ls hl
    rw [f_X6_cutBlock_b111] at h
    refine lv_istore (lv' := [(5, .int y0), (0, .ref (a 1)), (1, .int p1), (2, .int p2), (3, .int p3), (4, .int x4)]) hx hb dX6_cutBlock_111 hl (by decide) rfl (fun ls hl => ?_)
    refine lv_aload_n hx hb dX6_cutBlock_113 rfl (lv_at hl 1 rfl) ?_
    refine z_get (C := RX6) (T := TX6) (N := 2) (ci := 5) hx hb hts zin_X6 hown hK.1 hP 0 0 rfl rfl (by decide) tw64 rfl rfl dX6_cutBlock_114 ?_
    refine lv_iload_n hx hb dX6_cutBlock_117 rfl (lv_at hl 2 rfl) ?_
    refine lv_iconst (v := (5 : Int32)) hx hb dX6_cutBlock_118 (by decide) ?_
    refine lv_iconst (v := (4 : Int32)) hx hb dX6_cutBlock_119 (by decide) ?_
    obtain ⟨f11, hc, h⟩ := zb1_s h
    refine zG_v (w1 := wX5 ct a f11) (ws' := wX6 ct a f11) hP hD hS hA [2, 3] [0, 1] [0, 1, 2, 3] rfl rfl (by decide) (by decide) rfl (by decide) (zrV (C := RX5) (As := [.int p1, .int (5 : Int32), .int (4 : Int32)]) (rest := []) hx hb hml hown hts tw286 mv_X5_setBlockCell ⟨Nat.le_of_ble_eq_true rfl, Nat.le_of_ble_eq_true rfl⟩ rfl rfl (ct_X5_setBlockCell l D ct a f_ _ p1 (5 : Int32) (4 : Int32) k f11 hc) (z_wv hK hP hD [2, 3] (by decide) rfl 2 rfl rfl) hl.1 rfl rfl (Nat.le_of_ble_eq_true rfl) dX6_cutBlock_120 ⟨Nat.le_refl _, Nat.le_refl _⟩) (fun H locs hP hD hS => ?_)
    refine lv_aload_n hx hb dX6_cutBlock_123 rfl (lv_at hl 1 rfl) ?_
    refine lv_iload_n hx hb dX6_cutBlock_124 rfl (lv_at hl 2 rfl) ?_
    refine lv_iload_n hx hb dX6_cutBlock_125 rfl (lv_at hl 3 rfl) ?_
    refine lv_iload_n hx hb dX6_cutBlock_126 rfl (lv_at hl 4 rfl) ?_
    refine lv_iload hx hb dX6_cutBlock_127 (lv_at hl 0 rfl) ?_
    obtain ⟨v12, f13, hc, h⟩ := zb2_s h
    refine zG_i (w1 := wX6 ct a f13) (ws' := wX6 ct a f13) hP hD hS hA [0, 1, 2, 3] [] [0, 1, 2, 3] rfl rfl (by decide) (by decide) rfl (by decide) (zrV (C := RX6) (As := [.int p1, .int p2, .int p3, .int y0]) (rest := []) hx hb hml hown hts tw318 mv_X6_addPiece ⟨Nat.le_of_ble_eq_true rfl, Nat.le_of_ble_eq_true rfl⟩ rfl rfl (ct_X6_addPiece l D ct a f11 _ p1 p2 p3 y0 k v12 f13 hc) (z_wv hK hP hD [0, 1, 2, 3] (by decide) rfl 0 rfl rfl) hl.1 rfl rfl (Nat.le_of_ble_eq_true rfl) dX6_cutBlock_129 ⟨Nat.le_refl _, Nat.le_refl _⟩) (fun H locs hP hD hS => ?_)
    refine lv_istore (lv' := [(6, .int v12), (5, .int y0), (0, .ref (a 1)), (1, .int p1), (2, .int p2), (3, .int p3), (4, .int x4)]) hx hb dX6_cutBlock_132 hl (by decide) rfl (fun ls hl => ?_)
    refine lv_aload_n hx hb dX6_cutBlock_134 rfl (lv_at hl 2 rfl) ?_
    refine lv_iload_n hx hb dX6_cutBlock_135 rfl (lv_at hl 3 rfl) ?_
    refine lv_iload_n hx hb dX6_cutBlock_136 rfl (lv_at hl 4 rfl) ?_
    refine lv_iload hx hb dX6_cutBlock_137 (lv_at hl 6 rfl) ?_
    refine lv_iload hx hb dX6_cutBlock_139 (lv_at hl 1 rfl) ?_
    obtain ⟨v14, f15, hc, h⟩ := zb2_s h
    refine zG_i (w1 := wX6 ct a f15) (ws' := wX6 ct a f15) hP hD hS hA [0, 1, 2, 3] [] [0, 1, 2, 3] rfl rfl (by decide) (by decide) rfl (by decide) (zrV (C := RX6) (As := [.int p1, .int p2, .int x4, .int y0]) (rest := []) hx hb hml hown hts tw318 mv_X6_addPiece ⟨Nat.le_of_ble_eq_true rfl, Nat.le_of_ble_eq_true rfl⟩ rfl rfl (ct_X6_addPiece l D ct a f13 _ p1 p2 x4 y0 k v14 f15 hc) (z_wv hK hP hD [0, 1, 2, 3] (by decide) rfl 0 rfl rfl) hl.1 rfl rfl (Nat.le_of_ble_eq_true rfl) dX6_cutBlock_141 ⟨Nat.le_refl _, Nat.le_refl _⟩) (fun H locs hP hD hS => ?_)
    refine lv_pop hx hb dX6_cutBlock_144 rfl ?_
    refine lv_iload hx hb dX6_cutBlock_145 (lv_at hl 0 rfl) ?_
    cases h
    exact zX_i hx hb hr hlocks hP hD hS hAe dX6_cutBlock_147 rfl
  rw [f_X6_cutBlock] at h
  refine lv_aload_n hx hb dX6_cutBlock_0 rfl (lv_at hl 0 rfl) ?_
  refine z_get (C := RX6) (T := TX6) (N := 2) (ci := 5) hx hb hts zin_X6 hown hK.1 hP 0 0 rfl rfl (by decide) tw64 rfl rfl dX6_cutBlock_1 ?_
  refine lv_iload_n hx hb dX6_cutBlock_4 rfl (lv_at hl 1 rfl) ?_
  obtain ⟨v1, hc, h⟩ := zb1_s h
  refine zE_i (zrV (C := RX5) (As := [.int p1]) (rest := []) hx hb hml hown hts tw305 mv_X5_hasBlock ⟨Nat.le_of_ble_eq_true rfl, Nat.le_of_ble_eq_true rfl⟩ rfl rfl (ct_X5_hasBlock l D ct a f p1 k v1 hc) (z_pv hK hP [2, 3] rfl 2 rfl rfl) hl.1 rfl rfl (Nat.le_of_ble_eq_true rfl) dX6_cutBlock_5 ⟨Nat.le_refl _, Nat.le_refl _⟩) ?_
  refine zi_ne (tgt := 13) hx hb dX6_cutBlock_8 (by decide) h (fun h => ?_) (fun h => ?_)
  · refine lv_iload_n hx hb dX6_cutBlock_13 rfl (lv_at hl 2 rfl) ?_
    refine zi_lt (tgt := 29) hx hb dX6_cutBlock_14 (by decide) h (fun h => ?_) (fun h => ?_)
    · refine lv_bipush (v := (-2 : Int32)) hx hb dX6_cutBlock_29 (by decide) ?_
      cases h
      exact zX_i hx hb hr hlocks hP hD hS hAe dX6_cutBlock_31 rfl
    · refine lv_iload_n hx hb dX6_cutBlock_17 rfl (lv_at hl 2 rfl) ?_
      refine lv_iconst (v := (3 : Int32)) hx hb dX6_cutBlock_18 (by decide) ?_
      refine zc_ge (tgt := 29) hx hb dX6_cutBlock_19 (by decide) h (fun h => ?_) (fun h => ?_)
      · refine lv_bipush (v := (-2 : Int32)) hx hb dX6_cutBlock_29 (by decide) ?_
        cases h
        exact zX_i hx hb hr hlocks hP hD hS hAe dX6_cutBlock_31 rfl
      · refine lv_iload_n hx hb dX6_cutBlock_22 rfl (lv_at hl 3 rfl) ?_
        obtain ⟨v2, hc, h⟩ := zb1_s h
        refine zE_i (zrN (As := [.int p3]) (rest := []) hx hb hml hown hts (nw277 hK.2) ms_X7_isSize ⟨Nat.le_of_ble_eq_true rfl, Nat.le_of_ble_eq_true rfl⟩ rfl rfl (ct_X7_isSize l p3 k v2 hc) z_p0 hl.1 rfl rfl (Nat.le_of_ble_eq_true rfl) dX6_cutBlock_23 ⟨Nat.le_refl _, Nat.le_refl _⟩) ?_
        refine zi_ne (tgt := 32) hx hb dX6_cutBlock_26 (by decide) h (fun h => ?_) (fun h => ?_)
        · refine lv_aload_n hx hb dX6_cutBlock_32 rfl (lv_at hl 0 rfl) ?_
          refine z_get (C := RX6) (T := TX6) (N := 2) (ci := 5) hx hb hts zin_X6 hown hK.1 hP 0 0 rfl rfl (by decide) tw64 rfl rfl dX6_cutBlock_33 ?_
          refine lv_iload_n hx hb dX6_cutBlock_36 rfl (lv_at hl 1 rfl) ?_
          refine lv_iload_n hx hb dX6_cutBlock_37 rfl (lv_at hl 2 rfl) ?_
          obtain ⟨v3, hc, h⟩ := zb1_s h
          refine zE_i (zrV (C := RX5) (As := [.int p1, .int p2]) (rest := []) hx hb hml hown hts tw309 mv_X5_blockCell ⟨Nat.le_of_ble_eq_true rfl, Nat.le_of_ble_eq_true rfl⟩ rfl rfl (ct_X5_blockCell l D ct a f p1 p2 k v3 hc) (z_pv hK hP [2, 3] rfl 2 rfl rfl) hl.1 rfl rfl (Nat.le_of_ble_eq_true rfl) dX6_cutBlock_38 ⟨Nat.le_refl _, Nat.le_refl _⟩) ?_
          refine lv_iload_n hx hb dX6_cutBlock_41 rfl (lv_at hl 3 rfl) ?_
          refine o_isub hx hb dX6_cutBlock_42 h (fun v4 h => ?_)
          refine lv_aload_n hx hb dX6_cutBlock_43 rfl (lv_at hl 0 rfl) ?_
          refine z_get (C := RX6) (T := TX6) (N := 2) (ci := 5) hx hb hts zin_X6 hown hK.1 hP 0 0 rfl rfl (by decide) tw64 rfl rfl dX6_cutBlock_44 ?_
          refine lv_iconst (v := (0 : Int32)) hx hb dX6_cutBlock_47 (by decide) ?_
          obtain ⟨v5, hc, h⟩ := zb1_s h
          refine zE_i (zrV (C := RX5) (As := [.int (0 : Int32)]) (rest := [.int v4]) hx hb hml hown hts tw280 mv_X5_cell ⟨Nat.le_of_ble_eq_true rfl, Nat.le_of_ble_eq_true rfl⟩ rfl rfl (ct_X5_cell l D ct a f (0 : Int32) k v5 hc) (z_pv hK hP [2, 3] rfl 2 rfl rfl) hl.1 rfl rfl (Nat.le_of_ble_eq_true rfl) dX6_cutBlock_48 ⟨Nat.le_refl _, Nat.le_refl _⟩) ?_
          refine o_isub hx hb dX6_cutBlock_51 h (fun v6 h => ?_)
          refine lv_istore (lv' := [(4, .int v6), (0, .ref (a 1)), (1, .int p1), (2, .int p2), (3, .int p3)]) hx hb dX6_cutBlock_52 hl (by decide) rfl (fun ls hl => ?_)
          refine lv_aload_n hx hb dX6_cutBlock_54 rfl (lv_at hl 1 rfl) ?_
          refine z_get (C := RX6) (T := TX6) (N := 2) (ci := 5) hx hb hts zin_X6 hown hK.1 hP 0 1 rfl rfl (by decide) tw65 rfl rfl dX6_cutBlock_55 ?_
          refine lv_iload_n hx hb dX6_cutBlock_58 rfl (lv_at hl 2 rfl) ?_
          obtain ⟨v7, hc, h⟩ := zb1_s h
          refine zE_i (zrV (C := RX1) (As := [.int p1]) (rest := []) hx hb hml hown hts tw310 mv_X1_mayBeSawn ⟨Nat.le_of_ble_eq_true rfl, Nat.le_of_ble_eq_true rfl⟩ rfl rfl (ct_X1_mayBeSawn l D ct a f p1 k v7 hc) (z_pv hK hP [1, 2, 3] rfl 1 rfl rfl) hl.1 rfl rfl (Nat.le_of_ble_eq_true rfl) dX6_cutBlock_59 ⟨Nat.le_refl _, Nat.le_refl _⟩) ?_
          refine zi_eq (tgt := 71) hx hb dX6_cutBlock_62 (by decide) h (fun h => ?_) (fun h => ?_)
          · refine lv_bipush (v := (-5 : Int32)) hx hb dX6_cutBlock_71 (by decide) ?_
            cases h
            exact zX_i hx hb hr hlocks hP hD hS hAe dX6_cutBlock_73 rfl
          · refine lv_iload hx hb dX6_cutBlock_65 (lv_at hl 0 rfl) ?_
            refine lv_iconst (v := (1 : Int32)) hx hb dX6_cutBlock_67 (by decide) ?_
            refine zc_ge (tgt := 74) hx hb dX6_cutBlock_68 (by decide) h (fun h => ?_) (fun h => ?_)
            · refine lv_aload_n hx hb dX6_cutBlock_74 rfl (lv_at hl 1 rfl) ?_
              refine z_get (C := RX6) (T := TX6) (N := 2) (ci := 5) hx hb hts zin_X6 hown hK.1 hP 0 0 rfl rfl (by decide) tw64 rfl rfl dX6_cutBlock_75 ?_
              refine lv_bipush (v := (6 : Int32)) hx hb dX6_cutBlock_78 (by decide) ?_
              obtain ⟨v8, hc, h⟩ := zb1_s h
              refine zE_i (zrV (C := RX5) (As := [.int (6 : Int32)]) (rest := []) hx hb hml hown hts tw280 mv_X5_cell ⟨Nat.le_of_ble_eq_true rfl, Nat.le_of_ble_eq_true rfl⟩ rfl rfl (ct_X5_cell l D ct a f (6 : Int32) k v8 hc) (z_pv hK hP [2, 3] rfl 2 rfl rfl) hl.1 rfl rfl (Nat.le_of_ble_eq_true rfl) dX6_cutBlock_80 ⟨Nat.le_refl _, Nat.le_refl _⟩) ?_
              refine lv_iconst (v := (2 : Int32)) hx hb dX6_cutBlock_83 (by decide) ?_
              refine o_iadd hx hb dX6_cutBlock_84 h (fun v9 h => ?_)
              refine lv_bipush (v := (24 : Int32)) hx hb dX6_cutBlock_85 (by decide) ?_
              refine zc_le (tgt := 93) hx hb dX6_cutBlock_87 (by decide) h (fun h => ?_) (fun h => ?_)
              · refine lv_aload_n hx hb dX6_cutBlock_93 rfl (lv_at hl 1 rfl) ?_
                refine z_get (C := RX6) (T := TX6) (N := 2) (ci := 5) hx hb hts zin_X6 hown hK.1 hP 0 0 rfl rfl (by decide) tw64 rfl rfl dX6_cutBlock_94 ?_
                refine lv_iload_n hx hb dX6_cutBlock_97 rfl (lv_at hl 2 rfl) ?_
                refine lv_iconst (v := (5 : Int32)) hx hb dX6_cutBlock_98 (by decide) ?_
                obtain ⟨v10, hc, h⟩ := zb1_s h
                refine zE_i (zrV (C := RX5) (As := [.int p1, .int (5 : Int32)]) (rest := []) hx hb hml hown hts tw309 mv_X5_blockCell ⟨Nat.le_of_ble_eq_true rfl, Nat.le_of_ble_eq_true rfl⟩ rfl rfl (ct_X5_blockCell l D ct a f p1 (5 : Int32) k v10 hc) (z_pv hK hP [2, 3] rfl 2 rfl rfl) hl.1 rfl rfl (Nat.le_of_ble_eq_true rfl) dX6_cutBlock_99 ⟨Nat.le_refl _, Nat.le_refl _⟩) ?_
                refine lv_iconst (v := (1 : Int32)) hx hb dX6_cutBlock_102 (by decide) ?_
                refine zc_ne (tgt := 110) hx hb dX6_cutBlock_103 (by decide) h (fun h => ?_) (fun h => ?_)
                · refine lv_iconst (v := (0 : Int32)) hx hb dX6_cutBlock_110 (by decide) ?_
                  exact B111 f v6 (0 : Int32) h _ _ hP hD hS ls (lv_sub hl [1, 2, 3, 4, 0] rfl)
                · refine lv_iconst (v := (1 : Int32)) hx hb dX6_cutBlock_106 (by decide) ?_
                  refine lv_goto (tgt := 111) hx hb dX6_cutBlock_107 (by decide) ?_
                  exact B111 f v6 (1 : Int32) h _ _ hP hD hS ls (lv_sub hl [1, 2, 3, 4, 0] rfl)
              · refine lv_bipush (v := (-4 : Int32)) hx hb dX6_cutBlock_90 (by decide) ?_
                cases h
                exact zX_i hx hb hr hlocks hP hD hS hAe dX6_cutBlock_92 rfl
            · refine lv_bipush (v := (-5 : Int32)) hx hb dX6_cutBlock_71 (by decide) ?_
              cases h
              exact zX_i hx hb hr hlocks hP hD hS hAe dX6_cutBlock_73 rfl
        · refine lv_bipush (v := (-2 : Int32)) hx hb dX6_cutBlock_29 (by decide) ?_
          cases h
          exact zX_i hx hb hr hlocks hP hD hS hAe dX6_cutBlock_31 rfl
  · refine lv_iconst (v := (-1 : Int32)) hx hb dX6_cutBlock_11 (by decide) ?_
    cases h
    exact zX_i hx hb hr hlocks hP hD hS hAe dX6_cutBlock_12 rfl

def f_X6_moveBlock_b69 (k : Nat) (p1 : Int32)  (f_ : Nat → Int32) (y0 : Int32) : Option (Int32 × (Nat → Int32)) :=
  zb1 (f_X5_setBlockCell k f_ p1 (5 : Int32) y0) fun f5 =>
  some (y0, f5)
def f_X6_moveBlock_b52 (k : Nat) (p1 : Int32)  (f_ : Nat → Int32) : Option (Int32 × (Nat → Int32)) :=
  zb1 (f_X5_blockCell k f_ p1 (5 : Int32)) fun v4 =>
  if v4 = 0 then
    f_X6_moveBlock_b69 k p1 f_ (1 : Int32)
  else
    f_X6_moveBlock_b69 k p1 f_ (0 : Int32)
def f_X6_moveBlock (k : Nat) (f : Nat → Int32) (p1 : Int32) : Option (Int32 × (Nat → Int32)) :=
  zb1 (f_X5_hasBlock k f p1) fun v1 =>
  if v1 = 0 then
    some ((-1 : Int32), f)
  else
    zb1 (f_X1_isAtHand k f p1) fun v2 =>
    if v2 = 0 then
      some ((-5 : Int32), f)
    else
      zb1 (f_X5_blockCell k f p1 (5 : Int32)) fun v3 =>
      if v3 = 0 then
        zb1 (f_X1_roofHasRoom k f) fun v6 =>
        if v6 = 0 then
          some ((-4 : Int32), f)
        else
          f_X6_moveBlock_b52 k p1 f
      else
        f_X6_moveBlock_b52 k p1 f
set_option maxRecDepth 100000 in
set_option maxHeartbeats 4000000 in
theorem ct_X6_moveBlock (l : Launch) (D : va_G) (ct a : Nat → Nat) (f : Nat → Int32) (sz : Nat) (p1 : Int32) (k : Nat) (r : Int32) (f' : Nat → Int32) (h : f_X6_moveBlock k f p1 = some (r, f')) : Met l yX6_moveBlock (Cond.code yX6_moveBlock cX6_moveBlock 3 (some .int) :: zT) ({ frames := 3, cells := 0, slots := 0, locals := 68 } : Room) (va_Pc [.ref (a 1), .int p1] (zPW D (zTys ct) (wX6 ct a f) sz)) (va_Qi (fun r' (_ : Unit) => r' = r) (zQW D (wX6 ct a f) sz (wX6 ct a f')) (va_A (wX6 ct a f) sz)) 0 0 (va_A (wX6 ct a f) sz) := by
  refine zMet (cc := cX6_moveBlock) (maxL := 3) (ret := (some .int)) (av := [.ref (a 1), .int p1]) (by decide) (Nat.le_of_ble_eq_true rfl) (fun p e s m below meth c ls hx hb hr hml hts hown hlocks hin hB hl => ?_)
  have hl : lv_has ls 3 [(0, .ref (a 1)), (1, .int p1)] := hl
  have hown : s.vm.findClass RX6 = some m.cls := hown
  obtain ⟨hsz, hP, hK, hD0⟩ := hB
  subst hsz
  have hD := hD0.self (sz := s.heap.size)
  obtain ⟨A, hAe⟩ : ∃ A, A = va_A (wX6 ct a f) s.heap.size := ⟨_, rfl⟩
  rw [← hAe] at hD
  have hA : ∀ q : Nat, s.heap.size ≤ q → A q := fun q h => by rw [hAe]; exact Or.inr h
  have hS : va_S A s.heap s.heap [] := va_S.rf
  have B69 : ∀ (f_ : Nat → Int32) (y0 : Int32), f_X6_moveBlock_b69 k p1 f_ y0 = some (r, f') → ∀ (H : Heap) (locs : List Loc), va_P D vwCl (wX6 ct a f_) H → va_D A (wX6 ct a f_) → va_S A s.heap H locs → ∀ (ls : Array Slot), lv_has ls 3 [(0, .ref (a 1)), (1, .int p1)] → W p l e ({ frames := 3, cells := 0, slots := 0, locals := 68 } : Room) s m ([.ref (a 1), .int p1] : List Value).toArray below meth c H locs 0 0 (MQ below (va_Qi (fun r' (_ : Unit) => r' = r) (zQW D (wX6 ct a f) s.heap.size (wX6 ct a f')) (va_A (wX6 ct a f) s.heap.size)) ([.ref (a 1), .int p1] : List Value).toArray s 0 0 (va_A (wX6 ct a f) s.heap.size)) (F0 m 69 ls [.int y0]) := by
    intro f_ y0 h H locs hP hD hS ls hl
    rw [f_X6_moveBlock_b69] at h
    refine lv_istore_n (lv' := [(2, .int y0), (0, .ref (a 1)), (1, .int p1)]) hx hb dX6_moveBlock_69 rfl hl (by decide) rfl (fun ls hl => ?_)
    refine lv_aload_n hx hb dX6_moveBlock_70 rfl (lv_at hl 1 rfl) ?_
    refine z_get (C := RX6) (T := TX6) (N := 2) (ci := 5) hx hb hts zin_X6 hown hK.1 hP 0 0 rfl rfl (by decide) tw64 rfl rfl dX6_moveBlock_71 ?_
    refine lv_iload_n hx hb dX6_moveBlock_74 rfl (lv_at hl 2 rfl) ?_
    refine lv_iconst (v := (5 : Int32)) hx hb dX6_moveBlock_75 (by decide) ?_
    refine lv_iload_n hx hb dX6_moveBlock_76 rfl (lv_at hl 0 rfl) ?_
    obtain ⟨f5, hc, h⟩ := zb1_s h
    refine zG_v (w1 := wX5 ct a f5) (ws' := wX6 ct a f5) hP hD hS hA [2, 3] [0, 1] [0, 1, 2, 3] rfl rfl (by decide) (by decide) rfl (by decide) (zrV (C := RX5) (As := [.int p1, .int (5 : Int32), .int y0]) (rest := []) hx hb hml hown hts tw286 mv_X5_setBlockCell ⟨Nat.le_of_ble_eq_true rfl, Nat.le_of_ble_eq_true rfl⟩ rfl rfl (ct_X5_setBlockCell l D ct a f_ _ p1 (5 : Int32) y0 k f5 hc) (z_wv hK hP hD [2, 3] (by decide) rfl 2 rfl rfl) hl.1 rfl rfl (Nat.le_of_ble_eq_true rfl) dX6_moveBlock_77 ⟨Nat.le_refl _, Nat.le_refl _⟩) (fun H locs hP hD hS => ?_)
    refine lv_iload_n hx hb dX6_moveBlock_80 rfl (lv_at hl 0 rfl) ?_
    cases h
    exact zX_i hx hb hr hlocks hP hD hS hAe dX6_moveBlock_81 rfl
  have B52 : ∀ (f_ : Nat → Int32), f_X6_moveBlock_b52 k p1 f_ = some (r, f') → ∀ (H : Heap) (locs : List Loc), va_P D vwCl (wX6 ct a f_) H → va_D A (wX6 ct a f_) → va_S A s.heap H locs → ∀ (ls : Array Slot), lv_has ls 3 [(0, .ref (a 1)), (1, .int p1)] → W p l e ({ frames := 3, cells := 0, slots := 0, locals := 68 } : Room) s m ([.ref (a 1), .int p1] : List Value).toArray below meth c H locs 0 0 (MQ below (va_Qi (fun r' (_ : Unit) => r' = r) (zQW D (wX6 ct a f) s.heap.size (wX6 ct a f')) (va_A (wX6 ct a f) s.heap.size)) ([.ref (a 1), .int p1] : List Value).toArray s 0 0 (va_A (wX6 ct a f) s.heap.size)) (F0 m 52 ls []) := by
    intro f_ h H locs hP hD hS ls hl
    rw [f_X6_moveBlock_b52] at h
    refine lv_aload_n hx hb dX6_moveBlock_52 rfl (lv_at hl 0 rfl) ?_
    refine z_get (C := RX6) (T := TX6) (N := 2) (ci := 5) hx hb hts zin_X6 hown hK.1 hP 0 0 rfl rfl (by decide) tw64 rfl rfl dX6_moveBlock_53 ?_
    refine lv_iload_n hx hb dX6_moveBlock_56 rfl (lv_at hl 1 rfl) ?_
    refine lv_iconst (v := (5 : Int32)) hx hb dX6_moveBlock_57 (by decide) ?_
    obtain ⟨v4, hc, h⟩ := zb1_s h
    refine zE_i (zrV (C := RX5) (As := [.int p1, .int (5 : Int32)]) (rest := []) hx hb hml hown hts tw309 mv_X5_blockCell ⟨Nat.le_of_ble_eq_true rfl, Nat.le_of_ble_eq_true rfl⟩ rfl rfl (ct_X5_blockCell l D ct a f_ p1 (5 : Int32) k v4 hc) (z_pv hK hP [2, 3] rfl 2 rfl rfl) hl.1 rfl rfl (Nat.le_of_ble_eq_true rfl) dX6_moveBlock_58 ⟨Nat.le_refl _, Nat.le_refl _⟩) ?_
    refine zi_ne (tgt := 68) hx hb dX6_moveBlock_61 (by decide) h (fun h => ?_) (fun h => ?_)
    · refine lv_iconst (v := (0 : Int32)) hx hb dX6_moveBlock_68 (by decide) ?_
      exact B69 f_ (0 : Int32) h _ _ hP hD hS ls (lv_sub hl [0, 1] rfl)
    · refine lv_iconst (v := (1 : Int32)) hx hb dX6_moveBlock_64 (by decide) ?_
      refine lv_goto (tgt := 69) hx hb dX6_moveBlock_65 (by decide) ?_
      exact B69 f_ (1 : Int32) h _ _ hP hD hS ls (lv_sub hl [0, 1] rfl)
  rw [f_X6_moveBlock] at h
  refine lv_aload_n hx hb dX6_moveBlock_0 rfl (lv_at hl 0 rfl) ?_
  refine z_get (C := RX6) (T := TX6) (N := 2) (ci := 5) hx hb hts zin_X6 hown hK.1 hP 0 0 rfl rfl (by decide) tw64 rfl rfl dX6_moveBlock_1 ?_
  refine lv_iload_n hx hb dX6_moveBlock_4 rfl (lv_at hl 1 rfl) ?_
  obtain ⟨v1, hc, h⟩ := zb1_s h
  refine zE_i (zrV (C := RX5) (As := [.int p1]) (rest := []) hx hb hml hown hts tw305 mv_X5_hasBlock ⟨Nat.le_of_ble_eq_true rfl, Nat.le_of_ble_eq_true rfl⟩ rfl rfl (ct_X5_hasBlock l D ct a f p1 k v1 hc) (z_pv hK hP [2, 3] rfl 2 rfl rfl) hl.1 rfl rfl (Nat.le_of_ble_eq_true rfl) dX6_moveBlock_5 ⟨Nat.le_refl _, Nat.le_refl _⟩) ?_
  refine zi_ne (tgt := 13) hx hb dX6_moveBlock_8 (by decide) h (fun h => ?_) (fun h => ?_)
  · refine lv_aload_n hx hb dX6_moveBlock_13 rfl (lv_at hl 0 rfl) ?_
    refine z_get (C := RX6) (T := TX6) (N := 2) (ci := 5) hx hb hts zin_X6 hown hK.1 hP 0 1 rfl rfl (by decide) tw65 rfl rfl dX6_moveBlock_14 ?_
    refine lv_iload_n hx hb dX6_moveBlock_17 rfl (lv_at hl 1 rfl) ?_
    obtain ⟨v2, hc, h⟩ := zb1_s h
    refine zE_i (zrV (C := RX1) (As := [.int p1]) (rest := []) hx hb hml hown hts tw335 mv_X1_isAtHand ⟨Nat.le_of_ble_eq_true rfl, Nat.le_of_ble_eq_true rfl⟩ rfl rfl (ct_X1_isAtHand l D ct a f p1 k v2 hc) (z_pv hK hP [1, 2, 3] rfl 1 rfl rfl) hl.1 rfl rfl (Nat.le_of_ble_eq_true rfl) dX6_moveBlock_18 ⟨Nat.le_refl _, Nat.le_refl _⟩) ?_
    refine zi_ne (tgt := 27) hx hb dX6_moveBlock_21 (by decide) h (fun h => ?_) (fun h => ?_)
    · refine lv_aload_n hx hb dX6_moveBlock_27 rfl (lv_at hl 0 rfl) ?_
      refine z_get (C := RX6) (T := TX6) (N := 2) (ci := 5) hx hb hts zin_X6 hown hK.1 hP 0 0 rfl rfl (by decide) tw64 rfl rfl dX6_moveBlock_28 ?_
      refine lv_iload_n hx hb dX6_moveBlock_31 rfl (lv_at hl 1 rfl) ?_
      refine lv_iconst (v := (5 : Int32)) hx hb dX6_moveBlock_32 (by decide) ?_
      obtain ⟨v3, hc, h⟩ := zb1_s h
      refine zE_i (zrV (C := RX5) (As := [.int p1, .int (5 : Int32)]) (rest := []) hx hb hml hown hts tw309 mv_X5_blockCell ⟨Nat.le_of_ble_eq_true rfl, Nat.le_of_ble_eq_true rfl⟩ rfl rfl (ct_X5_blockCell l D ct a f p1 (5 : Int32) k v3 hc) (z_pv hK hP [2, 3] rfl 2 rfl rfl) hl.1 rfl rfl (Nat.le_of_ble_eq_true rfl) dX6_moveBlock_33 ⟨Nat.le_refl _, Nat.le_refl _⟩) ?_
      refine zi_ne (tgt := 52) hx hb dX6_moveBlock_36 (by decide) h (fun h => ?_) (fun h => ?_)
      · exact B52 f h _ _ hP hD hS ls (lv_sub hl [0, 1] rfl)
      · refine lv_aload_n hx hb dX6_moveBlock_39 rfl (lv_at hl 0 rfl) ?_
        refine z_get (C := RX6) (T := TX6) (N := 2) (ci := 5) hx hb hts zin_X6 hown hK.1 hP 0 1 rfl rfl (by decide) tw65 rfl rfl dX6_moveBlock_40 ?_
        obtain ⟨v6, hc, h⟩ := zb1_s h
        refine zE_i (zrV (C := RX1) (As := []) (rest := []) hx hb hml hown hts tw322 mv_X1_roofHasRoom ⟨Nat.le_of_ble_eq_true rfl, Nat.le_of_ble_eq_true rfl⟩ rfl rfl (ct_X1_roofHasRoom l D ct a f k v6 hc) (z_pv hK hP [1, 2, 3] rfl 1 rfl rfl) hl.1 rfl rfl (Nat.le_of_ble_eq_true rfl) dX6_moveBlock_43 ⟨Nat.le_refl _, Nat.le_refl _⟩) ?_
        refine zi_ne (tgt := 52) hx hb dX6_moveBlock_46 (by decide) h (fun h => ?_) (fun h => ?_)
        · exact B52 f h _ _ hP hD hS ls (lv_sub hl [0, 1] rfl)
        · refine lv_bipush (v := (-4 : Int32)) hx hb dX6_moveBlock_49 (by decide) ?_
          cases h
          exact zX_i hx hb hr hlocks hP hD hS hAe dX6_moveBlock_51 rfl
    · refine lv_bipush (v := (-5 : Int32)) hx hb dX6_moveBlock_24 (by decide) ?_
      cases h
      exact zX_i hx hb hr hlocks hP hD hS hAe dX6_moveBlock_26 rfl
  · refine lv_iconst (v := (-1 : Int32)) hx hb dX6_moveBlock_11 (by decide) ?_
    cases h
    exact zX_i hx hb hr hlocks hP hD hS hAe dX6_moveBlock_12 rfl

def f_X7_greatestOf (k : Nat) (p1 : Int32) (p2 : Int32) (p3 : Int32) : Option (Int32) :=
  zl (if p2 < p3 then p3 else p2) fun v1 =>
  zl (if p1 < v1 then v1 else p1) fun v2 =>
  some v2
set_option maxRecDepth 100000 in
set_option maxHeartbeats 4000000 in
theorem ct_X7_greatestOf (l : Launch) (p1 : Int32) (p2 : Int32) (p3 : Int32) (k : Nat) (r : Int32) (h : f_X7_greatestOf k p1 p2 p3 = some r) : Met l yX7_greatestOf (Cond.code yX7_greatestOf cX7_greatestOf 3 (some .int) :: zT) ({ frames := 1, cells := 0, slots := 0, locals := 21 } : Room) (va_Pc [.int p1, .int p2, .int p3] (fun _ => True)) (vp_Si (fun r' => r' = r)) 0 0 (fun _ => False) := by
  refine zMet (cc := cX7_greatestOf) (maxL := 3) (ret := (some .int)) (av := [.int p1, .int p2, .int p3]) (by decide) (Nat.le_of_ble_eq_true rfl) (fun p e s m below meth c ls hx hb hr hml hts hown hlocks hin hB hl => ?_)
  have hl : lv_has ls 3 [(0, .int p1), (1, .int p2), (2, .int p3)] := hl
  have hown : s.vm.findClass RX7 = some m.cls := hown
  rw [f_X7_greatestOf] at h
  refine lv_iload_n hx hb dX7_greatestOf_0 rfl (lv_at hl 0 rfl) ?_
  refine lv_iload_n hx hb dX7_greatestOf_1 rfl (lv_at hl 1 rfl) ?_
  refine lv_iload_n hx hb dX7_greatestOf_2 rfl (lv_at hl 2 rfl) ?_
  refine o_mmax hx hb hml hl.1 hown hts tw347 (Nat.le_of_ble_eq_true rfl) (Nat.le_of_ble_eq_true rfl) (Nat.le_refl _) (Nat.le_refl _) dX7_greatestOf_3 h (fun v1 h => ?_)
  refine o_mmax hx hb hml hl.1 hown hts tw347 (Nat.le_of_ble_eq_true rfl) (Nat.le_of_ble_eq_true rfl) (Nat.le_refl _) (Nat.le_refl _) dX7_greatestOf_6 h (fun v2 h => ?_)
  exact zR_i hx hb hr hlocks dX7_greatestOf_9 h

def f_X5_setOrderCell (k : Nat) (f : Nat → Int32) (p1 : Int32) (p2 : Int32) (p3 : Int32) : Option ((Nat → Int32)) :=
  zl (p1 * (6 : Int32)) fun v1 =>
  zl ((272 : Int32) + v1) fun v2 =>
  zl (v2 + p2) fun v3 =>
  zb1 (f_X5_setCell k f v3 p3) fun f4 =>
  some f4
set_option maxRecDepth 100000 in
set_option maxHeartbeats 4000000 in
theorem ct_X5_setOrderCell (l : Launch) (D : va_G) (ct a : Nat → Nat) (f : Nat → Int32) (sz : Nat) (p1 : Int32) (p2 : Int32) (p3 : Int32) (k : Nat) (f' : Nat → Int32) (h : f_X5_setOrderCell k f p1 p2 p3 = some f') : Met l yX5_setOrderCell (Cond.code yX5_setOrderCell cX5_setOrderCell 4 none :: zT) ({ frames := 1, cells := 0, slots := 0, locals := 22 } : Room) (va_Pc [.ref (a 3), .int p1, .int p2, .int p3] (zPW D (zTys ct) (wX5 ct a f) sz)) (va_Qv (fun (_ : Unit) => True) (zQW D (wX5 ct a f) sz (wX5 ct a f')) (va_A (wX5 ct a f) sz)) 0 0 (va_A (wX5 ct a f) sz) := by
  refine zMet (cc := cX5_setOrderCell) (maxL := 4) (ret := none) (av := [.ref (a 3), .int p1, .int p2, .int p3]) (by decide) (Nat.le_of_ble_eq_true rfl) (fun p e s m below meth c ls hx hb hr hml hts hown hlocks hin hB hl => ?_)
  have hl : lv_has ls 4 [(0, .ref (a 3)), (1, .int p1), (2, .int p2), (3, .int p3)] := hl
  have hown : s.vm.findClass RX5 = some m.cls := hown
  obtain ⟨hsz, hP, hK, hD0⟩ := hB
  subst hsz
  have hD := hD0.self (sz := s.heap.size)
  obtain ⟨A, hAe⟩ : ∃ A, A = va_A (wX5 ct a f) s.heap.size := ⟨_, rfl⟩
  rw [← hAe] at hD
  have hA : ∀ q : Nat, s.heap.size ≤ q → A q := fun q h => by rw [hAe]; exact Or.inr h
  have hS : va_S A s.heap s.heap [] := va_S.rf
  rw [f_X5_setOrderCell] at h
  refine lv_aload_n hx hb dX5_setOrderCell_0 rfl (lv_at hl 0 rfl) ?_
  refine lv_sipush (v := (272 : Int32)) hx hb dX5_setOrderCell_1 (by decide) ?_
  refine lv_iload_n hx hb dX5_setOrderCell_4 rfl (lv_at hl 1 rfl) ?_
  refine lv_bipush (v := (6 : Int32)) hx hb dX5_setOrderCell_5 (by decide) ?_
  refine o_imul hx hb dX5_setOrderCell_7 h (fun v1 h => ?_)
  refine o_iadd hx hb dX5_setOrderCell_8 h (fun v2 h => ?_)
  refine lv_iload_n hx hb dX5_setOrderCell_9 rfl (lv_at hl 2 rfl) ?_
  refine o_iadd hx hb dX5_setOrderCell_10 h (fun v3 h => ?_)
  refine lv_iload_n hx hb dX5_setOrderCell_11 rfl (lv_at hl 3 rfl) ?_
  obtain ⟨f4, hc, h⟩ := zb1_s h
  refine zG_v (w1 := wX5 ct a f4) (ws' := wX5 ct a f4) hP hD hS hA [0, 1] [] [0, 1] rfl rfl (by decide) (by decide) rfl (by decide) (zrV (C := RX5) (As := [.int v3, .int p3]) (rest := []) hx hb hml hown hts tw35 mv_X5_setCell ⟨Nat.le_of_ble_eq_true rfl, Nat.le_of_ble_eq_true rfl⟩ rfl rfl (ct_X5_setCell l D ct a f _ v3 p3 k f4 hc) (z_wv hK hP hD [0, 1] (by decide) rfl 0 rfl rfl) hl.1 rfl rfl (Nat.le_of_ble_eq_true rfl) dX5_setOrderCell_12 ⟨Nat.le_refl _, Nat.le_refl _⟩) (fun H locs hP hD hS => ?_)
  cases h
  exact zX_v hx hb hr hlocks hP hD hS hAe dX5_setOrderCell_15

def f_X7_leastOf (k : Nat) (p1 : Int32) (p2 : Int32) (p3 : Int32) : Option (Int32) :=
  zl (if p3 < p2 then p3 else p2) fun v1 =>
  zl (if v1 < p1 then v1 else p1) fun v2 =>
  some v2
set_option maxRecDepth 100000 in
set_option maxHeartbeats 4000000 in
theorem ct_X7_leastOf (l : Launch) (p1 : Int32) (p2 : Int32) (p3 : Int32) (k : Nat) (r : Int32) (h : f_X7_leastOf k p1 p2 p3 = some r) : Met l yX7_leastOf (Cond.code yX7_leastOf cX7_leastOf 3 (some .int) :: zT) ({ frames := 1, cells := 0, slots := 0, locals := 21 } : Room) (va_Pc [.int p1, .int p2, .int p3] (fun _ => True)) (vp_Si (fun r' => r' = r)) 0 0 (fun _ => False) := by
  refine zMet (cc := cX7_leastOf) (maxL := 3) (ret := (some .int)) (av := [.int p1, .int p2, .int p3]) (by decide) (Nat.le_of_ble_eq_true rfl) (fun p e s m below meth c ls hx hb hr hml hts hown hlocks hin hB hl => ?_)
  have hl : lv_has ls 3 [(0, .int p1), (1, .int p2), (2, .int p3)] := hl
  have hown : s.vm.findClass RX7 = some m.cls := hown
  rw [f_X7_leastOf] at h
  refine lv_iload_n hx hb dX7_leastOf_0 rfl (lv_at hl 0 rfl) ?_
  refine lv_iload_n hx hb dX7_leastOf_1 rfl (lv_at hl 1 rfl) ?_
  refine lv_iload_n hx hb dX7_leastOf_2 rfl (lv_at hl 2 rfl) ?_
  refine o_mmin hx hb hml hl.1 hown hts tw361 (Nat.le_of_ble_eq_true rfl) (Nat.le_of_ble_eq_true rfl) (Nat.le_refl _) (Nat.le_refl _) dX7_leastOf_3 h (fun v1 h => ?_)
  refine o_mmin hx hb hml hl.1 hown hts tw361 (Nat.le_of_ble_eq_true rfl) (Nat.le_of_ble_eq_true rfl) (Nat.le_refl _) (Nat.le_refl _) dX7_leastOf_6 h (fun v2 h => ?_)
  exact zR_i hx hb hr hlocks dX7_leastOf_9 h

def f_X7_middleOf (k : Nat) (p1 : Int32) (p2 : Int32) (p3 : Int32) : Option (Int32) :=
  zl (p1 + p2) fun v1 =>
  zl (v1 + p3) fun v2 =>
  zb1 (f_X7_greatestOf k p1 p2 p3) fun v3 =>
  zl (v2 - v3) fun v4 =>
  zb1 (f_X7_leastOf k p1 p2 p3) fun v5 =>
  zl (v4 - v5) fun v6 =>
  some v6
set_option maxRecDepth 100000 in
set_option maxHeartbeats 4000000 in
theorem ct_X7_middleOf (l : Launch) (p1 : Int32) (p2 : Int32) (p3 : Int32) (k : Nat) (r : Int32) (h : f_X7_middleOf k p1 p2 p3 = some r) : Met l yX7_middleOf (Cond.code yX7_middleOf cX7_middleOf 3 (some .int) :: zT) ({ frames := 2, cells := 0, slots := 0, locals := 43 } : Room) (va_Pc [.int p1, .int p2, .int p3] (fun _ => True)) (vp_Si (fun r' => r' = r)) 0 0 (fun _ => False) := by
  refine zMet (cc := cX7_middleOf) (maxL := 3) (ret := (some .int)) (av := [.int p1, .int p2, .int p3]) (by decide) (Nat.le_of_ble_eq_true rfl) (fun p e s m below meth c ls hx hb hr hml hts hown hlocks hin hB hl => ?_)
  have hl : lv_has ls 3 [(0, .int p1), (1, .int p2), (2, .int p3)] := hl
  have hown : s.vm.findClass RX7 = some m.cls := hown
  rw [f_X7_middleOf] at h
  refine lv_iload_n hx hb dX7_middleOf_0 rfl (lv_at hl 0 rfl) ?_
  refine lv_iload_n hx hb dX7_middleOf_1 rfl (lv_at hl 1 rfl) ?_
  refine o_iadd hx hb dX7_middleOf_2 h (fun v1 h => ?_)
  refine lv_iload_n hx hb dX7_middleOf_3 rfl (lv_at hl 2 rfl) ?_
  refine o_iadd hx hb dX7_middleOf_4 h (fun v2 h => ?_)
  refine lv_iload_n hx hb dX7_middleOf_5 rfl (lv_at hl 0 rfl) ?_
  refine lv_iload_n hx hb dX7_middleOf_6 rfl (lv_at hl 1 rfl) ?_
  refine lv_iload_n hx hb dX7_middleOf_7 rfl (lv_at hl 2 rfl) ?_
  obtain ⟨v3, hc, h⟩ := zb1_s h
  refine zE_i (zrS (As := [.int p1, .int p2, .int p3]) (rest := [.int v2]) hx hb hml hown hts tw357 ms_X7_greatestOf ⟨Nat.le_of_ble_eq_true rfl, Nat.le_of_ble_eq_true rfl⟩ rfl rfl (ct_X7_greatestOf l p1 p2 p3 k v3 hc) z_p0 hl.1 rfl rfl (Nat.le_of_ble_eq_true rfl) dX7_middleOf_8 ⟨Nat.le_refl _, Nat.le_refl _⟩) ?_
  refine o_isub hx hb dX7_middleOf_11 h (fun v4 h => ?_)
  refine lv_iload_n hx hb dX7_middleOf_12 rfl (lv_at hl 0 rfl) ?_
  refine lv_iload_n hx hb dX7_middleOf_13 rfl (lv_at hl 1 rfl) ?_
  refine lv_iload_n hx hb dX7_middleOf_14 rfl (lv_at hl 2 rfl) ?_
  obtain ⟨v5, hc, h⟩ := zb1_s h
  refine zE_i (zrS (As := [.int p1, .int p2, .int p3]) (rest := [.int v4]) hx hb hml hown hts tw358 ms_X7_leastOf ⟨Nat.le_of_ble_eq_true rfl, Nat.le_of_ble_eq_true rfl⟩ rfl rfl (ct_X7_leastOf l p1 p2 p3 k v5 hc) z_p0 hl.1 rfl rfl (Nat.le_of_ble_eq_true rfl) dX7_middleOf_15 ⟨Nat.le_refl _, Nat.le_refl _⟩) ?_
  refine o_isub hx hb dX7_middleOf_18 h (fun v6 h => ?_)
  exact zR_i hx hb hr hlocks dX7_middleOf_19 h

def f_X6_takeOrder (k : Nat) (f : Nat → Int32) (p1 : Int32) (p2 : Int32) (p3 : Int32) : Option (Int32 × (Nat → Int32)) :=
  zb1 (f_X7_isSize k p1) fun v1 =>
  if v1 = 0 then
    some ((-2 : Int32), f)
  else
    zb1 (f_X7_isSize k p2) fun v2 =>
    if v2 = 0 then
      some ((-2 : Int32), f)
    else
      zb1 (f_X7_isSize k p3) fun v3 =>
      if v3 = 0 then
        some ((-2 : Int32), f)
      else
        zb1 (f_X5_cell k f (7 : Int32)) fun v4 =>
        if v4 < (10 : Int32) then
          zl (v4 + (1 : Int32)) fun v5 =>
          zb1 (f_X5_setCell k f (7 : Int32) v5) fun f6 =>
          zb1 (f_X7_greatestOf k p1 p2 p3) fun v7 =>
          zb1 (f_X5_setOrderCell k f6 v4 (0 : Int32) v7) fun f8 =>
          zb1 (f_X7_middleOf k p1 p2 p3) fun v9 =>
          zb1 (f_X5_setOrderCell k f8 v4 (1 : Int32) v9) fun f10 =>
          zb1 (f_X7_leastOf k p1 p2 p3) fun v11 =>
          zb1 (f_X5_setOrderCell k f10 v4 (2 : Int32) v11) fun f12 =>
          zb1 (f_X5_setOrderCell k f12 v4 (3 : Int32) (0 : Int32)) fun f13 =>
          zb1 (f_X5_setOrderCell k f13 v4 (4 : Int32) (-6 : Int32)) fun f14 =>
          zb1 (f_X5_setOrderCell k f14 v4 (5 : Int32) (-6 : Int32)) fun f15 =>
          some (v4, f15)
        else
          some ((-4 : Int32), f)
set_option maxRecDepth 100000 in
set_option maxHeartbeats 4000000 in
theorem ct_X6_takeOrder (l : Launch) (D : va_G) (ct a : Nat → Nat) (f : Nat → Int32) (sz : Nat) (p1 : Int32) (p2 : Int32) (p3 : Int32) (k : Nat) (r : Int32) (f' : Nat → Int32) (h : f_X6_takeOrder k f p1 p2 p3 = some (r, f')) : Met l yX6_takeOrder (Cond.code yX6_takeOrder cX6_takeOrder 5 (some .int) :: zT) ({ frames := 3, cells := 0, slots := 0, locals := 65 } : Room) (va_Pc [.ref (a 1), .int p1, .int p2, .int p3] (zPW D (zTys ct) (wX6 ct a f) sz)) (va_Qi (fun r' (_ : Unit) => r' = r) (zQW D (wX6 ct a f) sz (wX6 ct a f')) (va_A (wX6 ct a f) sz)) 0 0 (va_A (wX6 ct a f) sz) := by
  refine zMet (cc := cX6_takeOrder) (maxL := 5) (ret := (some .int)) (av := [.ref (a 1), .int p1, .int p2, .int p3]) (by decide) (Nat.le_of_ble_eq_true rfl) (fun p e s m below meth c ls hx hb hr hml hts hown hlocks hin hB hl => ?_)
  have hl : lv_has ls 5 [(0, .ref (a 1)), (1, .int p1), (2, .int p2), (3, .int p3)] := hl
  have hown : s.vm.findClass RX6 = some m.cls := hown
  obtain ⟨hsz, hP, hK, hD0⟩ := hB
  subst hsz
  have hD := hD0.self (sz := s.heap.size)
  obtain ⟨A, hAe⟩ : ∃ A, A = va_A (wX6 ct a f) s.heap.size := ⟨_, rfl⟩
  rw [← hAe] at hD
  have hA : ∀ q : Nat, s.heap.size ≤ q → A q := fun q h => by rw [hAe]; exact Or.inr h
  have hS : va_S A s.heap s.heap [] := va_S.rf
  rw [f_X6_takeOrder] at h
  refine lv_iload_n hx hb dX6_takeOrder_0 rfl (lv_at hl 1 rfl) ?_
  obtain ⟨v1, hc, h⟩ := zb1_s h
  refine zE_i (zrN (As := [.int p1]) (rest := []) hx hb hml hown hts (nw277 hK.2) ms_X7_isSize ⟨Nat.le_of_ble_eq_true rfl, Nat.le_of_ble_eq_true rfl⟩ rfl rfl (ct_X7_isSize l p1 k v1 hc) z_p0 hl.1 rfl rfl (Nat.le_of_ble_eq_true rfl) dX6_takeOrder_1 ⟨Nat.le_refl _, Nat.le_refl _⟩) ?_
  refine zi_eq (tgt := 21) hx hb dX6_takeOrder_4 (by decide) h (fun h => ?_) (fun h => ?_)
  · refine lv_bipush (v := (-2 : Int32)) hx hb dX6_takeOrder_21 (by decide) ?_
    cases h
    exact zX_i hx hb hr hlocks hP hD hS hAe dX6_takeOrder_23 rfl
  · refine lv_iload_n hx hb dX6_takeOrder_7 rfl (lv_at hl 2 rfl) ?_
    obtain ⟨v2, hc, h⟩ := zb1_s h
    refine zE_i (zrN (As := [.int p2]) (rest := []) hx hb hml hown hts (nw277 hK.2) ms_X7_isSize ⟨Nat.le_of_ble_eq_true rfl, Nat.le_of_ble_eq_true rfl⟩ rfl rfl (ct_X7_isSize l p2 k v2 hc) z_p0 hl.1 rfl rfl (Nat.le_of_ble_eq_true rfl) dX6_takeOrder_8 ⟨Nat.le_refl _, Nat.le_refl _⟩) ?_
    refine zi_eq (tgt := 21) hx hb dX6_takeOrder_11 (by decide) h (fun h => ?_) (fun h => ?_)
    · refine lv_bipush (v := (-2 : Int32)) hx hb dX6_takeOrder_21 (by decide) ?_
      cases h
      exact zX_i hx hb hr hlocks hP hD hS hAe dX6_takeOrder_23 rfl
    · refine lv_iload_n hx hb dX6_takeOrder_14 rfl (lv_at hl 3 rfl) ?_
      obtain ⟨v3, hc, h⟩ := zb1_s h
      refine zE_i (zrN (As := [.int p3]) (rest := []) hx hb hml hown hts (nw277 hK.2) ms_X7_isSize ⟨Nat.le_of_ble_eq_true rfl, Nat.le_of_ble_eq_true rfl⟩ rfl rfl (ct_X7_isSize l p3 k v3 hc) z_p0 hl.1 rfl rfl (Nat.le_of_ble_eq_true rfl) dX6_takeOrder_15 ⟨Nat.le_refl _, Nat.le_refl _⟩) ?_
      refine zi_ne (tgt := 24) hx hb dX6_takeOrder_18 (by decide) h (fun h => ?_) (fun h => ?_)
      · refine lv_aload_n hx hb dX6_takeOrder_24 rfl (lv_at hl 0 rfl) ?_
        refine z_get (C := RX6) (T := TX6) (N := 2) (ci := 5) hx hb hts zin_X6 hown hK.1 hP 0 0 rfl rfl (by decide) tw64 rfl rfl dX6_takeOrder_25 ?_
        refine lv_bipush (v := (7 : Int32)) hx hb dX6_takeOrder_28 (by decide) ?_
        obtain ⟨v4, hc, h⟩ := zb1_s h
        refine zE_i (zrV (C := RX5) (As := [.int (7 : Int32)]) (rest := []) hx hb hml hown hts tw280 mv_X5_cell ⟨Nat.le_of_ble_eq_true rfl, Nat.le_of_ble_eq_true rfl⟩ rfl rfl (ct_X5_cell l D ct a f (7 : Int32) k v4 hc) (z_pv hK hP [2, 3] rfl 2 rfl rfl) hl.1 rfl rfl (Nat.le_of_ble_eq_true rfl) dX6_takeOrder_30 ⟨Nat.le_refl _, Nat.le_refl _⟩) ?_
        refine lv_istore (lv' := [(4, .int v4), (0, .ref (a 1)), (1, .int p1), (2, .int p2), (3, .int p3)]) hx hb dX6_takeOrder_33 hl (by decide) rfl (fun ls hl => ?_)
        refine lv_iload hx hb dX6_takeOrder_35 (lv_at hl 0 rfl) ?_
        refine lv_bipush (v := (10 : Int32)) hx hb dX6_takeOrder_37 (by decide) ?_
        refine zc_lt (tgt := 45) hx hb dX6_takeOrder_39 (by decide) h (fun h => ?_) (fun h => ?_)
        · refine lv_aload_n hx hb dX6_takeOrder_45 rfl (lv_at hl 1 rfl) ?_
          refine z_get (C := RX6) (T := TX6) (N := 2) (ci := 5) hx hb hts zin_X6 hown hK.1 hP 0 0 rfl rfl (by decide) tw64 rfl rfl dX6_takeOrder_46 ?_
          refine lv_bipush (v := (7 : Int32)) hx hb dX6_takeOrder_49 (by decide) ?_
          refine lv_iload hx hb dX6_takeOrder_51 (lv_at hl 0 rfl) ?_
          refine lv_iconst (v := (1 : Int32)) hx hb dX6_takeOrder_53 (by decide) ?_
          refine o_iadd hx hb dX6_takeOrder_54 h (fun v5 h => ?_)
          obtain ⟨f6, hc, h⟩ := zb1_s h
          refine zG_v (w1 := wX5 ct a f6) (ws' := wX6 ct a f6) hP hD hS hA [2, 3] [0, 1] [0, 1, 2, 3] rfl rfl (by decide) (by decide) rfl (by decide) (zrV (C := RX5) (As := [.int (7 : Int32), .int v5]) (rest := []) hx hb hml hown hts tw285 mv_X5_setCell ⟨Nat.le_of_ble_eq_true rfl, Nat.le_of_ble_eq_true rfl⟩ rfl rfl (ct_X5_setCell l D ct a f _ (7 : Int32) v5 k f6 hc) (z_wv hK hP hD [2, 3] (by decide) rfl 2 rfl rfl) hl.1 rfl rfl (Nat.le_of_ble_eq_true rfl) dX6_takeOrder_55 ⟨Nat.le_refl _, Nat.le_refl _⟩) (fun H locs hP hD hS => ?_)
          refine lv_aload_n hx hb dX6_takeOrder_58 rfl (lv_at hl 1 rfl) ?_
          refine z_get (C := RX6) (T := TX6) (N := 2) (ci := 5) hx hb hts zin_X6 hown hK.1 hP 0 0 rfl rfl (by decide) tw64 rfl rfl dX6_takeOrder_59 ?_
          refine lv_iload hx hb dX6_takeOrder_62 (lv_at hl 0 rfl) ?_
          refine lv_iconst (v := (0 : Int32)) hx hb dX6_takeOrder_64 (by decide) ?_
          refine lv_iload_n hx hb dX6_takeOrder_65 rfl (lv_at hl 2 rfl) ?_
          refine lv_iload_n hx hb dX6_takeOrder_66 rfl (lv_at hl 3 rfl) ?_
          refine lv_iload_n hx hb dX6_takeOrder_67 rfl (lv_at hl 4 rfl) ?_
          obtain ⟨v7, hc, h⟩ := zb1_s h
          refine zE_i (zrN (As := [.int p1, .int p2, .int p3]) (rest := [.int (0 : Int32), .int v4, .ref (a 3)]) hx hb hml hown hts (nw344 hK.2) ms_X7_greatestOf ⟨Nat.le_of_ble_eq_true rfl, Nat.le_of_ble_eq_true rfl⟩ rfl rfl (ct_X7_greatestOf l p1 p2 p3 k v7 hc) z_p0 hl.1 rfl rfl (Nat.le_of_ble_eq_true rfl) dX6_takeOrder_68 ⟨Nat.le_refl _, Nat.le_refl _⟩) ?_
          obtain ⟨f8, hc, h⟩ := zb1_s h
          refine zG_v (w1 := wX5 ct a f8) (ws' := wX6 ct a f8) hP hD hS hA [2, 3] [0, 1] [0, 1, 2, 3] rfl rfl (by decide) (by decide) rfl (by decide) (zrV (C := RX5) (As := [.int v4, .int (0 : Int32), .int v7]) (rest := []) hx hb hml hown hts tw350 mv_X5_setOrderCell ⟨Nat.le_of_ble_eq_true rfl, Nat.le_of_ble_eq_true rfl⟩ rfl rfl (ct_X5_setOrderCell l D ct a f6 _ v4 (0 : Int32) v7 k f8 hc) (z_wv hK hP hD [2, 3] (by decide) rfl 2 rfl rfl) hl.1 rfl rfl (Nat.le_of_ble_eq_true rfl) dX6_takeOrder_71 ⟨Nat.le_refl _, Nat.le_refl _⟩) (fun H locs hP hD hS => ?_)
          refine lv_aload_n hx hb dX6_takeOrder_74 rfl (lv_at hl 1 rfl) ?_
          refine z_get (C := RX6) (T := TX6) (N := 2) (ci := 5) hx hb hts zin_X6 hown hK.1 hP 0 0 rfl rfl (by decide) tw64 rfl rfl dX6_takeOrder_75 ?_
          refine lv_iload hx hb dX6_takeOrder_78 (lv_at hl 0 rfl) ?_
          refine lv_iconst (v := (1 : Int32)) hx hb dX6_takeOrder_80 (by decide) ?_
          refine lv_iload_n hx hb dX6_takeOrder_81 rfl (lv_at hl 2 rfl) ?_
          refine lv_iload_n hx hb dX6_takeOrder_82 rfl (lv_at hl 3 rfl) ?_
          refine lv_iload_n hx hb dX6_takeOrder_83 rfl (lv_at hl 4 rfl) ?_
          obtain ⟨v9, hc, h⟩ := zb1_s h
          refine zE_i (zrN (As := [.int p1, .int p2, .int p3]) (rest := [.int (1 : Int32), .int v4, .ref (a 3)]) hx hb hml hown hts (nw354 hK.2) ms_X7_middleOf ⟨Nat.le_of_ble_eq_true rfl, Nat.le_of_ble_eq_true rfl⟩ rfl rfl (ct_X7_middleOf l p1 p2 p3 k v9 hc) z_p0 hl.1 rfl rfl (Nat.le_of_ble_eq_true rfl) dX6_takeOrder_84 ⟨Nat.le_refl _, Nat.le_refl _⟩) ?_
          obtain ⟨f10, hc, h⟩ := zb1_s h
          refine zG_v (w1 := wX5 ct a f10) (ws' := wX6 ct a f10) hP hD hS hA [2, 3] [0, 1] [0, 1, 2, 3] rfl rfl (by decide) (by decide) rfl (by decide) (zrV (C := RX5) (As := [.int v4, .int (1 : Int32), .int v9]) (rest := []) hx hb hml hown hts tw350 mv_X5_setOrderCell ⟨Nat.le_of_ble_eq_true rfl, Nat.le_of_ble_eq_true rfl⟩ rfl rfl (ct_X5_setOrderCell l D ct a f8 _ v4 (1 : Int32) v9 k f10 hc) (z_wv hK hP hD [2, 3] (by decide) rfl 2 rfl rfl) hl.1 rfl rfl (Nat.le_of_ble_eq_true rfl) dX6_takeOrder_87 ⟨Nat.le_refl _, Nat.le_refl _⟩) (fun H locs hP hD hS => ?_)
          refine lv_aload_n hx hb dX6_takeOrder_90 rfl (lv_at hl 1 rfl) ?_
          refine z_get (C := RX6) (T := TX6) (N := 2) (ci := 5) hx hb hts zin_X6 hown hK.1 hP 0 0 rfl rfl (by decide) tw64 rfl rfl dX6_takeOrder_91 ?_
          refine lv_iload hx hb dX6_takeOrder_94 (lv_at hl 0 rfl) ?_
          refine lv_iconst (v := (2 : Int32)) hx hb dX6_takeOrder_96 (by decide) ?_
          refine lv_iload_n hx hb dX6_takeOrder_97 rfl (lv_at hl 2 rfl) ?_
          refine lv_iload_n hx hb dX6_takeOrder_98 rfl (lv_at hl 3 rfl) ?_
          refine lv_iload_n hx hb dX6_takeOrder_99 rfl (lv_at hl 4 rfl) ?_
          obtain ⟨v11, hc, h⟩ := zb1_s h
          refine zE_i (zrN (As := [.int p1, .int p2, .int p3]) (rest := [.int (2 : Int32), .int v4, .ref (a 3)]) hx hb hml hown hts (nw362 hK.2) ms_X7_leastOf ⟨Nat.le_of_ble_eq_true rfl, Nat.le_of_ble_eq_true rfl⟩ rfl rfl (ct_X7_leastOf l p1 p2 p3 k v11 hc) z_p0 hl.1 rfl rfl (Nat.le_of_ble_eq_true rfl) dX6_takeOrder_100 ⟨Nat.le_refl _, Nat.le_refl _⟩) ?_
          obtain ⟨f12, hc, h⟩ := zb1_s h
          refine zG_v (w1 := wX5 ct a f12) (ws' := wX6 ct a f12) hP hD hS hA [2, 3] [0, 1] [0, 1, 2, 3] rfl rfl (by decide) (by decide) rfl (by decide) (zrV (C := RX5) (As := [.int v4, .int (2 : Int32), .int v11]) (rest := []) hx hb hml hown hts tw350 mv_X5_setOrderCell ⟨Nat.le_of_ble_eq_true rfl, Nat.le_of_ble_eq_true rfl⟩ rfl rfl (ct_X5_setOrderCell l D ct a f10 _ v4 (2 : Int32) v11 k f12 hc) (z_wv hK hP hD [2, 3] (by decide) rfl 2 rfl rfl) hl.1 rfl rfl (Nat.le_of_ble_eq_true rfl) dX6_takeOrder_103 ⟨Nat.le_refl _, Nat.le_refl _⟩) (fun H locs hP hD hS => ?_)
          refine lv_aload_n hx hb dX6_takeOrder_106 rfl (lv_at hl 1 rfl) ?_
          refine z_get (C := RX6) (T := TX6) (N := 2) (ci := 5) hx hb hts zin_X6 hown hK.1 hP 0 0 rfl rfl (by decide) tw64 rfl rfl dX6_takeOrder_107 ?_
          refine lv_iload hx hb dX6_takeOrder_110 (lv_at hl 0 rfl) ?_
          refine lv_iconst (v := (3 : Int32)) hx hb dX6_takeOrder_112 (by decide) ?_
          refine lv_iconst (v := (0 : Int32)) hx hb dX6_takeOrder_113 (by decide) ?_
          obtain ⟨f13, hc, h⟩ := zb1_s h
          refine zG_v (w1 := wX5 ct a f13) (ws' := wX6 ct a f13) hP hD hS hA [2, 3] [0, 1] [0, 1, 2, 3] rfl rfl (by decide) (by decide) rfl (by decide) (zrV (C := RX5) (As := [.int v4, .int (3 : Int32), .int (0 : Int32)]) (rest := []) hx hb hml hown hts tw350 mv_X5_setOrderCell ⟨Nat.le_of_ble_eq_true rfl, Nat.le_of_ble_eq_true rfl⟩ rfl rfl (ct_X5_setOrderCell l D ct a f12 _ v4 (3 : Int32) (0 : Int32) k f13 hc) (z_wv hK hP hD [2, 3] (by decide) rfl 2 rfl rfl) hl.1 rfl rfl (Nat.le_of_ble_eq_true rfl) dX6_takeOrder_114 ⟨Nat.le_refl _, Nat.le_refl _⟩) (fun H locs hP hD hS => ?_)
          refine lv_aload_n hx hb dX6_takeOrder_117 rfl (lv_at hl 1 rfl) ?_
          refine z_get (C := RX6) (T := TX6) (N := 2) (ci := 5) hx hb hts zin_X6 hown hK.1 hP 0 0 rfl rfl (by decide) tw64 rfl rfl dX6_takeOrder_118 ?_
          refine lv_iload hx hb dX6_takeOrder_121 (lv_at hl 0 rfl) ?_
          refine lv_iconst (v := (4 : Int32)) hx hb dX6_takeOrder_123 (by decide) ?_
          refine lv_bipush (v := (-6 : Int32)) hx hb dX6_takeOrder_124 (by decide) ?_
          obtain ⟨f14, hc, h⟩ := zb1_s h
          refine zG_v (w1 := wX5 ct a f14) (ws' := wX6 ct a f14) hP hD hS hA [2, 3] [0, 1] [0, 1, 2, 3] rfl rfl (by decide) (by decide) rfl (by decide) (zrV (C := RX5) (As := [.int v4, .int (4 : Int32), .int (-6 : Int32)]) (rest := []) hx hb hml hown hts tw350 mv_X5_setOrderCell ⟨Nat.le_of_ble_eq_true rfl, Nat.le_of_ble_eq_true rfl⟩ rfl rfl (ct_X5_setOrderCell l D ct a f13 _ v4 (4 : Int32) (-6 : Int32) k f14 hc) (z_wv hK hP hD [2, 3] (by decide) rfl 2 rfl rfl) hl.1 rfl rfl (Nat.le_of_ble_eq_true rfl) dX6_takeOrder_126 ⟨Nat.le_refl _, Nat.le_refl _⟩) (fun H locs hP hD hS => ?_)
          refine lv_aload_n hx hb dX6_takeOrder_129 rfl (lv_at hl 1 rfl) ?_
          refine z_get (C := RX6) (T := TX6) (N := 2) (ci := 5) hx hb hts zin_X6 hown hK.1 hP 0 0 rfl rfl (by decide) tw64 rfl rfl dX6_takeOrder_130 ?_
          refine lv_iload hx hb dX6_takeOrder_133 (lv_at hl 0 rfl) ?_
          refine lv_iconst (v := (5 : Int32)) hx hb dX6_takeOrder_135 (by decide) ?_
          refine lv_bipush (v := (-6 : Int32)) hx hb dX6_takeOrder_136 (by decide) ?_
          obtain ⟨f15, hc, h⟩ := zb1_s h
          refine zG_v (w1 := wX5 ct a f15) (ws' := wX6 ct a f15) hP hD hS hA [2, 3] [0, 1] [0, 1, 2, 3] rfl rfl (by decide) (by decide) rfl (by decide) (zrV (C := RX5) (As := [.int v4, .int (5 : Int32), .int (-6 : Int32)]) (rest := []) hx hb hml hown hts tw350 mv_X5_setOrderCell ⟨Nat.le_of_ble_eq_true rfl, Nat.le_of_ble_eq_true rfl⟩ rfl rfl (ct_X5_setOrderCell l D ct a f14 _ v4 (5 : Int32) (-6 : Int32) k f15 hc) (z_wv hK hP hD [2, 3] (by decide) rfl 2 rfl rfl) hl.1 rfl rfl (Nat.le_of_ble_eq_true rfl) dX6_takeOrder_138 ⟨Nat.le_refl _, Nat.le_refl _⟩) (fun H locs hP hD hS => ?_)
          refine lv_iload hx hb dX6_takeOrder_141 (lv_at hl 0 rfl) ?_
          cases h
          exact zX_i hx hb hr hlocks hP hD hS hAe dX6_takeOrder_143 rfl
        · refine lv_bipush (v := (-4 : Int32)) hx hb dX6_takeOrder_42 (by decide) ?_
          cases h
          exact zX_i hx hb hr hlocks hP hD hS hAe dX6_takeOrder_44 rfl
      · refine lv_bipush (v := (-2 : Int32)) hx hb dX6_takeOrder_21 (by decide) ?_
        cases h
        exact zX_i hx hb hr hlocks hP hD hS hAe dX6_takeOrder_23 rfl

def f_X5_hasOrder (k : Nat) (f : Nat → Int32) (p1 : Int32) : Option (Int32) :=
  if p1 < 0 then
    some (0 : Int32)
  else
    zb1 (f_X5_cell k f (7 : Int32)) fun v1 =>
    if v1 ≤ p1 then
      some (0 : Int32)
    else
      some (1 : Int32)
set_option maxRecDepth 100000 in
set_option maxHeartbeats 4000000 in
theorem ct_X5_hasOrder (l : Launch) (D : va_G) (ct a : Nat → Nat) (f : Nat → Int32) (p1 : Int32) (k : Nat) (r : Int32) (h : f_X5_hasOrder k f p1 = some r) : Met l yX5_hasOrder (Cond.code yX5_hasOrder cX5_hasOrder 2 (some .boolean) :: zT) ({ frames := 1, cells := 0, slots := 0, locals := 21 } : Room) (va_Pc [.ref (a 3), .int p1] (zPR D (zTys ct) (wX5 ct a f))) (vp_Si (fun r' => r' = r)) 0 0 (fun _ => False) := by
  refine zMet (cc := cX5_hasOrder) (maxL := 2) (ret := (some .boolean)) (av := [.ref (a 3), .int p1]) (by decide) (Nat.le_of_ble_eq_true rfl) (fun p e s m below meth c ls hx hb hr hml hts hown hlocks hin hB hl => ?_)
  have hl : lv_has ls 2 [(0, .ref (a 3)), (1, .int p1)] := hl
  have hown : s.vm.findClass RX5 = some m.cls := hown
  obtain ⟨hP, hK⟩ := hB
  rw [f_X5_hasOrder] at h
  refine lv_iload_n hx hb dX5_hasOrder_0 rfl (lv_at hl 1 rfl) ?_
  refine zi_lt (tgt := 18) hx hb dX5_hasOrder_1 (by decide) h (fun h => ?_) (fun h => ?_)
  · refine lv_iconst (v := (0 : Int32)) hx hb dX5_hasOrder_18 (by decide) ?_
    exact zR_z hx hb hr hlocks dX5_hasOrder_19 h
  · refine lv_iload_n hx hb dX5_hasOrder_4 rfl (lv_at hl 1 rfl) ?_
    refine lv_aload_n hx hb dX5_hasOrder_5 rfl (lv_at hl 0 rfl) ?_
    refine lv_bipush (v := (7 : Int32)) hx hb dX5_hasOrder_6 (by decide) ?_
    obtain ⟨v1, hc, h⟩ := zb1_s h
    refine zE_i (zrV (C := RX5) (As := [.int (7 : Int32)]) (rest := [.int p1]) hx hb hml hown hts tw164 mv_X5_cell ⟨Nat.le_of_ble_eq_true rfl, Nat.le_of_ble_eq_true rfl⟩ rfl rfl (ct_X5_cell l D ct a f (7 : Int32) k v1 hc) (z_pv hK hP [0, 1] rfl 0 rfl rfl) hl.1 rfl rfl (Nat.le_of_ble_eq_true rfl) dX5_hasOrder_8 ⟨Nat.le_refl _, Nat.le_refl _⟩) ?_
    refine zc_ge (tgt := 18) hx hb dX5_hasOrder_11 (by decide) h (fun h => ?_) (fun h => ?_)
    · refine lv_iconst (v := (0 : Int32)) hx hb dX5_hasOrder_18 (by decide) ?_
      exact zR_z hx hb hr hlocks dX5_hasOrder_19 h
    · refine lv_iconst (v := (1 : Int32)) hx hb dX5_hasOrder_14 (by decide) ?_
      refine lv_goto (tgt := 19) hx hb dX5_hasOrder_15 (by decide) ?_
      exact zR_z hx hb hr hlocks dX5_hasOrder_19 h

def f_X5_orderCell (k : Nat) (f : Nat → Int32) (p1 : Int32) (p2 : Int32) : Option (Int32) :=
  zl (p1 * (6 : Int32)) fun v1 =>
  zl ((272 : Int32) + v1) fun v2 =>
  zl (v2 + p2) fun v3 =>
  zb1 (f_X5_cell k f v3) fun v4 =>
  some v4
set_option maxRecDepth 100000 in
set_option maxHeartbeats 4000000 in
theorem ct_X5_orderCell (l : Launch) (D : va_G) (ct a : Nat → Nat) (f : Nat → Int32) (p1 : Int32) (p2 : Int32) (k : Nat) (r : Int32) (h : f_X5_orderCell k f p1 p2 = some r) : Met l yX5_orderCell (Cond.code yX5_orderCell cX5_orderCell 3 (some .int) :: zT) ({ frames := 1, cells := 0, slots := 0, locals := 21 } : Room) (va_Pc [.ref (a 3), .int p1, .int p2] (zPR D (zTys ct) (wX5 ct a f))) (vp_Si (fun r' => r' = r)) 0 0 (fun _ => False) := by
  refine zMet (cc := cX5_orderCell) (maxL := 3) (ret := (some .int)) (av := [.ref (a 3), .int p1, .int p2]) (by decide) (Nat.le_of_ble_eq_true rfl) (fun p e s m below meth c ls hx hb hr hml hts hown hlocks hin hB hl => ?_)
  have hl : lv_has ls 3 [(0, .ref (a 3)), (1, .int p1), (2, .int p2)] := hl
  have hown : s.vm.findClass RX5 = some m.cls := hown
  obtain ⟨hP, hK⟩ := hB
  rw [f_X5_orderCell] at h
  refine lv_aload_n hx hb dX5_orderCell_0 rfl (lv_at hl 0 rfl) ?_
  refine lv_sipush (v := (272 : Int32)) hx hb dX5_orderCell_1 (by decide) ?_
  refine lv_iload_n hx hb dX5_orderCell_4 rfl (lv_at hl 1 rfl) ?_
  refine lv_bipush (v := (6 : Int32)) hx hb dX5_orderCell_5 (by decide) ?_
  refine o_imul hx hb dX5_orderCell_7 h (fun v1 h => ?_)
  refine o_iadd hx hb dX5_orderCell_8 h (fun v2 h => ?_)
  refine lv_iload_n hx hb dX5_orderCell_9 rfl (lv_at hl 2 rfl) ?_
  refine o_iadd hx hb dX5_orderCell_10 h (fun v3 h => ?_)
  obtain ⟨v4, hc, h⟩ := zb1_s h
  refine zE_i (zrV (C := RX5) (As := [.int v3]) (rest := []) hx hb hml hown hts tw164 mv_X5_cell ⟨Nat.le_of_ble_eq_true rfl, Nat.le_of_ble_eq_true rfl⟩ rfl rfl (ct_X5_cell l D ct a f v3 k v4 hc) (z_pv hK hP [0, 1] rfl 0 rfl rfl) hl.1 rfl rfl (Nat.le_of_ble_eq_true rfl) dX5_orderCell_11 ⟨Nat.le_refl _, Nat.le_refl _⟩) ?_
  exact zR_i hx hb hr hlocks dX5_orderCell_14 h

def f_X1_isWithinOver (k : Nat) (f : Nat → Int32) (p1 : Int32) : Option (Int32) :=
  if p1 < 0 then
    some (0 : Int32)
  else
    zb1 (f_X5_cell k f (3 : Int32)) fun v1 =>
    if v1 < p1 then
      some (0 : Int32)
    else
      some (1 : Int32)
set_option maxRecDepth 100000 in
set_option maxHeartbeats 4000000 in
theorem ct_X1_isWithinOver (l : Launch) (D : va_G) (ct a : Nat → Nat) (f : Nat → Int32) (p1 : Int32) (k : Nat) (r : Int32) (h : f_X1_isWithinOver k f p1 = some r) : Met l yX1_isWithinOver (Cond.code yX1_isWithinOver cX1_isWithinOver 2 (some .boolean) :: zT) ({ frames := 1, cells := 0, slots := 0, locals := 21 } : Room) (va_Pc [.ref (a 2), .int p1] (zPR D (zTys ct) (wX1 ct a f))) (vp_Si (fun r' => r' = r)) 0 0 (fun _ => False) := by
  refine zMet (cc := cX1_isWithinOver) (maxL := 2) (ret := (some .boolean)) (av := [.ref (a 2), .int p1]) (by decide) (Nat.le_of_ble_eq_true rfl) (fun p e s m below meth c ls hx hb hr hml hts hown hlocks hin hB hl => ?_)
  have hl : lv_has ls 2 [(0, .ref (a 2)), (1, .int p1)] := hl
  have hown : s.vm.findClass RX1 = some m.cls := hown
  obtain ⟨hP, hK⟩ := hB
  rw [f_X1_isWithinOver] at h
  refine lv_iload_n hx hb dX1_isWithinOver_0 rfl (lv_at hl 1 rfl) ?_
  refine zi_lt (tgt := 20) hx hb dX1_isWithinOver_1 (by decide) h (fun h => ?_) (fun h => ?_)
  · refine lv_iconst (v := (0 : Int32)) hx hb dX1_isWithinOver_20 (by decide) ?_
    exact zR_z hx hb hr hlocks dX1_isWithinOver_21 h
  · refine lv_iload_n hx hb dX1_isWithinOver_4 rfl (lv_at hl 1 rfl) ?_
    refine lv_aload_n hx hb dX1_isWithinOver_5 rfl (lv_at hl 0 rfl) ?_
    refine z_get (C := RX1) (T := TX1) (N := 1) (ci := 0) hx hb hts zin_X1 hown hK.1 hP 0 0 rfl rfl (by decide) tw54 rfl rfl dX1_isWithinOver_6 ?_
    refine lv_iconst (v := (3 : Int32)) hx hb dX1_isWithinOver_9 (by decide) ?_
    obtain ⟨v1, hc, h⟩ := zb1_s h
    refine zE_i (zrV (C := RX5) (As := [.int (3 : Int32)]) (rest := [.int p1]) hx hb hml hown hts tw173 mv_X5_cell ⟨Nat.le_of_ble_eq_true rfl, Nat.le_of_ble_eq_true rfl⟩ rfl rfl (ct_X5_cell l D ct a f (3 : Int32) k v1 hc) (z_pv hK hP [1, 2] rfl 1 rfl rfl) hl.1 rfl rfl (Nat.le_of_ble_eq_true rfl) dX1_isWithinOver_10 ⟨Nat.le_refl _, Nat.le_refl _⟩) ?_
    refine zc_gt (tgt := 20) hx hb dX1_isWithinOver_13 (by decide) h (fun h => ?_) (fun h => ?_)
    · refine lv_iconst (v := (0 : Int32)) hx hb dX1_isWithinOver_20 (by decide) ?_
      exact zR_z hx hb hr hlocks dX1_isWithinOver_21 h
    · refine lv_iconst (v := (1 : Int32)) hx hb dX1_isWithinOver_16 (by decide) ?_
      refine lv_goto (tgt := 21) hx hb dX1_isWithinOver_17 (by decide) ?_
      exact zR_z hx hb hr hlocks dX1_isWithinOver_21 h

def f_X1_surplus (k : Nat) (f : Nat → Int32) (p1 : Int32) (p2 : Int32) (p3 : Int32) (p4 : Int32) : Option (Int32) :=
  zb1 (f_X7_greatestOf k p2 p3 p4) fun v1 =>
  zb1 (f_X5_orderCell k f p1 (0 : Int32)) fun v2 =>
  zl (v1 - v2) fun v3 =>
  zb1 (f_X7_middleOf k p2 p3 p4) fun v4 =>
  zb1 (f_X5_orderCell k f p1 (1 : Int32)) fun v5 =>
  zl (v4 - v5) fun v6 =>
  zb1 (f_X7_leastOf k p2 p3 p4) fun v7 =>
  zb1 (f_X5_orderCell k f p1 (2 : Int32)) fun v8 =>
  zl (v7 - v8) fun v9 =>
  zb1 (f_X1_isWithinOver k f v3) fun v10 =>
  if v10 = 0 then
    if (0 : Int32) = 0 then
      some (-6 : Int32)
    else
      zl (v3 + v6) fun v11 =>
      zl (v11 + v9) fun v12 =>
      some v12
  else
    zb1 (f_X1_isWithinOver k f v6) fun v13 =>
    if v13 = 0 then
      if (0 : Int32) = 0 then
        some (-6 : Int32)
      else
        zl (v3 + v6) fun v14 =>
        zl (v14 + v9) fun v15 =>
        some v15
    else
      zb1 (f_X1_isWithinOver k f v9) fun v16 =>
      if v16 = 0 then
        if (0 : Int32) = 0 then
          some (-6 : Int32)
        else
          zl (v3 + v6) fun v17 =>
          zl (v17 + v9) fun v18 =>
          some v18
      else
        if (1 : Int32) = 0 then
          some (-6 : Int32)
        else
          zl (v3 + v6) fun v19 =>
          zl (v19 + v9) fun v20 =>
          some v20
set_option maxRecDepth 100000 in
set_option maxHeartbeats 4000000 in
theorem ct_X1_surplus (l : Launch) (D : va_G) (ct a : Nat → Nat) (f : Nat → Int32) (p1 : Int32) (p2 : Int32) (p3 : Int32) (p4 : Int32) (k : Nat) (r : Int32) (h : f_X1_surplus k f p1 p2 p3 p4 = some r) : Met l yX1_surplus (Cond.code yX1_surplus cX1_surplus 9 (some .int) :: zT) ({ frames := 3, cells := 0, slots := 0, locals := 65 } : Room) (va_Pc [.ref (a 2), .int p1, .int p2, .int p3, .int p4] (zPR D (zTys ct) (wX1 ct a f))) (vp_Si (fun r' => r' = r)) 0 0 (fun _ => False) := by
  refine zMet (cc := cX1_surplus) (maxL := 9) (ret := (some .int)) (av := [.ref (a 2), .int p1, .int p2, .int p3, .int p4]) (by decide) (Nat.le_of_ble_eq_true rfl) (fun p e s m below meth c ls hx hb hr hml hts hown hlocks hin hB hl => ?_)
  have hl : lv_has ls 9 [(0, .ref (a 2)), (1, .int p1), (2, .int p2), (3, .int p3), (4, .int p4)] := hl
  have hown : s.vm.findClass RX1 = some m.cls := hown
  obtain ⟨hP, hK⟩ := hB
  rw [f_X1_surplus] at h
  refine lv_iload_n hx hb dX1_surplus_0 rfl (lv_at hl 2 rfl) ?_
  refine lv_iload_n hx hb dX1_surplus_1 rfl (lv_at hl 3 rfl) ?_
  refine lv_iload hx hb dX1_surplus_2 (lv_at hl 4 rfl) ?_
  obtain ⟨v1, hc, h⟩ := zb1_s h
  refine zE_i (zrN (As := [.int p2, .int p3, .int p4]) (rest := []) hx hb hml hown hts (nw389 hK.2) ms_X7_greatestOf ⟨Nat.le_of_ble_eq_true rfl, Nat.le_of_ble_eq_true rfl⟩ rfl rfl (ct_X7_greatestOf l p2 p3 p4 k v1 hc) z_p0 hl.1 rfl rfl (Nat.le_of_ble_eq_true rfl) dX1_surplus_4 ⟨Nat.le_refl _, Nat.le_refl _⟩) ?_
  refine lv_aload_n hx hb dX1_surplus_7 rfl (lv_at hl 0 rfl) ?_
  refine z_get (C := RX1) (T := TX1) (N := 1) (ci := 0) hx hb hts zin_X1 hown hK.1 hP 0 0 rfl rfl (by decide) tw54 rfl rfl dX1_surplus_8 ?_
  refine lv_iload_n hx hb dX1_surplus_11 rfl (lv_at hl 1 rfl) ?_
  refine lv_iconst (v := (0 : Int32)) hx hb dX1_surplus_12 (by decide) ?_
  obtain ⟨v2, hc, h⟩ := zb1_s h
  refine zE_i (zrV (C := RX5) (As := [.int p1, .int (0 : Int32)]) (rest := [.int v1]) hx hb hml hown hts tw200 mv_X5_orderCell ⟨Nat.le_of_ble_eq_true rfl, Nat.le_of_ble_eq_true rfl⟩ rfl rfl (ct_X5_orderCell l D ct a f p1 (0 : Int32) k v2 hc) (z_pv hK hP [1, 2] rfl 1 rfl rfl) hl.1 rfl rfl (Nat.le_of_ble_eq_true rfl) dX1_surplus_13 ⟨Nat.le_refl _, Nat.le_refl _⟩) ?_
  refine o_isub hx hb dX1_surplus_16 h (fun v3 h => ?_)
  refine lv_istore (lv' := [(5, .int v3), (0, .ref (a 2)), (1, .int p1), (2, .int p2), (3, .int p3), (4, .int p4)]) hx hb dX1_surplus_17 hl (by decide) rfl (fun ls hl => ?_)
  refine lv_iload_n hx hb dX1_surplus_19 rfl (lv_at hl 3 rfl) ?_
  refine lv_iload_n hx hb dX1_surplus_20 rfl (lv_at hl 4 rfl) ?_
  refine lv_iload hx hb dX1_surplus_21 (lv_at hl 5 rfl) ?_
  obtain ⟨v4, hc, h⟩ := zb1_s h
  refine zE_i (zrN (As := [.int p2, .int p3, .int p4]) (rest := []) hx hb hml hown hts (nw390 hK.2) ms_X7_middleOf ⟨Nat.le_of_ble_eq_true rfl, Nat.le_of_ble_eq_true rfl⟩ rfl rfl (ct_X7_middleOf l p2 p3 p4 k v4 hc) z_p0 hl.1 rfl rfl (Nat.le_of_ble_eq_true rfl) dX1_surplus_23 ⟨Nat.le_refl _, Nat.le_refl _⟩) ?_
  refine lv_aload_n hx hb dX1_surplus_26 rfl (lv_at hl 1 rfl) ?_
  refine z_get (C := RX1) (T := TX1) (N := 1) (ci := 0) hx hb hts zin_X1 hown hK.1 hP 0 0 rfl rfl (by decide) tw54 rfl rfl dX1_surplus_27 ?_
  refine lv_iload_n hx hb dX1_surplus_30 rfl (lv_at hl 2 rfl) ?_
  refine lv_iconst (v := (1 : Int32)) hx hb dX1_surplus_31 (by decide) ?_
  obtain ⟨v5, hc, h⟩ := zb1_s h
  refine zE_i (zrV (C := RX5) (As := [.int p1, .int (1 : Int32)]) (rest := [.int v4]) hx hb hml hown hts tw200 mv_X5_orderCell ⟨Nat.le_of_ble_eq_true rfl, Nat.le_of_ble_eq_true rfl⟩ rfl rfl (ct_X5_orderCell l D ct a f p1 (1 : Int32) k v5 hc) (z_pv hK hP [1, 2] rfl 1 rfl rfl) hl.1 rfl rfl (Nat.le_of_ble_eq_true rfl) dX1_surplus_32 ⟨Nat.le_refl _, Nat.le_refl _⟩) ?_
  refine o_isub hx hb dX1_surplus_35 h (fun v6 h => ?_)
  refine lv_istore (lv' := [(6, .int v6), (5, .int v3), (0, .ref (a 2)), (1, .int p1), (2, .int p2), (3, .int p3), (4, .int p4)]) hx hb dX1_surplus_36 hl (by decide) rfl (fun ls hl => ?_)
  refine lv_iload_n hx hb dX1_surplus_38 rfl (lv_at hl 4 rfl) ?_
  refine lv_iload_n hx hb dX1_surplus_39 rfl (lv_at hl 5 rfl) ?_
  refine lv_iload hx hb dX1_surplus_40 (lv_at hl 6 rfl) ?_
  obtain ⟨v7, hc, h⟩ := zb1_s h
  refine zE_i (zrN (As := [.int p2, .int p3, .int p4]) (rest := []) hx hb hml hown hts (nw391 hK.2) ms_X7_leastOf ⟨Nat.le_of_ble_eq_true rfl, Nat.le_of_ble_eq_true rfl⟩ rfl rfl (ct_X7_leastOf l p2 p3 p4 k v7 hc) z_p0 hl.1 rfl rfl (Nat.le_of_ble_eq_true rfl) dX1_surplus_42 ⟨Nat.le_refl _, Nat.le_refl _⟩) ?_
  refine lv_aload_n hx hb dX1_surplus_45 rfl (lv_at hl 2 rfl) ?_
  refine z_get (C := RX1) (T := TX1) (N := 1) (ci := 0) hx hb hts zin_X1 hown hK.1 hP 0 0 rfl rfl (by decide) tw54 rfl rfl dX1_surplus_46 ?_
  refine lv_iload_n hx hb dX1_surplus_49 rfl (lv_at hl 3 rfl) ?_
  refine lv_iconst (v := (2 : Int32)) hx hb dX1_surplus_50 (by decide) ?_
  obtain ⟨v8, hc, h⟩ := zb1_s h
  refine zE_i (zrV (C := RX5) (As := [.int p1, .int (2 : Int32)]) (rest := [.int v7]) hx hb hml hown hts tw200 mv_X5_orderCell ⟨Nat.le_of_ble_eq_true rfl, Nat.le_of_ble_eq_true rfl⟩ rfl rfl (ct_X5_orderCell l D ct a f p1 (2 : Int32) k v8 hc) (z_pv hK hP [1, 2] rfl 1 rfl rfl) hl.1 rfl rfl (Nat.le_of_ble_eq_true rfl) dX1_surplus_51 ⟨Nat.le_refl _, Nat.le_refl _⟩) ?_
  refine o_isub hx hb dX1_surplus_54 h (fun v9 h => ?_)
  refine lv_istore (lv' := [(7, .int v9), (6, .int v6), (5, .int v3), (0, .ref (a 2)), (1, .int p1), (2, .int p2), (3, .int p3), (4, .int p4)]) hx hb dX1_surplus_55 hl (by decide) rfl (fun ls hl => ?_)
  refine lv_aload_n hx hb dX1_surplus_57 rfl (lv_at hl 3 rfl) ?_
  refine lv_iload hx hb dX1_surplus_58 (lv_at hl 2 rfl) ?_
  obtain ⟨v10, hc, h⟩ := zb1_s h
  refine zE_i (zrV (C := RX1) (As := [.int v3]) (rest := []) hx hb hml hown hts tw392 mv_X1_isWithinOver ⟨Nat.le_of_ble_eq_true rfl, Nat.le_of_ble_eq_true rfl⟩ rfl rfl (ct_X1_isWithinOver l D ct a f v3 k v10 hc) (z_pv hK hP [0, 1, 2] rfl 0 rfl rfl) hl.1 rfl rfl (Nat.le_of_ble_eq_true rfl) dX1_surplus_60 ⟨Nat.le_refl _, Nat.le_refl _⟩) ?_
  refine zi_eq (tgt := 88) hx hb dX1_surplus_63 (by decide) h (fun h => ?_) (fun h => ?_)
  · refine lv_iconst (v := (0 : Int32)) hx hb dX1_surplus_88 (by decide) ?_
    refine lv_istore (lv' := [(8, .int (0 : Int32)), (7, .int v9), (6, .int v6), (5, .int v3), (0, .ref (a 2)), (1, .int p1), (2, .int p2), (3, .int p3), (4, .int p4)]) hx hb dX1_surplus_89 hl (by decide) rfl (fun ls hl => ?_)
    refine lv_iload hx hb dX1_surplus_91 (lv_at hl 0 rfl) ?_
    refine zi_eq (tgt := 107) hx hb dX1_surplus_93 (by decide) h (fun h => ?_) (fun h => ?_)
    · refine lv_bipush (v := (-6 : Int32)) hx hb dX1_surplus_107 (by decide) ?_
      exact zR_i hx hb hr hlocks dX1_surplus_109 h
    · refine lv_iload hx hb dX1_surplus_96 (lv_at hl 3 rfl) ?_
      refine lv_iload hx hb dX1_surplus_98 (lv_at hl 2 rfl) ?_
      refine o_iadd hx hb dX1_surplus_100 h (fun v11 h => ?_)
      refine lv_iload hx hb dX1_surplus_101 (lv_at hl 1 rfl) ?_
      refine o_iadd hx hb dX1_surplus_103 h (fun v12 h => ?_)
      refine lv_goto (tgt := 109) hx hb dX1_surplus_104 (by decide) ?_
      exact zR_i hx hb hr hlocks dX1_surplus_109 h
  · refine lv_aload_n hx hb dX1_surplus_66 rfl (lv_at hl 3 rfl) ?_
    refine lv_iload hx hb dX1_surplus_67 (lv_at hl 1 rfl) ?_
    obtain ⟨v13, hc, h⟩ := zb1_s h
    refine zE_i (zrV (C := RX1) (As := [.int v6]) (rest := []) hx hb hml hown hts tw392 mv_X1_isWithinOver ⟨Nat.le_of_ble_eq_true rfl, Nat.le_of_ble_eq_true rfl⟩ rfl rfl (ct_X1_isWithinOver l D ct a f v6 k v13 hc) (z_pv hK hP [0, 1, 2] rfl 0 rfl rfl) hl.1 rfl rfl (Nat.le_of_ble_eq_true rfl) dX1_surplus_69 ⟨Nat.le_refl _, Nat.le_refl _⟩) ?_
    refine zi_eq (tgt := 88) hx hb dX1_surplus_72 (by decide) h (fun h => ?_) (fun h => ?_)
    · refine lv_iconst (v := (0 : Int32)) hx hb dX1_surplus_88 (by decide) ?_
      refine lv_istore (lv' := [(8, .int (0 : Int32)), (7, .int v9), (6, .int v6), (5, .int v3), (0, .ref (a 2)), (1, .int p1), (2, .int p2), (3, .int p3), (4, .int p4)]) hx hb dX1_surplus_89 hl (by decide) rfl (fun ls hl => ?_)
      refine lv_iload hx hb dX1_surplus_91 (lv_at hl 0 rfl) ?_
      refine zi_eq (tgt := 107) hx hb dX1_surplus_93 (by decide) h (fun h => ?_) (fun h => ?_)
      · refine lv_bipush (v := (-6 : Int32)) hx hb dX1_surplus_107 (by decide) ?_
        exact zR_i hx hb hr hlocks dX1_surplus_109 h
      · refine lv_iload hx hb dX1_surplus_96 (lv_at hl 3 rfl) ?_
        refine lv_iload hx hb dX1_surplus_98 (lv_at hl 2 rfl) ?_
        refine o_iadd hx hb dX1_surplus_100 h (fun v14 h => ?_)
        refine lv_iload hx hb dX1_surplus_101 (lv_at hl 1 rfl) ?_
        refine o_iadd hx hb dX1_surplus_103 h (fun v15 h => ?_)
        refine lv_goto (tgt := 109) hx hb dX1_surplus_104 (by decide) ?_
        exact zR_i hx hb hr hlocks dX1_surplus_109 h
    · refine lv_aload_n hx hb dX1_surplus_75 rfl (lv_at hl 3 rfl) ?_
      refine lv_iload hx hb dX1_surplus_76 (lv_at hl 0 rfl) ?_
      obtain ⟨v16, hc, h⟩ := zb1_s h
      refine zE_i (zrV (C := RX1) (As := [.int v9]) (rest := []) hx hb hml hown hts tw392 mv_X1_isWithinOver ⟨Nat.le_of_ble_eq_true rfl, Nat.le_of_ble_eq_true rfl⟩ rfl rfl (ct_X1_isWithinOver l D ct a f v9 k v16 hc) (z_pv hK hP [0, 1, 2] rfl 0 rfl rfl) hl.1 rfl rfl (Nat.le_of_ble_eq_true rfl) dX1_surplus_78 ⟨Nat.le_refl _, Nat.le_refl _⟩) ?_
      refine zi_eq (tgt := 88) hx hb dX1_surplus_81 (by decide) h (fun h => ?_) (fun h => ?_)
      · refine lv_iconst (v := (0 : Int32)) hx hb dX1_surplus_88 (by decide) ?_
        refine lv_istore (lv' := [(8, .int (0 : Int32)), (7, .int v9), (6, .int v6), (5, .int v3), (0, .ref (a 2)), (1, .int p1), (2, .int p2), (3, .int p3), (4, .int p4)]) hx hb dX1_surplus_89 hl (by decide) rfl (fun ls hl => ?_)
        refine lv_iload hx hb dX1_surplus_91 (lv_at hl 0 rfl) ?_
        refine zi_eq (tgt := 107) hx hb dX1_surplus_93 (by decide) h (fun h => ?_) (fun h => ?_)
        · refine lv_bipush (v := (-6 : Int32)) hx hb dX1_surplus_107 (by decide) ?_
          exact zR_i hx hb hr hlocks dX1_surplus_109 h
        · refine lv_iload hx hb dX1_surplus_96 (lv_at hl 3 rfl) ?_
          refine lv_iload hx hb dX1_surplus_98 (lv_at hl 2 rfl) ?_
          refine o_iadd hx hb dX1_surplus_100 h (fun v17 h => ?_)
          refine lv_iload hx hb dX1_surplus_101 (lv_at hl 1 rfl) ?_
          refine o_iadd hx hb dX1_surplus_103 h (fun v18 h => ?_)
          refine lv_goto (tgt := 109) hx hb dX1_surplus_104 (by decide) ?_
          exact zR_i hx hb hr hlocks dX1_surplus_109 h
      · refine lv_iconst (v := (1 : Int32)) hx hb dX1_surplus_84 (by decide) ?_
        refine lv_goto (tgt := 89) hx hb dX1_surplus_85 (by decide) ?_
        refine lv_istore (lv' := [(8, .int (1 : Int32)), (7, .int v9), (6, .int v6), (5, .int v3), (0, .ref (a 2)), (1, .int p1), (2, .int p2), (3, .int p3), (4, .int p4)]) hx hb dX1_surplus_89 hl (by decide) rfl (fun ls hl => ?_)
        refine lv_iload hx hb dX1_surplus_91 (lv_at hl 0 rfl) ?_
        refine zi_eq (tgt := 107) hx hb dX1_surplus_93 (by decide) h (fun h => ?_) (fun h => ?_)
        · refine lv_bipush (v := (-6 : Int32)) hx hb dX1_surplus_107 (by decide) ?_
          exact zR_i hx hb hr hlocks dX1_surplus_109 h
        · refine lv_iload hx hb dX1_surplus_96 (lv_at hl 3 rfl) ?_
          refine lv_iload hx hb dX1_surplus_98 (lv_at hl 2 rfl) ?_
          refine o_iadd hx hb dX1_surplus_100 h (fun v19 h => ?_)
          refine lv_iload hx hb dX1_surplus_101 (lv_at hl 1 rfl) ?_
          refine o_iadd hx hb dX1_surplus_103 h (fun v20 h => ?_)
          refine lv_goto (tgt := 109) hx hb dX1_surplus_104 (by decide) ?_
          exact zR_i hx hb hr hlocks dX1_surplus_109 h

def f_X1_surplusToGive (k : Nat) (f : Nat → Int32) (p1 : Int32) (p2 : Int32) : Option (Int32) :=
  zb1 (f_X5_blockCell k f p2 (5 : Int32)) fun v1 =>
  zb1 (f_X5_orderCell k f p1 (3 : Int32)) fun v2 =>
  if v2 = 0 then
    if v1 = (3 : Int32) then
      some (-6 : Int32)
    else
      if v1 = (4 : Int32) then
        some (-6 : Int32)
      else
        zb1 (f_X5_blockCell k f p2 (8 : Int32)) fun v3 =>
        if v3 = (-6 : Int32) then
          zb1 (f_X5_blockCell k f p2 (7 : Int32)) fun v4 =>
          if v4 = 0 then
            zb1 (f_X5_blockCell k f p2 (0 : Int32)) fun v5 =>
            zb1 (f_X5_blockCell k f p2 (1 : Int32)) fun v6 =>
            zb1 (f_X5_blockCell k f p2 (2 : Int32)) fun v7 =>
            zb1 (f_X1_surplus k f p1 v5 v6 v7) fun v8 =>
            some v8
          else
            some (-6 : Int32)
        else
          some (-6 : Int32)
  else
    some (-6 : Int32)
set_option maxRecDepth 100000 in
set_option maxHeartbeats 4000000 in
theorem ct_X1_surplusToGive (l : Launch) (D : va_G) (ct a : Nat → Nat) (f : Nat → Int32) (p1 : Int32) (p2 : Int32) (k : Nat) (r : Int32) (h : f_X1_surplusToGive k f p1 p2 = some r) : Met l yX1_surplusToGive (Cond.code yX1_surplusToGive cX1_surplusToGive 4 (some .int) :: zT) ({ frames := 4, cells := 0, slots := 0, locals := 93 } : Room) (va_Pc [.ref (a 2), .int p1, .int p2] (zPR D (zTys ct) (wX1 ct a f))) (vp_Si (fun r' => r' = r)) 0 0 (fun _ => False) := by
  refine zMet (cc := cX1_surplusToGive) (maxL := 4) (ret := (some .int)) (av := [.ref (a 2), .int p1, .int p2]) (by decide) (Nat.le_of_ble_eq_true rfl) (fun p e s m below meth c ls hx hb hr hml hts hown hlocks hin hB hl => ?_)
  have hl : lv_has ls 4 [(0, .ref (a 2)), (1, .int p1), (2, .int p2)] := hl
  have hown : s.vm.findClass RX1 = some m.cls := hown
  obtain ⟨hP, hK⟩ := hB
  rw [f_X1_surplusToGive] at h
  refine lv_aload_n hx hb dX1_surplusToGive_0 rfl (lv_at hl 0 rfl) ?_
  refine z_get (C := RX1) (T := TX1) (N := 1) (ci := 0) hx hb hts zin_X1 hown hK.1 hP 0 0 rfl rfl (by decide) tw54 rfl rfl dX1_surplusToGive_1 ?_
  refine lv_iload_n hx hb dX1_surplusToGive_4 rfl (lv_at hl 2 rfl) ?_
  refine lv_iconst (v := (5 : Int32)) hx hb dX1_surplusToGive_5 (by decide) ?_
  obtain ⟨v1, hc, h⟩ := zb1_s h
  refine zE_i (zrV (C := RX5) (As := [.int p2, .int (5 : Int32)]) (rest := []) hx hb hml hown hts tw183 mv_X5_blockCell ⟨Nat.le_of_ble_eq_true rfl, Nat.le_of_ble_eq_true rfl⟩ rfl rfl (ct_X5_blockCell l D ct a f p2 (5 : Int32) k v1 hc) (z_pv hK hP [1, 2] rfl 1 rfl rfl) hl.1 rfl rfl (Nat.le_of_ble_eq_true rfl) dX1_surplusToGive_6 ⟨Nat.le_refl _, Nat.le_refl _⟩) ?_
  refine lv_istore_n (lv' := [(3, .int v1), (0, .ref (a 2)), (1, .int p1), (2, .int p2)]) hx hb dX1_surplusToGive_9 rfl hl (by decide) rfl (fun ls hl => ?_)
  refine lv_aload_n hx hb dX1_surplusToGive_10 rfl (lv_at hl 1 rfl) ?_
  refine z_get (C := RX1) (T := TX1) (N := 1) (ci := 0) hx hb hts zin_X1 hown hK.1 hP 0 0 rfl rfl (by decide) tw54 rfl rfl dX1_surplusToGive_11 ?_
  refine lv_iload_n hx hb dX1_surplusToGive_14 rfl (lv_at hl 2 rfl) ?_
  refine lv_iconst (v := (3 : Int32)) hx hb dX1_surplusToGive_15 (by decide) ?_
  obtain ⟨v2, hc, h⟩ := zb1_s h
  refine zE_i (zrV (C := RX5) (As := [.int p1, .int (3 : Int32)]) (rest := []) hx hb hml hown hts tw200 mv_X5_orderCell ⟨Nat.le_of_ble_eq_true rfl, Nat.le_of_ble_eq_true rfl⟩ rfl rfl (ct_X5_orderCell l D ct a f p1 (3 : Int32) k v2 hc) (z_pv hK hP [1, 2] rfl 1 rfl rfl) hl.1 rfl rfl (Nat.le_of_ble_eq_true rfl) dX1_surplusToGive_16 ⟨Nat.le_refl _, Nat.le_refl _⟩) ?_
  refine zi_ne (tgt := 32) hx hb dX1_surplusToGive_19 (by decide) h (fun h => ?_) (fun h => ?_)
  · refine lv_bipush (v := (-6 : Int32)) hx hb dX1_surplusToGive_32 (by decide) ?_
    exact zR_i hx hb hr hlocks dX1_surplusToGive_34 h
  · refine lv_iload_n hx hb dX1_surplusToGive_22 rfl (lv_at hl 0 rfl) ?_
    refine lv_iconst (v := (3 : Int32)) hx hb dX1_surplusToGive_23 (by decide) ?_
    refine zc_eq (tgt := 32) hx hb dX1_surplusToGive_24 (by decide) h (fun h => ?_) (fun h => ?_)
    · refine lv_bipush (v := (-6 : Int32)) hx hb dX1_surplusToGive_32 (by decide) ?_
      exact zR_i hx hb hr hlocks dX1_surplusToGive_34 h
    · refine lv_iload_n hx hb dX1_surplusToGive_27 rfl (lv_at hl 0 rfl) ?_
      refine lv_iconst (v := (4 : Int32)) hx hb dX1_surplusToGive_28 (by decide) ?_
      refine zc_ne (tgt := 35) hx hb dX1_surplusToGive_29 (by decide) h (fun h => ?_) (fun h => ?_)
      · refine lv_aload_n hx hb dX1_surplusToGive_35 rfl (lv_at hl 1 rfl) ?_
        refine z_get (C := RX1) (T := TX1) (N := 1) (ci := 0) hx hb hts zin_X1 hown hK.1 hP 0 0 rfl rfl (by decide) tw54 rfl rfl dX1_surplusToGive_36 ?_
        refine lv_iload_n hx hb dX1_surplusToGive_39 rfl (lv_at hl 3 rfl) ?_
        refine lv_bipush (v := (8 : Int32)) hx hb dX1_surplusToGive_40 (by decide) ?_
        obtain ⟨v3, hc, h⟩ := zb1_s h
        refine zE_i (zrV (C := RX5) (As := [.int p2, .int (8 : Int32)]) (rest := []) hx hb hml hown hts tw183 mv_X5_blockCell ⟨Nat.le_of_ble_eq_true rfl, Nat.le_of_ble_eq_true rfl⟩ rfl rfl (ct_X5_blockCell l D ct a f p2 (8 : Int32) k v3 hc) (z_pv hK hP [1, 2] rfl 1 rfl rfl) hl.1 rfl rfl (Nat.le_of_ble_eq_true rfl) dX1_surplusToGive_42 ⟨Nat.le_refl _, Nat.le_refl _⟩) ?_
        refine lv_bipush (v := (-6 : Int32)) hx hb dX1_surplusToGive_45 (by decide) ?_
        refine zc_ne (tgt := 63) hx hb dX1_surplusToGive_47 (by decide) h (fun h => ?_) (fun h => ?_)
        · refine lv_bipush (v := (-6 : Int32)) hx hb dX1_surplusToGive_63 (by decide) ?_
          exact zR_i hx hb hr hlocks dX1_surplusToGive_65 h
        · refine lv_aload_n hx hb dX1_surplusToGive_50 rfl (lv_at hl 1 rfl) ?_
          refine z_get (C := RX1) (T := TX1) (N := 1) (ci := 0) hx hb hts zin_X1 hown hK.1 hP 0 0 rfl rfl (by decide) tw54 rfl rfl dX1_surplusToGive_51 ?_
          refine lv_iload_n hx hb dX1_surplusToGive_54 rfl (lv_at hl 3 rfl) ?_
          refine lv_bipush (v := (7 : Int32)) hx hb dX1_surplusToGive_55 (by decide) ?_
          obtain ⟨v4, hc, h⟩ := zb1_s h
          refine zE_i (zrV (C := RX5) (As := [.int p2, .int (7 : Int32)]) (rest := []) hx hb hml hown hts tw183 mv_X5_blockCell ⟨Nat.le_of_ble_eq_true rfl, Nat.le_of_ble_eq_true rfl⟩ rfl rfl (ct_X5_blockCell l D ct a f p2 (7 : Int32) k v4 hc) (z_pv hK hP [1, 2] rfl 1 rfl rfl) hl.1 rfl rfl (Nat.le_of_ble_eq_true rfl) dX1_surplusToGive_57 ⟨Nat.le_refl _, Nat.le_refl _⟩) ?_
          refine zi_eq (tgt := 66) hx hb dX1_surplusToGive_60 (by decide) h (fun h => ?_) (fun h => ?_)
          · refine lv_aload_n hx hb dX1_surplusToGive_66 rfl (lv_at hl 1 rfl) ?_
            refine lv_iload_n hx hb dX1_surplusToGive_67 rfl (lv_at hl 2 rfl) ?_
            refine lv_aload_n hx hb dX1_surplusToGive_68 rfl (lv_at hl 1 rfl) ?_
            refine z_get (C := RX1) (T := TX1) (N := 1) (ci := 0) hx hb hts zin_X1 hown hK.1 hP 0 0 rfl rfl (by decide) tw54 rfl rfl dX1_surplusToGive_69 ?_
            refine lv_iload_n hx hb dX1_surplusToGive_72 rfl (lv_at hl 3 rfl) ?_
            refine lv_iconst (v := (0 : Int32)) hx hb dX1_surplusToGive_73 (by decide) ?_
            obtain ⟨v5, hc, h⟩ := zb1_s h
            refine zE_i (zrV (C := RX5) (As := [.int p2, .int (0 : Int32)]) (rest := [.int p1, .ref (a 2)]) hx hb hml hown hts tw183 mv_X5_blockCell ⟨Nat.le_of_ble_eq_true rfl, Nat.le_of_ble_eq_true rfl⟩ rfl rfl (ct_X5_blockCell l D ct a f p2 (0 : Int32) k v5 hc) (z_pv hK hP [1, 2] rfl 1 rfl rfl) hl.1 rfl rfl (Nat.le_of_ble_eq_true rfl) dX1_surplusToGive_74 ⟨Nat.le_refl _, Nat.le_refl _⟩) ?_
            refine lv_aload_n hx hb dX1_surplusToGive_77 rfl (lv_at hl 1 rfl) ?_
            refine z_get (C := RX1) (T := TX1) (N := 1) (ci := 0) hx hb hts zin_X1 hown hK.1 hP 0 0 rfl rfl (by decide) tw54 rfl rfl dX1_surplusToGive_78 ?_
            refine lv_iload_n hx hb dX1_surplusToGive_81 rfl (lv_at hl 3 rfl) ?_
            refine lv_iconst (v := (1 : Int32)) hx hb dX1_surplusToGive_82 (by decide) ?_
            obtain ⟨v6, hc, h⟩ := zb1_s h
            refine zE_i (zrV (C := RX5) (As := [.int p2, .int (1 : Int32)]) (rest := [.int v5, .int p1, .ref (a 2)]) hx hb hml hown hts tw183 mv_X5_blockCell ⟨Nat.le_of_ble_eq_true rfl, Nat.le_of_ble_eq_true rfl⟩ rfl rfl (ct_X5_blockCell l D ct a f p2 (1 : Int32) k v6 hc) (z_pv hK hP [1, 2] rfl 1 rfl rfl) hl.1 rfl rfl (Nat.le_of_ble_eq_true rfl) dX1_surplusToGive_83 ⟨Nat.le_refl _, Nat.le_refl _⟩) ?_
            refine lv_aload_n hx hb dX1_surplusToGive_86 rfl (lv_at hl 1 rfl) ?_
            refine z_get (C := RX1) (T := TX1) (N := 1) (ci := 0) hx hb hts zin_X1 hown hK.1 hP 0 0 rfl rfl (by decide) tw54 rfl rfl dX1_surplusToGive_87 ?_
            refine lv_iload_n hx hb dX1_surplusToGive_90 rfl (lv_at hl 3 rfl) ?_
            refine lv_iconst (v := (2 : Int32)) hx hb dX1_surplusToGive_91 (by decide) ?_
            obtain ⟨v7, hc, h⟩ := zb1_s h
            refine zE_i (zrV (C := RX5) (As := [.int p2, .int (2 : Int32)]) (rest := [.int v6, .int v5, .int p1, .ref (a 2)]) hx hb hml hown hts tw183 mv_X5_blockCell ⟨Nat.le_of_ble_eq_true rfl, Nat.le_of_ble_eq_true rfl⟩ rfl rfl (ct_X5_blockCell l D ct a f p2 (2 : Int32) k v7 hc) (z_pv hK hP [1, 2] rfl 1 rfl rfl) hl.1 rfl rfl (Nat.le_of_ble_eq_true rfl) dX1_surplusToGive_92 ⟨Nat.le_refl _, Nat.le_refl _⟩) ?_
            obtain ⟨v8, hc, h⟩ := zb1_s h
            refine zE_i (zrV (C := RX1) (As := [.int p1, .int v5, .int v6, .int v7]) (rest := []) hx hb hml hown hts tw385 mv_X1_surplus ⟨Nat.le_of_ble_eq_true rfl, Nat.le_of_ble_eq_true rfl⟩ rfl rfl (ct_X1_surplus l D ct a f p1 v5 v6 v7 k v8 hc) (z_pv hK hP [0, 1, 2] rfl 0 rfl rfl) hl.1 rfl rfl (Nat.le_of_ble_eq_true rfl) dX1_surplusToGive_95 ⟨Nat.le_refl _, Nat.le_refl _⟩) ?_
            exact zR_i hx hb hr hlocks dX1_surplusToGive_98 h
          · refine lv_bipush (v := (-6 : Int32)) hx hb dX1_surplusToGive_63 (by decide) ?_
            exact zR_i hx hb hr hlocks dX1_surplusToGive_65 h
      · refine lv_bipush (v := (-6 : Int32)) hx hb dX1_surplusToGive_32 (by decide) ?_
        exact zR_i hx hb hr hlocks dX1_surplusToGive_34 h

def f_X6_giveBlock (k : Nat) (f : Nat → Int32) (p1 : Int32) (p2 : Int32) : Option (Int32 × (Nat → Int32)) :=
  zb1 (f_X5_hasOrder k f p1) fun v1 =>
  if v1 = 0 then
    some ((-1 : Int32), f)
  else
    zb1 (f_X5_hasBlock k f p2) fun v2 =>
    if v2 = 0 then
      some ((-1 : Int32), f)
    else
      zb1 (f_X1_surplusToGive k f p1 p2) fun v3 =>
      if v3 = (-6 : Int32) then
        some ((-5 : Int32), f)
      else
        zb1 (f_X5_setOrderCell k f p1 (3 : Int32) (1 : Int32)) fun f4 =>
        zb1 (f_X5_setOrderCell k f4 p1 (4 : Int32) p2) fun f5 =>
        zb1 (f_X5_setBlockCell k f5 p2 (8 : Int32) p1) fun f6 =>
        some (v3, f6)
set_option maxRecDepth 100000 in
set_option maxHeartbeats 4000000 in
theorem ct_X6_giveBlock (l : Launch) (D : va_G) (ct a : Nat → Nat) (f : Nat → Int32) (sz : Nat) (p1 : Int32) (p2 : Int32) (k : Nat) (r : Int32) (f' : Nat → Int32) (h : f_X6_giveBlock k f p1 p2 = some (r, f')) : Met l yX6_giveBlock (Cond.code yX6_giveBlock cX6_giveBlock 4 (some .int) :: zT) ({ frames := 5, cells := 0, slots := 0, locals := 116 } : Room) (va_Pc [.ref (a 1), .int p1, .int p2] (zPW D (zTys ct) (wX6 ct a f) sz)) (va_Qi (fun r' (_ : Unit) => r' = r) (zQW D (wX6 ct a f) sz (wX6 ct a f')) (va_A (wX6 ct a f) sz)) 0 0 (va_A (wX6 ct a f) sz) := by
  refine zMet (cc := cX6_giveBlock) (maxL := 4) (ret := (some .int)) (av := [.ref (a 1), .int p1, .int p2]) (by decide) (Nat.le_of_ble_eq_true rfl) (fun p e s m below meth c ls hx hb hr hml hts hown hlocks hin hB hl => ?_)
  have hl : lv_has ls 4 [(0, .ref (a 1)), (1, .int p1), (2, .int p2)] := hl
  have hown : s.vm.findClass RX6 = some m.cls := hown
  obtain ⟨hsz, hP, hK, hD0⟩ := hB
  subst hsz
  have hD := hD0.self (sz := s.heap.size)
  obtain ⟨A, hAe⟩ : ∃ A, A = va_A (wX6 ct a f) s.heap.size := ⟨_, rfl⟩
  rw [← hAe] at hD
  have hA : ∀ q : Nat, s.heap.size ≤ q → A q := fun q h => by rw [hAe]; exact Or.inr h
  have hS : va_S A s.heap s.heap [] := va_S.rf
  rw [f_X6_giveBlock] at h
  refine lv_aload_n hx hb dX6_giveBlock_0 rfl (lv_at hl 0 rfl) ?_
  refine z_get (C := RX6) (T := TX6) (N := 2) (ci := 5) hx hb hts zin_X6 hown hK.1 hP 0 0 rfl rfl (by decide) tw64 rfl rfl dX6_giveBlock_1 ?_
  refine lv_iload_n hx hb dX6_giveBlock_4 rfl (lv_at hl 1 rfl) ?_
  obtain ⟨v1, hc, h⟩ := zb1_s h
  refine zE_i (zrV (C := RX5) (As := [.int p1]) (rest := []) hx hb hml hown hts tw377 mv_X5_hasOrder ⟨Nat.le_of_ble_eq_true rfl, Nat.le_of_ble_eq_true rfl⟩ rfl rfl (ct_X5_hasOrder l D ct a f p1 k v1 hc) (z_pv hK hP [2, 3] rfl 2 rfl rfl) hl.1 rfl rfl (Nat.le_of_ble_eq_true rfl) dX6_giveBlock_5 ⟨Nat.le_refl _, Nat.le_refl _⟩) ?_
  refine zi_eq (tgt := 22) hx hb dX6_giveBlock_8 (by decide) h (fun h => ?_) (fun h => ?_)
  · refine lv_iconst (v := (-1 : Int32)) hx hb dX6_giveBlock_22 (by decide) ?_
    cases h
    exact zX_i hx hb hr hlocks hP hD hS hAe dX6_giveBlock_23 rfl
  · refine lv_aload_n hx hb dX6_giveBlock_11 rfl (lv_at hl 0 rfl) ?_
    refine z_get (C := RX6) (T := TX6) (N := 2) (ci := 5) hx hb hts zin_X6 hown hK.1 hP 0 0 rfl rfl (by decide) tw64 rfl rfl dX6_giveBlock_12 ?_
    refine lv_iload_n hx hb dX6_giveBlock_15 rfl (lv_at hl 2 rfl) ?_
    obtain ⟨v2, hc, h⟩ := zb1_s h
    refine zE_i (zrV (C := RX5) (As := [.int p2]) (rest := []) hx hb hml hown hts tw305 mv_X5_hasBlock ⟨Nat.le_of_ble_eq_true rfl, Nat.le_of_ble_eq_true rfl⟩ rfl rfl (ct_X5_hasBlock l D ct a f p2 k v2 hc) (z_pv hK hP [2, 3] rfl 2 rfl rfl) hl.1 rfl rfl (Nat.le_of_ble_eq_true rfl) dX6_giveBlock_16 ⟨Nat.le_refl _, Nat.le_refl _⟩) ?_
    refine zi_ne (tgt := 24) hx hb dX6_giveBlock_19 (by decide) h (fun h => ?_) (fun h => ?_)
    · refine lv_aload_n hx hb dX6_giveBlock_24 rfl (lv_at hl 0 rfl) ?_
      refine z_get (C := RX6) (T := TX6) (N := 2) (ci := 5) hx hb hts zin_X6 hown hK.1 hP 0 1 rfl rfl (by decide) tw65 rfl rfl dX6_giveBlock_25 ?_
      refine lv_iload_n hx hb dX6_giveBlock_28 rfl (lv_at hl 1 rfl) ?_
      refine lv_iload_n hx hb dX6_giveBlock_29 rfl (lv_at hl 2 rfl) ?_
      obtain ⟨v3, hc, h⟩ := zb1_s h
      refine zE_i (zrV (C := RX1) (As := [.int p1, .int p2]) (rest := []) hx hb hml hown hts tw381 mv_X1_surplusToGive ⟨Nat.le_of_ble_eq_true rfl, Nat.le_of_ble_eq_true rfl⟩ rfl rfl (ct_X1_surplusToGive l D ct a f p1 p2 k v3 hc) (z_pv hK hP [1, 2, 3] rfl 1 rfl rfl) hl.1 rfl rfl (Nat.le_of_ble_eq_true rfl) dX6_giveBlock_30 ⟨Nat.le_refl _, Nat.le_refl _⟩) ?_
      refine lv_istore_n (lv' := [(3, .int v3), (0, .ref (a 1)), (1, .int p1), (2, .int p2)]) hx hb dX6_giveBlock_33 rfl hl (by decide) rfl (fun ls hl => ?_)
      refine lv_iload_n hx hb dX6_giveBlock_34 rfl (lv_at hl 0 rfl) ?_
      refine lv_bipush (v := (-6 : Int32)) hx hb dX6_giveBlock_35 (by decide) ?_
      refine zc_ne (tgt := 43) hx hb dX6_giveBlock_37 (by decide) h (fun h => ?_) (fun h => ?_)
      · refine lv_aload_n hx hb dX6_giveBlock_43 rfl (lv_at hl 1 rfl) ?_
        refine z_get (C := RX6) (T := TX6) (N := 2) (ci := 5) hx hb hts zin_X6 hown hK.1 hP 0 0 rfl rfl (by decide) tw64 rfl rfl dX6_giveBlock_44 ?_
        refine lv_iload_n hx hb dX6_giveBlock_47 rfl (lv_at hl 2 rfl) ?_
        refine lv_iconst (v := (3 : Int32)) hx hb dX6_giveBlock_48 (by decide) ?_
        refine lv_iconst (v := (1 : Int32)) hx hb dX6_giveBlock_49 (by decide) ?_
        obtain ⟨f4, hc, h⟩ := zb1_s h
        refine zG_v (w1 := wX5 ct a f4) (ws' := wX6 ct a f4) hP hD hS hA [2, 3] [0, 1] [0, 1, 2, 3] rfl rfl (by decide) (by decide) rfl (by decide) (zrV (C := RX5) (As := [.int p1, .int (3 : Int32), .int (1 : Int32)]) (rest := []) hx hb hml hown hts tw350 mv_X5_setOrderCell ⟨Nat.le_of_ble_eq_true rfl, Nat.le_of_ble_eq_true rfl⟩ rfl rfl (ct_X5_setOrderCell l D ct a f _ p1 (3 : Int32) (1 : Int32) k f4 hc) (z_wv hK hP hD [2, 3] (by decide) rfl 2 rfl rfl) hl.1 rfl rfl (Nat.le_of_ble_eq_true rfl) dX6_giveBlock_50 ⟨Nat.le_refl _, Nat.le_refl _⟩) (fun H locs hP hD hS => ?_)
        refine lv_aload_n hx hb dX6_giveBlock_53 rfl (lv_at hl 1 rfl) ?_
        refine z_get (C := RX6) (T := TX6) (N := 2) (ci := 5) hx hb hts zin_X6 hown hK.1 hP 0 0 rfl rfl (by decide) tw64 rfl rfl dX6_giveBlock_54 ?_
        refine lv_iload_n hx hb dX6_giveBlock_57 rfl (lv_at hl 2 rfl) ?_
        refine lv_iconst (v := (4 : Int32)) hx hb dX6_giveBlock_58 (by decide) ?_
        refine lv_iload_n hx hb dX6_giveBlock_59 rfl (lv_at hl 3 rfl) ?_
        obtain ⟨f5, hc, h⟩ := zb1_s h
        refine zG_v (w1 := wX5 ct a f5) (ws' := wX6 ct a f5) hP hD hS hA [2, 3] [0, 1] [0, 1, 2, 3] rfl rfl (by decide) (by decide) rfl (by decide) (zrV (C := RX5) (As := [.int p1, .int (4 : Int32), .int p2]) (rest := []) hx hb hml hown hts tw350 mv_X5_setOrderCell ⟨Nat.le_of_ble_eq_true rfl, Nat.le_of_ble_eq_true rfl⟩ rfl rfl (ct_X5_setOrderCell l D ct a f4 _ p1 (4 : Int32) p2 k f5 hc) (z_wv hK hP hD [2, 3] (by decide) rfl 2 rfl rfl) hl.1 rfl rfl (Nat.le_of_ble_eq_true rfl) dX6_giveBlock_60 ⟨Nat.le_refl _, Nat.le_refl _⟩) (fun H locs hP hD hS => ?_)
        refine lv_aload_n hx hb dX6_giveBlock_63 rfl (lv_at hl 1 rfl) ?_
        refine z_get (C := RX6) (T := TX6) (N := 2) (ci := 5) hx hb hts zin_X6 hown hK.1 hP 0 0 rfl rfl (by decide) tw64 rfl rfl dX6_giveBlock_64 ?_
        refine lv_iload_n hx hb dX6_giveBlock_67 rfl (lv_at hl 3 rfl) ?_
        refine lv_bipush (v := (8 : Int32)) hx hb dX6_giveBlock_68 (by decide) ?_
        refine lv_iload_n hx hb dX6_giveBlock_70 rfl (lv_at hl 2 rfl) ?_
        obtain ⟨f6, hc, h⟩ := zb1_s h
        refine zG_v (w1 := wX5 ct a f6) (ws' := wX6 ct a f6) hP hD hS hA [2, 3] [0, 1] [0, 1, 2, 3] rfl rfl (by decide) (by decide) rfl (by decide) (zrV (C := RX5) (As := [.int p2, .int (8 : Int32), .int p1]) (rest := []) hx hb hml hown hts tw286 mv_X5_setBlockCell ⟨Nat.le_of_ble_eq_true rfl, Nat.le_of_ble_eq_true rfl⟩ rfl rfl (ct_X5_setBlockCell l D ct a f5 _ p2 (8 : Int32) p1 k f6 hc) (z_wv hK hP hD [2, 3] (by decide) rfl 2 rfl rfl) hl.1 rfl rfl (Nat.le_of_ble_eq_true rfl) dX6_giveBlock_71 ⟨Nat.le_refl _, Nat.le_refl _⟩) (fun H locs hP hD hS => ?_)
        refine lv_iload_n hx hb dX6_giveBlock_74 rfl (lv_at hl 0 rfl) ?_
        cases h
        exact zX_i hx hb hr hlocks hP hD hS hAe dX6_giveBlock_75 rfl
      · refine lv_bipush (v := (-5 : Int32)) hx hb dX6_giveBlock_40 (by decide) ?_
        cases h
        exact zX_i hx hb hr hlocks hP hD hS hAe dX6_giveBlock_42 rfl
    · refine lv_iconst (v := (-1 : Int32)) hx hb dX6_giveBlock_22 (by decide) ?_
      cases h
      exact zX_i hx hb hr hlocks hP hD hS hAe dX6_giveBlock_23 rfl

