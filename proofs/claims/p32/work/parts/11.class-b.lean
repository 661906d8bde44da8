/-! written by wip/p32/gen.py: each method as a function, and its contract -/
def f_X6_takeBlockAway (k : Nat) (f : Nat → Int32) (p1 : Int32) : Option (Int32 × (Nat → Int32)) :=
  zb1 (f_X5_hasOrder k f p1) fun v1 =>
  if v1 = 0 then
    some ((-1 : Int32), f)
  else
    zb1 (f_X5_orderCell k f p1 (3 : Int32)) fun v2 =>
    if v2 = (1 : Int32) then
      zb1 (f_X5_orderCell k f p1 (4 : Int32)) fun v3 =>
      zb1 (f_X5_setOrderCell k f p1 (3 : Int32) (0 : Int32)) fun f4 =>
      zb1 (f_X5_setOrderCell k f4 p1 (4 : Int32) (-6 : Int32)) fun f5 =>
      zb1 (f_X5_setBlockCell k f5 v3 (8 : Int32) (-6 : Int32)) fun f6 =>
      some (v3, f6)
    else
      some ((-5 : Int32), f)
set_option maxRecDepth 100000 in
set_option maxHeartbeats 4000000 in
theorem ct_X6_takeBlockAway (l : Launch) (D : va_G) (ct a : Nat → Nat) (f : Nat → Int32) (sz : Nat) (p1 : Int32) (k : Nat) (r : Int32) (f' : Nat → Int32) (h : f_X6_takeBlockAway k f p1 = some (r, f')) : Met l yX6_takeBlockAway (Cond.code yX6_takeBlockAway cX6_takeBlockAway 3 (some .int) :: zT) ({ frames := 2, cells := 0, slots := 0, locals := 45 } : Room) (va_Pc [.ref (a 1), .int p1] (zPW D (zTys ct) (wX6 ct a f) sz)) (va_Qi (fun r' (_ : Unit) => r' = r) (zQW D (wX6 ct a f) sz (wX6 ct a f')) (va_A (wX6 ct a f) sz)) 0 0 (va_A (wX6 ct a f) sz) := by
  refine zMet (cc := cX6_takeBlockAway) (maxL := 3) (ret := (some .int)) (av := [.ref (a 1), .int p1]) (by decide) (Nat.le_of_ble_eq_true rfl) (fun p e s m below meth c ls hx hb hr hml hts hown hlocks hin hB hl => ?_)
  have hl : lv_has ls 3 [(0, .ref (a 1)), (1, .int p1)] := hl
  have hown : s.vm.findClass RX6 = some m.cls := hown
  obtain ⟨hsz, hP, hK, hD0⟩ := hB
  subst hsz
  have hD := hD0.self (sz := s.heap.size)
  obtain ⟨A, hAe⟩ : ∃ A, A = va_A (wX6 ct a f) s.heap.size := ⟨_, rfl⟩
  rw [← hAe] at hD
  have hA : ∀ q : Nat, s.heap.size ≤ q → A q := fun q h => by rw [hAe]; exact Or.inr h
  have hS : va_S A s.heap s.heap [] := va_S.rf
  rw [f_X6_takeBlockAway] at h
  refine lv_aload_n hx hb dX6_takeBlockAway_0 rfl (lv_at hl 0 rfl) ?_
  refine z_get (C := RX6) (T := TX6) (N := 2) (ci := 5) hx hb hts zin_X6 hown hK.1 hP 0 0 rfl rfl (by decide) tw64 rfl rfl dX6_takeBlockAway_1 ?_
  refine lv_iload_n hx hb dX6_takeBlockAway_4 rfl (lv_at hl 1 rfl) ?_
  obtain ⟨v1, hc, h⟩ := zb1_s h
  refine zE_i (zrV (C := RX5) (As := [.int p1]) (rest := []) hx hb hml hown hts tw377 mv_X5_hasOrder ⟨Nat.le_of_ble_eq_true rfl, Nat.le_of_ble_eq_true rfl⟩ rfl rfl (ct_X5_hasOrder l D ct a f p1 k v1 hc) (z_pv hK hP [2, 3] rfl 2 rfl rfl) hl.1 rfl rfl (Nat.le_of_ble_eq_true rfl) dX6_takeBlockAway_5 ⟨Nat.le_refl _, Nat.le_refl _⟩) ?_
  refine zi_ne (tgt := 13) hx hb dX6_takeBlockAway_8 (by decide) h (fun h => ?_) (fun h => ?_)
  · refine lv_aload_n hx hb dX6_takeBlockAway_13 rfl (lv_at hl 0 rfl) ?_
    refine z_get (C := RX6) (T := TX6) (N := 2) (ci := 5) hx hb hts zin_X6 hown hK.1 hP 0 0 rfl rfl (by decide) tw64 rfl rfl dX6_takeBlockAway_14 ?_
    refine lv_iload_n hx hb dX6_takeBlockAway_17 rfl (lv_at hl 1 rfl) ?_
    refine lv_iconst (v := (3 : Int32)) hx hb dX6_takeBlockAway_18 (by decide) ?_
    obtain ⟨v2, hc, h⟩ := zb1_s h
    refine zE_i (zrV (C := RX5) (As := [.int p1, .int (3 : Int32)]) (rest := []) hx hb hml hown hts tw404 mv_X5_orderCell ⟨Nat.le_of_ble_eq_true rfl, Nat.le_of_ble_eq_true rfl⟩ rfl rfl (ct_X5_orderCell l D ct a f p1 (3 : Int32) k v2 hc) (z_pv hK hP [2, 3] rfl 2 rfl rfl) hl.1 rfl rfl (Nat.le_of_ble_eq_true rfl) dX6_takeBlockAway_19 ⟨Nat.le_refl _, Nat.le_refl _⟩) ?_
    refine lv_iconst (v := (1 : Int32)) hx hb dX6_takeBlockAway_22 (by decide) ?_
    refine zc_eq (tgt := 29) hx hb dX6_takeBlockAway_23 (by decide) h (fun h => ?_) (fun h => ?_)
    · refine lv_aload_n hx hb dX6_takeBlockAway_29 rfl (lv_at hl 0 rfl) ?_
      refine z_get (C := RX6) (T := TX6) (N := 2) (ci := 5) hx hb hts zin_X6 hown hK.1 hP 0 0 rfl rfl (by decide) tw64 rfl rfl dX6_takeBlockAway_30 ?_
      refine lv_iload_n hx hb dX6_takeBlockAway_33 rfl (lv_at hl 1 rfl) ?_
      refine lv_iconst (v := (4 : Int32)) hx hb dX6_takeBlockAway_34 (by decide) ?_
      obtain ⟨v3, hc, h⟩ := zb1_s h
      refine zE_i (zrV (C := RX5) (As := [.int p1, .int (4 : Int32)]) (rest := []) hx hb hml hown hts tw404 mv_X5_orderCell ⟨Nat.le_of_ble_eq_true rfl, Nat.le_of_ble_eq_true rfl⟩ rfl rfl (ct_X5_orderCell l D ct a f p1 (4 : Int32) k v3 hc) (z_pv hK hP [2, 3] rfl 2 rfl rfl) hl.1 rfl rfl (Nat.le_of_ble_eq_true rfl) dX6_takeBlockAway_35 ⟨Nat.le_refl _, Nat.le_refl _⟩) ?_
      refine lv_istore_n (lv' := [(2, .int v3), (0, .ref (a 1)), (1, .int p1)]) hx hb dX6_takeBlockAway_38 rfl hl (by decide) rfl (fun ls hl => ?_)
      refine lv_aload_n hx hb dX6_takeBlockAway_39 rfl (lv_at hl 1 rfl) ?_
      refine z_get (C := RX6) (T := TX6) (N := 2) (ci := 5) hx hb hts zin_X6 hown hK.1 hP 0 0 rfl rfl (by decide) tw64 rfl rfl dX6_takeBlockAway_40 ?_
      refine lv_iload_n hx hb dX6_takeBlockAway_43 rfl (lv_at hl 2 rfl) ?_
      refine lv_iconst (v := (3 : Int32)) hx hb dX6_takeBlockAway_44 (by decide) ?_
      refine lv_iconst (v := (0 : Int32)) hx hb dX6_takeBlockAway_45 (by decide) ?_
      obtain ⟨f4, hc, h⟩ := zb1_s h
      refine zG_v (w1 := wX5 ct a f4) (ws' := wX6 ct a f4) hP hD hS hA [2, 3] [0, 1] [0, 1, 2, 3] rfl rfl (by decide) (by decide) rfl (by decide) (zrV (C := RX5) (As := [.int p1, .int (3 : Int32), .int (0 : Int32)]) (rest := []) hx hb hml hown hts tw350 mv_X5_setOrderCell ⟨Nat.le_of_ble_eq_true rfl, Nat.le_of_ble_eq_true rfl⟩ rfl rfl (ct_X5_setOrderCell l D ct a f _ p1 (3 : Int32) (0 : Int32) k f4 hc) (z_wv hK hP hD [2, 3] (by decide) rfl 2 rfl rfl) hl.1 rfl rfl (Nat.le_of_ble_eq_true rfl) dX6_takeBlockAway_46 ⟨Nat.le_refl _, Nat.le_refl _⟩) (fun H locs hP hD hS => ?_)
      refine lv_aload_n hx hb dX6_takeBlockAway_49 rfl (lv_at hl 1 rfl) ?_
      refine z_get (C := RX6) (T := TX6) (N := 2) (ci := 5) hx hb hts zin_X6 hown hK.1 hP 0 0 rfl rfl (by decide) tw64 rfl rfl dX6_takeBlockAway_50 ?_
      refine lv_iload_n hx hb dX6_takeBlockAway_53 rfl (lv_at hl 2 rfl) ?_
      refine lv_iconst (v := (4 : Int32)) hx hb dX6_takeBlockAway_54 (by decide) ?_
      refine lv_bipush (v := (-6 : Int32)) hx hb dX6_takeBlockAway_55 (by decide) ?_
      obtain ⟨f5, hc, h⟩ := zb1_s h
      refine zG_v (w1 := wX5 ct a f5) (ws' := wX6 ct a f5) hP hD hS hA [2, 3] [0, 1] [0, 1, 2, 3] rfl rfl (by decide) (by decide) rfl (by decide) (zrV (C := RX5) (As := [.int p1, .int (4 : Int32), .int (-6 : Int32)]) (rest := []) hx hb hml hown hts tw350 mv_X5_setOrderCell ⟨Nat.le_of_ble_eq_true rfl, Nat.le_of_ble_eq_true rfl⟩ rfl rfl (ct_X5_setOrderCell l D ct a f4 _ p1 (4 : Int32) (-6 : Int32) k f5 hc) (z_wv hK hP hD [2, 3] (by decide) rfl 2 rfl rfl) hl.1 rfl rfl (Nat.le_of_ble_eq_true rfl) dX6_takeBlockAway_57 ⟨Nat.le_refl _, Nat.le_refl _⟩) (fun H locs hP hD hS => ?_)
      refine lv_aload_n hx hb dX6_takeBlockAway_60 rfl (lv_at hl 1 rfl) ?_
      refine z_get (C := RX6) (T := TX6) (N := 2) (ci := 5) hx hb hts zin_X6 hown hK.1 hP 0 0 rfl rfl (by decide) tw64 rfl rfl dX6_takeBlockAway_61 ?_
      refine lv_iload_n hx hb dX6_takeBlockAway_64 rfl (lv_at hl 0 rfl) ?_
      refine lv_bipush (v := (8 : Int32)) hx hb dX6_takeBlockAway_65 (by decide) ?_
      refine lv_bipush (v := (-6 : Int32)) hx hb dX6_takeBlockAway_67 (by decide) ?_
      obtain ⟨f6, hc, h⟩ := zb1_s h
      refine zG_v (w1 := wX5 ct a f6) (ws' := wX6 ct a f6) hP hD hS hA [2, 3] [0, 1] [0, 1, 2, 3] rfl rfl (by decide) (by decide) rfl (by decide) (zrV (C := RX5) (As := [.int v3, .int (8 : Int32), .int (-6 : Int32)]) (rest := []) hx hb hml hown hts tw286 mv_X5_setBlockCell ⟨Nat.le_of_ble_eq_true rfl, Nat.le_of_ble_eq_true rfl⟩ rfl rfl (ct_X5_setBlockCell l D ct a f5 _ v3 (8 : Int32) (-6 : Int32) k f6 hc) (z_wv hK hP hD [2, 3] (by decide) rfl 2 rfl rfl) hl.1 rfl rfl (Nat.le_of_ble_eq_true rfl) dX6_takeBlockAway_69 ⟨Nat.le_refl _, Nat.le_refl _⟩) (fun H locs hP hD hS => ?_)
      refine lv_iload_n hx hb dX6_takeBlockAway_72 rfl (lv_at hl 0 rfl) ?_
      cases h
      exact zX_i hx hb hr hlocks hP hD hS hAe dX6_takeBlockAway_73 rfl
    · refine lv_bipush (v := (-5 : Int32)) hx hb dX6_takeBlockAway_26 (by decide) ?_
      cases h
      exact zX_i hx hb hr hlocks hP hD hS hAe dX6_takeBlockAway_28 rfl
  · refine lv_iconst (v := (-1 : Int32)) hx hb dX6_takeBlockAway_11 (by decide) ?_
    cases h
    exact zX_i hx hb hr hlocks hP hD hS hAe dX6_takeBlockAway_12 rfl

def f_X7_isLorry (k : Nat) (p1 : Int32) : Option (Int32) :=
  if p1 < 0 then
    some (0 : Int32)
  else
    if (3 : Int32) ≤ p1 then
      some (0 : Int32)
    else
      some (1 : Int32)
set_option maxRecDepth 100000 in
set_option maxHeartbeats 4000000 in
theorem ct_X7_isLorry (l : Launch) (p1 : Int32) (k : Nat) (r : Int32) (h : f_X7_isLorry k p1 = some r) : Met l yX7_isLorry (Cond.code yX7_isLorry cX7_isLorry 1 (some .boolean) :: zT) ({ frames := 0, cells := 0, slots := 0, locals := 0 } : Room) (va_Pc [.int p1] (fun _ => True)) (vp_Si (fun r' => r' = r)) 0 0 (fun _ => False) := by
  refine zMet (cc := cX7_isLorry) (maxL := 1) (ret := (some .boolean)) (av := [.int p1]) (by decide) (Nat.le_of_ble_eq_true rfl) (fun p e s m below meth c ls hx hb hr hml hts hown hlocks hin hB hl => ?_)
  have hl : lv_has ls 1 [(0, .int p1)] := hl
  have hown : s.vm.findClass RX7 = some m.cls := hown
  rw [f_X7_isLorry] at h
  refine lv_iload_n hx hb dX7_isLorry_0 rfl (lv_at hl 0 rfl) ?_
  refine zi_lt (tgt := 13) hx hb dX7_isLorry_1 (by decide) h (fun h => ?_) (fun h => ?_)
  · refine lv_iconst (v := (0 : Int32)) hx hb dX7_isLorry_13 (by decide) ?_
    exact zR_z hx hb hr hlocks dX7_isLorry_14 h
  · refine lv_iload_n hx hb dX7_isLorry_4 rfl (lv_at hl 0 rfl) ?_
    refine lv_iconst (v := (3 : Int32)) hx hb dX7_isLorry_5 (by decide) ?_
    refine zc_ge (tgt := 13) hx hb dX7_isLorry_6 (by decide) h (fun h => ?_) (fun h => ?_)
    · refine lv_iconst (v := (0 : Int32)) hx hb dX7_isLorry_13 (by decide) ?_
      exact zR_z hx hb hr hlocks dX7_isLorry_14 h
    · refine lv_iconst (v := (1 : Int32)) hx hb dX7_isLorry_9 (by decide) ?_
      refine lv_goto (tgt := 14) hx hb dX7_isLorry_10 (by decide) ?_
      exact zR_z hx hb hr hlocks dX7_isLorry_14 h

def f_X6_isLimit (k : Nat) (p1 : Int32) : Option (Int32) :=
  if p1 < (100 : Int32) then
    some (0 : Int32)
  else
    if (30000 : Int32) < p1 then
      some (0 : Int32)
    else
      some (1 : Int32)
set_option maxRecDepth 100000 in
set_option maxHeartbeats 4000000 in
theorem ct_X6_isLimit (l : Launch) (p1 : Int32) (k : Nat) (r : Int32) (h : f_X6_isLimit k p1 = some r) : Met l yX6_isLimit (Cond.code yX6_isLimit cX6_isLimit 1 (some .boolean) :: zT) ({ frames := 0, cells := 0, slots := 0, locals := 0 } : Room) (va_Pc [.int p1] (fun _ => True)) (vp_Si (fun r' => r' = r)) 0 0 (fun _ => False) := by
  refine zMet (cc := cX6_isLimit) (maxL := 1) (ret := (some .boolean)) (av := [.int p1]) (by decide) (Nat.le_of_ble_eq_true rfl) (fun p e s m below meth c ls hx hb hr hml hts hown hlocks hin hB hl => ?_)
  have hl : lv_has ls 1 [(0, .int p1)] := hl
  have hown : s.vm.findClass RX6 = some m.cls := hown
  rw [f_X6_isLimit] at h
  refine lv_iload_n hx hb dX6_isLimit_0 rfl (lv_at hl 0 rfl) ?_
  refine lv_bipush (v := (100 : Int32)) hx hb dX6_isLimit_1 (by decide) ?_
  refine zc_lt (tgt := 17) hx hb dX6_isLimit_3 (by decide) h (fun h => ?_) (fun h => ?_)
  · refine lv_iconst (v := (0 : Int32)) hx hb dX6_isLimit_17 (by decide) ?_
    exact zR_z hx hb hr hlocks dX6_isLimit_18 h
  · refine lv_iload_n hx hb dX6_isLimit_6 rfl (lv_at hl 0 rfl) ?_
    refine lv_sipush (v := (30000 : Int32)) hx hb dX6_isLimit_7 (by decide) ?_
    refine zc_gt (tgt := 17) hx hb dX6_isLimit_10 (by decide) h (fun h => ?_) (fun h => ?_)
    · refine lv_iconst (v := (0 : Int32)) hx hb dX6_isLimit_17 (by decide) ?_
      exact zR_z hx hb hr hlocks dX6_isLimit_18 h
    · refine lv_iconst (v := (1 : Int32)) hx hb dX6_isLimit_13 (by decide) ?_
      refine lv_goto (tgt := 18) hx hb dX6_isLimit_14 (by decide) ?_
      exact zR_z hx hb hr hlocks dX6_isLimit_18 h

def f_X6_changeLimits (k : Nat) (f : Nat → Int32) (p1 : Int32) (p2 : Int32) (p3 : Int32) (p4 : Int32) : Option (Int32 × (Nat → Int32)) :=
  zb1 (f_X7_isLorry k p1) fun v1 =>
  if v1 = 0 then
    some ((-1 : Int32), f)
  else
    zb1 (f_X6_isLimit k p2) fun v2 =>
    if v2 = 0 then
      some ((-2 : Int32), f)
    else
      zb1 (f_X6_isLimit k p3) fun v3 =>
      if v3 = 0 then
        some ((-2 : Int32), f)
      else
        zb1 (f_X6_isLimit k p4) fun v4 =>
        if v4 = 0 then
          some ((-2 : Int32), f)
        else
          zb1 (f_X5_setLorryCell k f p1 (0 : Int32) p2) fun f5 =>
          zb1 (f_X5_setLorryCell k f5 p1 (1 : Int32) p3) fun f6 =>
          zb1 (f_X5_setLorryCell k f6 p1 (2 : Int32) p4) fun f7 =>
          some ((1 : Int32), f7)
set_option maxRecDepth 100000 in
set_option maxHeartbeats 4000000 in
theorem ct_X6_changeLimits (l : Launch) (D : va_G) (ct a : Nat → Nat) (f : Nat → Int32) (sz : Nat) (p1 : Int32) (p2 : Int32) (p3 : Int32) (p4 : Int32) (k : Nat) (r : Int32) (f' : Nat → Int32) (h : f_X6_changeLimits k f p1 p2 p3 p4 = some (r, f')) : Met l yX6_changeLimits (Cond.code yX6_changeLimits cX6_changeLimits 5 (some .int) :: zT) ({ frames := 2, cells := 0, slots := 0, locals := 45 } : Room) (va_Pc [.ref (a 1), .int p1, .int p2, .int p3, .int p4] (zPW D (zTys ct) (wX6 ct a f) sz)) (va_Qi (fun r' (_ : Unit) => r' = r) (zQW D (wX6 ct a f) sz (wX6 ct a f')) (va_A (wX6 ct a f) sz)) 0 0 (va_A (wX6 ct a f) sz) := by
  refine zMet (cc := cX6_changeLimits) (maxL := 5) (ret := (some .int)) (av := [.ref (a 1), .int p1, .int p2, .int p3, .int p4]) (by decide) (Nat.le_of_ble_eq_true rfl) (fun p e s m below meth c ls hx hb hr hml hts hown hlocks hin hB hl => ?_)
  have hl : lv_has ls 5 [(0, .ref (a 1)), (1, .int p1), (2, .int p2), (3, .int p3), (4, .int p4)] := hl
  have hown : s.vm.findClass RX6 = some m.cls := hown
  obtain ⟨hsz, hP, hK, hD0⟩ := hB
  subst hsz
  have hD := hD0.self (sz := s.heap.size)
  obtain ⟨A, hAe⟩ : ∃ A, A = va_A (wX6 ct a f) s.heap.size := ⟨_, rfl⟩
  rw [← hAe] at hD
  have hA : ∀ q : Nat, s.heap.size ≤ q → A q := fun q h => by rw [hAe]; exact Or.inr h
  have hS : va_S A s.heap s.heap [] := va_S.rf
  rw [f_X6_changeLimits] at h
  refine lv_iload_n hx hb dX6_changeLimits_0 rfl (lv_at hl 1 rfl) ?_
  obtain ⟨v1, hc, h⟩ := zb1_s h
  refine zE_i (zrN (As := [.int p1]) (rest := []) hx hb hml hown hts (nw413 hK.2) ms_X7_isLorry ⟨Nat.le_of_ble_eq_true rfl, Nat.le_of_ble_eq_true rfl⟩ rfl rfl (ct_X7_isLorry l p1 k v1 hc) z_p0 hl.1 rfl rfl (Nat.le_of_ble_eq_true rfl) dX6_changeLimits_1 ⟨Nat.le_refl _, Nat.le_refl _⟩) ?_
  refine zi_ne (tgt := 9) hx hb dX6_changeLimits_4 (by decide) h (fun h => ?_) (fun h => ?_)
  · refine lv_iload_n hx hb dX6_changeLimits_9 rfl (lv_at hl 2 rfl) ?_
    obtain ⟨v2, hc, h⟩ := zb1_s h
    refine zE_i (zrS (As := [.int p2]) (rest := []) hx hb hml hown hts tw416 ms_X6_isLimit ⟨Nat.le_of_ble_eq_true rfl, Nat.le_of_ble_eq_true rfl⟩ rfl rfl (ct_X6_isLimit l p2 k v2 hc) z_p0 hl.1 rfl rfl (Nat.le_of_ble_eq_true rfl) dX6_changeLimits_10 ⟨Nat.le_refl _, Nat.le_refl _⟩) ?_
    refine zi_eq (tgt := 31) hx hb dX6_changeLimits_13 (by decide) h (fun h => ?_) (fun h => ?_)
    · refine lv_bipush (v := (-2 : Int32)) hx hb dX6_changeLimits_31 (by decide) ?_
      cases h
      exact zX_i hx hb hr hlocks hP hD hS hAe dX6_changeLimits_33 rfl
    · refine lv_iload_n hx hb dX6_changeLimits_16 rfl (lv_at hl 3 rfl) ?_
      obtain ⟨v3, hc, h⟩ := zb1_s h
      refine zE_i (zrS (As := [.int p3]) (rest := []) hx hb hml hown hts tw416 ms_X6_isLimit ⟨Nat.le_of_ble_eq_true rfl, Nat.le_of_ble_eq_true rfl⟩ rfl rfl (ct_X6_isLimit l p3 k v3 hc) z_p0 hl.1 rfl rfl (Nat.le_of_ble_eq_true rfl) dX6_changeLimits_17 ⟨Nat.le_refl _, Nat.le_refl _⟩) ?_
      refine zi_eq (tgt := 31) hx hb dX6_changeLimits_20 (by decide) h (fun h => ?_) (fun h => ?_)
      · refine lv_bipush (v := (-2 : Int32)) hx hb dX6_changeLimits_31 (by decide) ?_
        cases h
        exact zX_i hx hb hr hlocks hP hD hS hAe dX6_changeLimits_33 rfl
      · refine lv_iload hx hb dX6_changeLimits_23 (lv_at hl 4 rfl) ?_
        obtain ⟨v4, hc, h⟩ := zb1_s h
        refine zE_i (zrS (As := [.int p4]) (rest := []) hx hb hml hown hts tw416 ms_X6_isLimit ⟨Nat.le_of_ble_eq_true rfl, Nat.le_of_ble_eq_true rfl⟩ rfl rfl (ct_X6_isLimit l p4 k v4 hc) z_p0 hl.1 rfl rfl (Nat.le_of_ble_eq_true rfl) dX6_changeLimits_25 ⟨Nat.le_refl _, Nat.le_refl _⟩) ?_
        refine zi_ne (tgt := 34) hx hb dX6_changeLimits_28 (by decide) h (fun h => ?_) (fun h => ?_)
        · refine lv_aload_n hx hb dX6_changeLimits_34 rfl (lv_at hl 0 rfl) ?_
          refine z_get (C := RX6) (T := TX6) (N := 2) (ci := 5) hx hb hts zin_X6 hown hK.1 hP 0 0 rfl rfl (by decide) tw64 rfl rfl dX6_changeLimits_35 ?_
          refine lv_iload_n hx hb dX6_changeLimits_38 rfl (lv_at hl 1 rfl) ?_
          refine lv_iconst (v := (0 : Int32)) hx hb dX6_changeLimits_39 (by decide) ?_
          refine lv_iload_n hx hb dX6_changeLimits_40 rfl (lv_at hl 2 rfl) ?_
          obtain ⟨f5, hc, h⟩ := zb1_s h
          refine zG_v (w1 := wX5 ct a f5) (ws' := wX6 ct a f5) hP hD hS hA [2, 3] [0, 1] [0, 1, 2, 3] rfl rfl (by decide) (by decide) rfl (by decide) (zrV (C := RX5) (As := [.int p1, .int (0 : Int32), .int p2]) (rest := []) hx hb hml hown hts tw419 mv_X5_setLorryCell ⟨Nat.le_of_ble_eq_true rfl, Nat.le_of_ble_eq_true rfl⟩ rfl rfl (ct_X5_setLorryCell l D ct a f _ p1 (0 : Int32) p2 k f5 hc) (z_wv hK hP hD [2, 3] (by decide) rfl 2 rfl rfl) hl.1 rfl rfl (Nat.le_of_ble_eq_true rfl) dX6_changeLimits_41 ⟨Nat.le_refl _, Nat.le_refl _⟩) (fun H locs hP hD hS => ?_)
          refine lv_aload_n hx hb dX6_changeLimits_44 rfl (lv_at hl 0 rfl) ?_
          refine z_get (C := RX6) (T := TX6) (N := 2) (ci := 5) hx hb hts zin_X6 hown hK.1 hP 0 0 rfl rfl (by decide) tw64 rfl rfl dX6_changeLimits_45 ?_
          refine lv_iload_n hx hb dX6_changeLimits_48 rfl (lv_at hl 1 rfl) ?_
          refine lv_iconst (v := (1 : Int32)) hx hb dX6_changeLimits_49 (by decide) ?_
          refine lv_iload_n hx hb dX6_changeLimits_50 rfl (lv_at hl 3 rfl) ?_
          obtain ⟨f6, hc, h⟩ := zb1_s h
          refine zG_v (w1 := wX5 ct a f6) (ws' := wX6 ct a f6) hP hD hS hA [2, 3] [0, 1] [0, 1, 2, 3] rfl rfl (by decide) (by decide) rfl (by decide) (zrV (C := RX5) (As := [.int p1, .int (1 : Int32), .int p3]) (rest := []) hx hb hml hown hts tw419 mv_X5_setLorryCell ⟨Nat.le_of_ble_eq_true rfl, Nat.le_of_ble_eq_true rfl⟩ rfl rfl (ct_X5_setLorryCell l D ct a f5 _ p1 (1 : Int32) p3 k f6 hc) (z_wv hK hP hD [2, 3] (by decide) rfl 2 rfl rfl) hl.1 rfl rfl (Nat.le_of_ble_eq_true rfl) dX6_changeLimits_51 ⟨Nat.le_refl _, Nat.le_refl _⟩) (fun H locs hP hD hS => ?_)
          refine lv_aload_n hx hb dX6_changeLimits_54 rfl (lv_at hl 0 rfl) ?_
          refine z_get (C := RX6) (T := TX6) (N := 2) (ci := 5) hx hb hts zin_X6 hown hK.1 hP 0 0 rfl rfl (by decide) tw64 rfl rfl dX6_changeLimits_55 ?_
          refine lv_iload_n hx hb dX6_changeLimits_58 rfl (lv_at hl 1 rfl) ?_
          refine lv_iconst (v := (2 : Int32)) hx hb dX6_changeLimits_59 (by decide) ?_
          refine lv_iload hx hb dX6_changeLimits_60 (lv_at hl 4 rfl) ?_
          obtain ⟨f7, hc, h⟩ := zb1_s h
          refine zG_v (w1 := wX5 ct a f7) (ws' := wX6 ct a f7) hP hD hS hA [2, 3] [0, 1] [0, 1, 2, 3] rfl rfl (by decide) (by decide) rfl (by decide) (zrV (C := RX5) (As := [.int p1, .int (2 : Int32), .int p4]) (rest := []) hx hb hml hown hts tw419 mv_X5_setLorryCell ⟨Nat.le_of_ble_eq_true rfl, Nat.le_of_ble_eq_true rfl⟩ rfl rfl (ct_X5_setLorryCell l D ct a f6 _ p1 (2 : Int32) p4 k f7 hc) (z_wv hK hP hD [2, 3] (by decide) rfl 2 rfl rfl) hl.1 rfl rfl (Nat.le_of_ble_eq_true rfl) dX6_changeLimits_62 ⟨Nat.le_refl _, Nat.le_refl _⟩) (fun H locs hP hD hS => ?_)
          refine lv_iconst (v := (1 : Int32)) hx hb dX6_changeLimits_65 (by decide) ?_
          cases h
          exact zX_i hx hb hr hlocks hP hD hS hAe dX6_changeLimits_66 rfl
        · refine lv_bipush (v := (-2 : Int32)) hx hb dX6_changeLimits_31 (by decide) ?_
          cases h
          exact zX_i hx hb hr hlocks hP hD hS hAe dX6_changeLimits_33 rfl
  · refine lv_iconst (v := (-1 : Int32)) hx hb dX6_changeLimits_7 (by decide) ?_
    cases h
    exact zX_i hx hb hr hlocks hP hD hS hAe dX6_changeLimits_8 rfl

def f_X1_isFree (k : Nat) (f : Nat → Int32) (p1 : Int32) (p2 : Int32) : Option (Int32) :=
  zl ((5 : Int32) * p1) fun v1 =>
  zl (v1 + p2) fun v2 =>
  zb1 (f_X5_blocksWith k f (9 : Int32) v2) fun v3 =>
  if v3 = 0 then
    some (1 : Int32)
  else
    some (0 : Int32)
set_option maxRecDepth 100000 in
set_option maxHeartbeats 4000000 in
theorem ct_X1_isFree (l : Launch) (D : va_G) (ct a : Nat → Nat) (f : Nat → Int32) (p1 : Int32) (p2 : Int32) (k : Nat) (r : Int32) (h : f_X1_isFree k f p1 p2 = some r) : Met l yX1_isFree (Cond.code yX1_isFree cX1_isFree 3 (some .boolean) :: zT) ({ frames := 2, cells := 0, slots := 0, locals := 48 } : Room) (va_Pc [.ref (a 2), .int p1, .int p2] (zPR D (zTys ct) (wX1 ct a f))) (vp_Si (fun r' => r' = r)) 0 0 (fun _ => False) := by
  refine zMet (cc := cX1_isFree) (maxL := 3) (ret := (some .boolean)) (av := [.ref (a 2), .int p1, .int p2]) (by decide) (Nat.le_of_ble_eq_true rfl) (fun p e s m below meth c ls hx hb hr hml hts hown hlocks hin hB hl => ?_)
  have hl : lv_has ls 3 [(0, .ref (a 2)), (1, .int p1), (2, .int p2)] := hl
  have hown : s.vm.findClass RX1 = some m.cls := hown
  obtain ⟨hP, hK⟩ := hB
  rw [f_X1_isFree] at h
  refine lv_aload_n hx hb dX1_isFree_0 rfl (lv_at hl 0 rfl) ?_
  refine z_get (C := RX1) (T := TX1) (N := 1) (ci := 0) hx hb hts zin_X1 hown hK.1 hP 0 0 rfl rfl (by decide) tw54 rfl rfl dX1_isFree_1 ?_
  refine lv_bipush (v := (9 : Int32)) hx hb dX1_isFree_4 (by decide) ?_
  refine lv_iconst (v := (5 : Int32)) hx hb dX1_isFree_6 (by decide) ?_
  refine lv_iload_n hx hb dX1_isFree_7 rfl (lv_at hl 1 rfl) ?_
  refine o_imul hx hb dX1_isFree_8 h (fun v1 h => ?_)
  refine lv_iload_n hx hb dX1_isFree_9 rfl (lv_at hl 2 rfl) ?_
  refine o_iadd hx hb dX1_isFree_10 h (fun v2 h => ?_)
  obtain ⟨v3, hc, h⟩ := zb1_s h
  refine zE_i (zrV (C := RX5) (As := [.int (9 : Int32), .int v2]) (rest := []) hx hb hml hown hts tw174 mv_X5_blocksWith ⟨Nat.le_of_ble_eq_true rfl, Nat.le_of_ble_eq_true rfl⟩ rfl rfl (ct_X5_blocksWith l D ct a f (9 : Int32) v2 k v3 hc) (z_pv hK hP [1, 2] rfl 1 rfl rfl) hl.1 rfl rfl (Nat.le_of_ble_eq_true rfl) dX1_isFree_11 ⟨Nat.le_refl _, Nat.le_refl _⟩) ?_
  refine zi_ne (tgt := 21) hx hb dX1_isFree_14 (by decide) h (fun h => ?_) (fun h => ?_)
  · refine lv_iconst (v := (0 : Int32)) hx hb dX1_isFree_21 (by decide) ?_
    exact zR_z hx hb hr hlocks dX1_isFree_22 h
  · refine lv_iconst (v := (1 : Int32)) hx hb dX1_isFree_17 (by decide) ?_
    refine lv_goto (tgt := 22) hx hb dX1_isFree_18 (by decide) ?_
    exact zR_z hx hb hr hlocks dX1_isFree_22 h

def f_X1_blocksOn_b4 (k : Nat) (f : Nat → Int32) (p1 : Int32)  : Nat → Int32 → Int32 → Option (Int32)
  | 0, _, _ => none
  | n + 1, x2, x3 =>
    if (5 : Int32) ≤ x3 then
      some x2
    else
      zl ((5 : Int32) * p1) fun v1 =>
      zl (v1 + x3) fun v2 =>
      zb1 (f_X5_blocksWith k f (9 : Int32) v2) fun v3 =>
      zl (x2 ||| v3) fun v4 =>
      zl (x3 + (1 : Int32)) fun v5 =>
      f_X1_blocksOn_b4 k f p1 n v4 v5
def f_X1_blocksOn (k : Nat) (f : Nat → Int32) (p1 : Int32) : Option (Int32) :=
  f_X1_blocksOn_b4 k f p1 k (0 : Int32) (0 : Int32)
set_option maxRecDepth 100000 in
set_option maxHeartbeats 4000000 in
theorem ct_X1_blocksOn (l : Launch) (D : va_G) (ct a : Nat → Nat) (f : Nat → Int32) (p1 : Int32) (k : Nat) (r : Int32) (h : f_X1_blocksOn k f p1 = some r) : Met l yX1_blocksOn (Cond.code yX1_blocksOn cX1_blocksOn 4 (some .int) :: zT) ({ frames := 2, cells := 0, slots := 0, locals := 48 } : Room) (va_Pc [.ref (a 2), .int p1] (zPR D (zTys ct) (wX1 ct a f))) (vp_Si (fun r' => r' = r)) 0 0 (fun _ => False) := by
  refine zMet (cc := cX1_blocksOn) (maxL := 4) (ret := (some .int)) (av := [.ref (a 2), .int p1]) (by decide) (Nat.le_of_ble_eq_true rfl) (fun p e s m below meth c ls hx hb hr hml hts hown hlocks hin hB hl => ?_)
  have hl : lv_has ls 4 [(0, .ref (a 2)), (1, .int p1)] := hl
  have hown : s.vm.findClass RX1 = some m.cls := hown
  obtain ⟨hP, hK⟩ := hB
  have B4 : ∀ (n : Nat), ∀ (x2 : Int32) (x3 : Int32), f_X1_blocksOn_b4 k f p1 n x2 x3 = some r → ∀ (ls : Array Slot), lv_has ls 4 [(0, .ref (a 2)), (1, .int p1), (2, .int x2), (3, .int x3)] → W p l e ({ frames := 2, cells := 0, slots := 0, locals := 48 } : Room) s m ([.ref (a 2), .int p1] : List Value).toArray below meth c s.heap [] 0 0 (MQ below (vp_Si (fun r' => r' = r)) ([.ref (a 2), .int p1] : List Value).toArray s 0 0 (fun _ => False)) (F0 m 4 ls []) := by
    intro n
    induction n with
    | zero => intro x2 x3 h; exact absurd h (by rw [f_X1_blocksOn_b4]; exact fun q => nomatch q)
    | succ n ih4 =>
      intro x2 x3 h ls hl
      rw [f_X1_blocksOn_b4] at h
      refine lv_iload_n hx hb dX1_blocksOn_4 rfl (lv_at hl 3 rfl) ?_
      refine lv_iconst (v := (5 : Int32)) hx hb dX1_blocksOn_5 (by decide) ?_
      refine zc_ge (tgt := 32) hx hb dX1_blocksOn_6 (by decide) h (fun h => ?_) (fun h => ?_)
      · refine lv_iload_n hx hb dX1_blocksOn_32 rfl (lv_at hl 2 rfl) ?_
        exact zR_i hx hb hr hlocks dX1_blocksOn_33 h
      · refine lv_iload_n hx hb dX1_blocksOn_9 rfl (lv_at hl 2 rfl) ?_
        refine lv_aload_n hx hb dX1_blocksOn_10 rfl (lv_at hl 0 rfl) ?_
        refine z_get (C := RX1) (T := TX1) (N := 1) (ci := 0) hx hb hts zin_X1 hown hK.1 hP 0 0 rfl rfl (by decide) tw54 rfl rfl dX1_blocksOn_11 ?_
        refine lv_bipush (v := (9 : Int32)) hx hb dX1_blocksOn_14 (by decide) ?_
        refine lv_iconst (v := (5 : Int32)) hx hb dX1_blocksOn_16 (by decide) ?_
        refine lv_iload_n hx hb dX1_blocksOn_17 rfl (lv_at hl 1 rfl) ?_
        refine o_imul hx hb dX1_blocksOn_18 h (fun v1 h => ?_)
        refine lv_iload_n hx hb dX1_blocksOn_19 rfl (lv_at hl 3 rfl) ?_
        refine o_iadd hx hb dX1_blocksOn_20 h (fun v2 h => ?_)
        obtain ⟨v3, hc, h⟩ := zb1_s h
        refine zE_i (zrV (C := RX5) (As := [.int (9 : Int32), .int v2]) (rest := [.int x2]) hx hb hml hown hts tw174 mv_X5_blocksWith ⟨Nat.le_of_ble_eq_true rfl, Nat.le_of_ble_eq_true rfl⟩ rfl rfl (ct_X5_blocksWith l D ct a f (9 : Int32) v2 k v3 hc) (z_pv hK hP [1, 2] rfl 1 rfl rfl) hl.1 rfl rfl (Nat.le_of_ble_eq_true rfl) dX1_blocksOn_21 ⟨Nat.le_refl _, Nat.le_refl _⟩) ?_
        refine o_ior hx hb dX1_blocksOn_24 h (fun v4 h => ?_)
        refine lv_istore_n (lv' := [(2, .int v4), (0, .ref (a 2)), (1, .int p1), (3, .int x3)]) hx hb dX1_blocksOn_25 rfl hl (by decide) rfl (fun ls hl => ?_)
        refine o_nm h (fun v5 ey h => ?_)
        refine lv_iinc (v := v5) (lv' := [(3, .int v5), (2, .int v4), (0, .ref (a 2)), (1, .int p1)]) hx hb dX1_blocksOn_26 hl (k := 3) rfl (Eq.trans rfl ey) (by decide) rfl (fun ls hl => ?_)
        refine lv_goto (tgt := 4) hx hb dX1_blocksOn_29 (by decide) ?_
        exact ih4 v4 v5 h ls (lv_sub hl [2, 3, 1, 0] rfl)
  rw [f_X1_blocksOn] at h
  refine lv_iconst (v := (0 : Int32)) hx hb dX1_blocksOn_0 (by decide) ?_
  refine lv_istore_n (lv' := [(2, .int (0 : Int32)), (0, .ref (a 2)), (1, .int p1)]) hx hb dX1_blocksOn_1 rfl hl (by decide) rfl (fun ls hl => ?_)
  refine lv_iconst (v := (0 : Int32)) hx hb dX1_blocksOn_2 (by decide) ?_
  refine lv_istore_n (lv' := [(3, .int (0 : Int32)), (2, .int (0 : Int32)), (0, .ref (a 2)), (1, .int p1)]) hx hb dX1_blocksOn_3 rfl hl (by decide) rfl (fun ls hl => ?_)
  exact B4 k (0 : Int32) (0 : Int32) h ls (lv_sub hl [2, 3, 1, 0] rfl)

def f_X1_weightOf_b15 (k : Nat) (f : Nat → Int32) (p1 : Int32)  : Nat → Int32 → Int32 → Int32 → Option (Int32)
  | 0, _, _, _ => none
  | n + 1, x2, x3, x4 =>
    if x2 ≤ x4 then
      some x3
    else
      zl (p1 >>> (x4 &&& 31)) fun v2 =>
      zl (v2 &&& (1 : Int32)) fun v3 =>
      if v3 = (1 : Int32) then
        zb1 (f_X5_blockCell k f x4 (4 : Int32)) fun v5 =>
        zl (x3 + v5) fun v6 =>
        zl (x4 + (1 : Int32)) fun v7 =>
        f_X1_weightOf_b15 k f p1 n x2 v6 v7
      else
        zl (x4 + (1 : Int32)) fun v4 =>
        f_X1_weightOf_b15 k f p1 n x2 x3 v4
def f_X1_weightOf (k : Nat) (f : Nat → Int32) (p1 : Int32) : Option (Int32) :=
  zb1 (f_X5_cell k f (6 : Int32)) fun v1 =>
  f_X1_weightOf_b15 k f p1 k v1 (0 : Int32) (0 : Int32)
set_option maxRecDepth 100000 in
set_option maxHeartbeats 4000000 in
theorem ct_X1_weightOf (l : Launch) (D : va_G) (ct a : Nat → Nat) (f : Nat → Int32) (p1 : Int32) (k : Nat) (r : Int32) (h : f_X1_weightOf k f p1 = some r) : Met l yX1_weightOf (Cond.code yX1_weightOf cX1_weightOf 5 (some .int) :: zT) ({ frames := 1, cells := 0, slots := 0, locals := 23 } : Room) (va_Pc [.ref (a 2), .int p1] (zPR D (zTys ct) (wX1 ct a f))) (vp_Si (fun r' => r' = r)) 0 0 (fun _ => False) := by
  refine zMet (cc := cX1_weightOf) (maxL := 5) (ret := (some .int)) (av := [.ref (a 2), .int p1]) (by decide) (Nat.le_of_ble_eq_true rfl) (fun p e s m below meth c ls hx hb hr hml hts hown hlocks hin hB hl => ?_)
  have hl : lv_has ls 5 [(0, .ref (a 2)), (1, .int p1)] := hl
  have hown : s.vm.findClass RX1 = some m.cls := hown
  obtain ⟨hP, hK⟩ := hB
  have B15 : ∀ (n : Nat), ∀ (x2 : Int32) (x3 : Int32) (x4 : Int32), f_X1_weightOf_b15 k f p1 n x2 x3 x4 = some r → ∀ (ls : Array Slot), lv_has ls 5 [(0, .ref (a 2)), (1, .int p1), (2, .int x2), (3, .int x3), (4, .int x4)] → W p l e ({ frames := 1, cells := 0, slots := 0, locals := 23 } : Room) s m ([.ref (a 2), .int p1] : List Value).toArray below meth c s.heap [] 0 0 (MQ below (vp_Si (fun r' => r' = r)) ([.ref (a 2), .int p1] : List Value).toArray s 0 0 (fun _ => False)) (F0 m 15 ls []) := by
    intro n
    induction n with
    | zero => intro x2 x3 x4 h; exact absurd h (by rw [f_X1_weightOf_b15]; exact fun q => nomatch q)
    | succ n ih15 =>
      intro x2 x3 x4 h ls hl
      rw [f_X1_weightOf_b15] at h
      refine lv_iload hx hb dX1_weightOf_15 (lv_at hl 4 rfl) ?_
      refine lv_iload_n hx hb dX1_weightOf_17 rfl (lv_at hl 2 rfl) ?_
      refine zc_ge (tgt := 50) hx hb dX1_weightOf_18 (by decide) h (fun h => ?_) (fun h => ?_)
      · refine lv_iload_n hx hb dX1_weightOf_50 rfl (lv_at hl 3 rfl) ?_
        exact zR_i hx hb hr hlocks dX1_weightOf_51 h
      · refine lv_iload_n hx hb dX1_weightOf_21 rfl (lv_at hl 1 rfl) ?_
        refine lv_iload hx hb dX1_weightOf_22 (lv_at hl 4 rfl) ?_
        refine o_ishr hx hb dX1_weightOf_24 h (fun v2 h => ?_)
        refine lv_iconst (v := (1 : Int32)) hx hb dX1_weightOf_25 (by decide) ?_
        refine o_iand hx hb dX1_weightOf_26 h (fun v3 h => ?_)
        refine lv_iconst (v := (1 : Int32)) hx hb dX1_weightOf_27 (by decide) ?_
        refine zc_ne (tgt := 44) hx hb dX1_weightOf_28 (by decide) h (fun h => ?_) (fun h => ?_)
        · refine o_nm h (fun v4 ey h => ?_)
          refine lv_iinc (v := v4) (lv' := [(4, .int v4), (0, .ref (a 2)), (1, .int p1), (2, .int x2), (3, .int x3)]) hx hb dX1_weightOf_44 hl (k := 4) rfl (Eq.trans rfl ey) (by decide) rfl (fun ls hl => ?_)
          refine lv_goto (tgt := 15) hx hb dX1_weightOf_47 (by decide) ?_
          exact ih15 x2 x3 v4 h ls (lv_sub hl [1, 2, 3, 4, 0] rfl)
        · refine lv_iload_n hx hb dX1_weightOf_31 rfl (lv_at hl 3 rfl) ?_
          refine lv_aload_n hx hb dX1_weightOf_32 rfl (lv_at hl 0 rfl) ?_
          refine z_get (C := RX1) (T := TX1) (N := 1) (ci := 0) hx hb hts zin_X1 hown hK.1 hP 0 0 rfl rfl (by decide) tw54 rfl rfl dX1_weightOf_33 ?_
          refine lv_iload hx hb dX1_weightOf_36 (lv_at hl 4 rfl) ?_
          refine lv_iconst (v := (4 : Int32)) hx hb dX1_weightOf_38 (by decide) ?_
          obtain ⟨v5, hc, h⟩ := zb1_s h
          refine zE_i (zrV (C := RX5) (As := [.int x4, .int (4 : Int32)]) (rest := [.int x3]) hx hb hml hown hts tw183 mv_X5_blockCell ⟨Nat.le_of_ble_eq_true rfl, Nat.le_of_ble_eq_true rfl⟩ rfl rfl (ct_X5_blockCell l D ct a f x4 (4 : Int32) k v5 hc) (z_pv hK hP [1, 2] rfl 1 rfl rfl) hl.1 rfl rfl (Nat.le_of_ble_eq_true rfl) dX1_weightOf_39 ⟨Nat.le_refl _, Nat.le_refl _⟩) ?_
          refine o_iadd hx hb dX1_weightOf_42 h (fun v6 h => ?_)
          refine lv_istore_n (lv' := [(3, .int v6), (0, .ref (a 2)), (1, .int p1), (2, .int x2), (4, .int x4)]) hx hb dX1_weightOf_43 rfl hl (by decide) rfl (fun ls hl => ?_)
          refine o_nm h (fun v7 ey h => ?_)
          refine lv_iinc (v := v7) (lv' := [(4, .int v7), (3, .int v6), (0, .ref (a 2)), (1, .int p1), (2, .int x2)]) hx hb dX1_weightOf_44 hl (k := 4) rfl (Eq.trans rfl ey) (by decide) rfl (fun ls hl => ?_)
          refine lv_goto (tgt := 15) hx hb dX1_weightOf_47 (by decide) ?_
          exact ih15 x2 v6 v7 h ls (lv_sub hl [2, 3, 4, 1, 0] rfl)
  rw [f_X1_weightOf] at h
  refine lv_aload_n hx hb dX1_weightOf_0 rfl (lv_at hl 0 rfl) ?_
  refine z_get (C := RX1) (T := TX1) (N := 1) (ci := 0) hx hb hts zin_X1 hown hK.1 hP 0 0 rfl rfl (by decide) tw54 rfl rfl dX1_weightOf_1 ?_
  refine lv_bipush (v := (6 : Int32)) hx hb dX1_weightOf_4 (by decide) ?_
  obtain ⟨v1, hc, h⟩ := zb1_s h
  refine zE_i (zrV (C := RX5) (As := [.int (6 : Int32)]) (rest := []) hx hb hml hown hts tw173 mv_X5_cell ⟨Nat.le_of_ble_eq_true rfl, Nat.le_of_ble_eq_true rfl⟩ rfl rfl (ct_X5_cell l D ct a f (6 : Int32) k v1 hc) (z_pv hK hP [1, 2] rfl 1 rfl rfl) hl.1 rfl rfl (Nat.le_of_ble_eq_true rfl) dX1_weightOf_6 ⟨Nat.le_refl _, Nat.le_refl _⟩) ?_
  refine lv_istore_n (lv' := [(2, .int v1), (0, .ref (a 2)), (1, .int p1)]) hx hb dX1_weightOf_9 rfl hl (by decide) rfl (fun ls hl => ?_)
  refine lv_iconst (v := (0 : Int32)) hx hb dX1_weightOf_10 (by decide) ?_
  refine lv_istore_n (lv' := [(3, .int (0 : Int32)), (2, .int v1), (0, .ref (a 2)), (1, .int p1)]) hx hb dX1_weightOf_11 rfl hl (by decide) rfl (fun ls hl => ?_)
  refine lv_iconst (v := (0 : Int32)) hx hb dX1_weightOf_12 (by decide) ?_
  refine lv_istore (lv' := [(4, .int (0 : Int32)), (3, .int (0 : Int32)), (2, .int v1), (0, .ref (a 2)), (1, .int p1)]) hx hb dX1_weightOf_13 hl (by decide) rfl (fun ls hl => ?_)
  exact B15 k v1 (0 : Int32) (0 : Int32) h ls (lv_sub hl [3, 4, 2, 1, 0] rfl)

def f_X1_loadOf (k : Nat) (f : Nat → Int32) (p1 : Int32) : Option (Int32) :=
  zb1 (f_X1_blocksOn k f p1) fun v1 =>
  zb1 (f_X1_weightOf k f v1) fun v2 =>
  some v2
set_option maxRecDepth 100000 in
set_option maxHeartbeats 4000000 in
theorem ct_X1_loadOf (l : Launch) (D : va_G) (ct a : Nat → Nat) (f : Nat → Int32) (p1 : Int32) (k : Nat) (r : Int32) (h : f_X1_loadOf k f p1 = some r) : Met l yX1_loadOf (Cond.code yX1_loadOf cX1_loadOf 2 (some .int) :: zT) ({ frames := 3, cells := 0, slots := 0, locals := 71 } : Room) (va_Pc [.ref (a 2), .int p1] (zPR D (zTys ct) (wX1 ct a f))) (vp_Si (fun r' => r' = r)) 0 0 (fun _ => False) := by
  refine zMet (cc := cX1_loadOf) (maxL := 2) (ret := (some .int)) (av := [.ref (a 2), .int p1]) (by decide) (Nat.le_of_ble_eq_true rfl) (fun p e s m below meth c ls hx hb hr hml hts hown hlocks hin hB hl => ?_)
  have hl : lv_has ls 2 [(0, .ref (a 2)), (1, .int p1)] := hl
  have hown : s.vm.findClass RX1 = some m.cls := hown
  obtain ⟨hP, hK⟩ := hB
  rw [f_X1_loadOf] at h
  refine lv_aload_n hx hb dX1_loadOf_0 rfl (lv_at hl 0 rfl) ?_
  refine lv_aload_n hx hb dX1_loadOf_1 rfl (lv_at hl 0 rfl) ?_
  refine lv_iload_n hx hb dX1_loadOf_2 rfl (lv_at hl 1 rfl) ?_
  obtain ⟨v1, hc, h⟩ := zb1_s h
  refine zE_i (zrV (C := RX1) (As := [.int p1]) (rest := [.ref (a 2)]) hx hb hml hown hts tw436 mv_X1_blocksOn ⟨Nat.le_of_ble_eq_true rfl, Nat.le_of_ble_eq_true rfl⟩ rfl rfl (ct_X1_blocksOn l D ct a f p1 k v1 hc) (z_pv hK hP [0, 1, 2] rfl 0 rfl rfl) hl.1 rfl rfl (Nat.le_of_ble_eq_true rfl) dX1_loadOf_3 ⟨Nat.le_refl _, Nat.le_refl _⟩) ?_
  obtain ⟨v2, hc, h⟩ := zb1_s h
  refine zE_i (zrV (C := RX1) (As := [.int v1]) (rest := []) hx hb hml hown hts tw179 mv_X1_weightOf ⟨Nat.le_of_ble_eq_true rfl, Nat.le_of_ble_eq_true rfl⟩ rfl rfl (ct_X1_weightOf l D ct a f v1 k v2 hc) (z_pv hK hP [0, 1, 2] rfl 0 rfl rfl) hl.1 rfl rfl (Nat.le_of_ble_eq_true rfl) dX1_loadOf_6 ⟨Nat.le_refl _, Nat.le_refl _⟩) ?_
  exact zR_i hx hb hr hlocks dX1_loadOf_9 h

def f_X6_loadBlock (k : Nat) (f : Nat → Int32) (p1 : Int32) (p2 : Int32) (p3 : Int32) : Option (Int32 × (Nat → Int32)) :=
  zb1 (f_X5_hasBlock k f p1) fun v1 =>
  if v1 = 0 then
    some ((-1 : Int32), f)
  else
    zb1 (f_X7_isLorry k p2) fun v2 =>
    if v2 = 0 then
      some ((-1 : Int32), f)
    else
      if p3 < 0 then
        some ((-1 : Int32), f)
      else
        if p3 < (5 : Int32) then
          zb1 (f_X1_isAtHand k f p1) fun v3 =>
          if v3 = 0 then
            some ((-5 : Int32), f)
          else
            zb1 (f_X1_isFree k f p2 p3) fun v4 =>
            if v4 = 0 then
              some ((-5 : Int32), f)
            else
              zb1 (f_X5_setBlockCell k f p1 (5 : Int32) (2 : Int32)) fun f5 =>
              zl ((5 : Int32) * p2) fun v6 =>
              zl (v6 + p3) fun v7 =>
              zb1 (f_X5_setBlockCell k f5 p1 (9 : Int32) v7) fun f8 =>
              zb1 (f_X1_loadOf k f8 p2) fun v9 =>
              some (v9, f8)
        else
          some ((-1 : Int32), f)
set_option maxRecDepth 100000 in
set_option maxHeartbeats 4000000 in
theorem ct_X6_loadBlock (l : Launch) (D : va_G) (ct a : Nat → Nat) (f : Nat → Int32) (sz : Nat) (p1 : Int32) (p2 : Int32) (p3 : Int32) (k : Nat) (r : Int32) (f' : Nat → Int32) (h : f_X6_loadBlock k f p1 p2 p3 = some (r, f')) : Met l yX6_loadBlock (Cond.code yX6_loadBlock cX6_loadBlock 4 (some .int) :: zT) ({ frames := 4, cells := 0, slots := 0, locals := 92 } : Room) (va_Pc [.ref (a 1), .int p1, .int p2, .int p3] (zPW D (zTys ct) (wX6 ct a f) sz)) (va_Qi (fun r' (_ : Unit) => r' = r) (zQW D (wX6 ct a f) sz (wX6 ct a f')) (va_A (wX6 ct a f) sz)) 0 0 (va_A (wX6 ct a f) sz) := by
  refine zMet (cc := cX6_loadBlock) (maxL := 4) (ret := (some .int)) (av := [.ref (a 1), .int p1, .int p2, .int p3]) (by decide) (Nat.le_of_ble_eq_true rfl) (fun p e s m below meth c ls hx hb hr hml hts hown hlocks hin hB hl => ?_)
  have hl : lv_has ls 4 [(0, .ref (a 1)), (1, .int p1), (2, .int p2), (3, .int p3)] := hl
  have hown : s.vm.findClass RX6 = some m.cls := hown
  obtain ⟨hsz, hP, hK, hD0⟩ := hB
  subst hsz
  have hD := hD0.self (sz := s.heap.size)
  obtain ⟨A, hAe⟩ : ∃ A, A = va_A (wX6 ct a f) s.heap.size := ⟨_, rfl⟩
  rw [← hAe] at hD
  have hA : ∀ q : Nat, s.heap.size ≤ q → A q := fun q h => by rw [hAe]; exact Or.inr h
  have hS : va_S A s.heap s.heap [] := va_S.rf
  rw [f_X6_loadBlock] at h
  refine lv_aload_n hx hb dX6_loadBlock_0 rfl (lv_at hl 0 rfl) ?_
  refine z_get (C := RX6) (T := TX6) (N := 2) (ci := 5) hx hb hts zin_X6 hown hK.1 hP 0 0 rfl rfl (by decide) tw64 rfl rfl dX6_loadBlock_1 ?_
  refine lv_iload_n hx hb dX6_loadBlock_4 rfl (lv_at hl 1 rfl) ?_
  obtain ⟨v1, hc, h⟩ := zb1_s h
  refine zE_i (zrV (C := RX5) (As := [.int p1]) (rest := []) hx hb hml hown hts tw305 mv_X5_hasBlock ⟨Nat.le_of_ble_eq_true rfl, Nat.le_of_ble_eq_true rfl⟩ rfl rfl (ct_X5_hasBlock l D ct a f p1 k v1 hc) (z_pv hK hP [2, 3] rfl 2 rfl rfl) hl.1 rfl rfl (Nat.le_of_ble_eq_true rfl) dX6_loadBlock_5 ⟨Nat.le_refl _, Nat.le_refl _⟩) ?_
  refine zi_eq (tgt := 27) hx hb dX6_loadBlock_8 (by decide) h (fun h => ?_) (fun h => ?_)
  · refine lv_iconst (v := (-1 : Int32)) hx hb dX6_loadBlock_27 (by decide) ?_
    cases h
    exact zX_i hx hb hr hlocks hP hD hS hAe dX6_loadBlock_28 rfl
  · refine lv_iload_n hx hb dX6_loadBlock_11 rfl (lv_at hl 2 rfl) ?_
    obtain ⟨v2, hc, h⟩ := zb1_s h
    refine zE_i (zrN (As := [.int p2]) (rest := []) hx hb hml hown hts (nw413 hK.2) ms_X7_isLorry ⟨Nat.le_of_ble_eq_true rfl, Nat.le_of_ble_eq_true rfl⟩ rfl rfl (ct_X7_isLorry l p2 k v2 hc) z_p0 hl.1 rfl rfl (Nat.le_of_ble_eq_true rfl) dX6_loadBlock_12 ⟨Nat.le_refl _, Nat.le_refl _⟩) ?_
    refine zi_eq (tgt := 27) hx hb dX6_loadBlock_15 (by decide) h (fun h => ?_) (fun h => ?_)
    · refine lv_iconst (v := (-1 : Int32)) hx hb dX6_loadBlock_27 (by decide) ?_
      cases h
      exact zX_i hx hb hr hlocks hP hD hS hAe dX6_loadBlock_28 rfl
    · refine lv_iload_n hx hb dX6_loadBlock_18 rfl (lv_at hl 3 rfl) ?_
      refine zi_lt (tgt := 27) hx hb dX6_loadBlock_19 (by decide) h (fun h => ?_) (fun h => ?_)
      · refine lv_iconst (v := (-1 : Int32)) hx hb dX6_loadBlock_27 (by decide) ?_
        cases h
        exact zX_i hx hb hr hlocks hP hD hS hAe dX6_loadBlock_28 rfl
      · refine lv_iload_n hx hb dX6_loadBlock_22 rfl (lv_at hl 3 rfl) ?_
        refine lv_iconst (v := (5 : Int32)) hx hb dX6_loadBlock_23 (by decide) ?_
        refine zc_lt (tgt := 29) hx hb dX6_loadBlock_24 (by decide) h (fun h => ?_) (fun h => ?_)
        · refine lv_aload_n hx hb dX6_loadBlock_29 rfl (lv_at hl 0 rfl) ?_
          refine z_get (C := RX6) (T := TX6) (N := 2) (ci := 5) hx hb hts zin_X6 hown hK.1 hP 0 1 rfl rfl (by decide) tw65 rfl rfl dX6_loadBlock_30 ?_
          refine lv_iload_n hx hb dX6_loadBlock_33 rfl (lv_at hl 1 rfl) ?_
          obtain ⟨v3, hc, h⟩ := zb1_s h
          refine zE_i (zrV (C := RX1) (As := [.int p1]) (rest := []) hx hb hml hown hts tw335 mv_X1_isAtHand ⟨Nat.le_of_ble_eq_true rfl, Nat.le_of_ble_eq_true rfl⟩ rfl rfl (ct_X1_isAtHand l D ct a f p1 k v3 hc) (z_pv hK hP [1, 2, 3] rfl 1 rfl rfl) hl.1 rfl rfl (Nat.le_of_ble_eq_true rfl) dX6_loadBlock_34 ⟨Nat.le_refl _, Nat.le_refl _⟩) ?_
          refine zi_eq (tgt := 52) hx hb dX6_loadBlock_37 (by decide) h (fun h => ?_) (fun h => ?_)
          · refine lv_bipush (v := (-5 : Int32)) hx hb dX6_loadBlock_52 (by decide) ?_
            cases h
            exact zX_i hx hb hr hlocks hP hD hS hAe dX6_loadBlock_54 rfl
          · refine lv_aload_n hx hb dX6_loadBlock_40 rfl (lv_at hl 0 rfl) ?_
            refine z_get (C := RX6) (T := TX6) (N := 2) (ci := 5) hx hb hts zin_X6 hown hK.1 hP 0 1 rfl rfl (by decide) tw65 rfl rfl dX6_loadBlock_41 ?_
            refine lv_iload_n hx hb dX6_loadBlock_44 rfl (lv_at hl 2 rfl) ?_
            refine lv_iload_n hx hb dX6_loadBlock_45 rfl (lv_at hl 3 rfl) ?_
            obtain ⟨v4, hc, h⟩ := zb1_s h
            refine zE_i (zrV (C := RX1) (As := [.int p2, .int p3]) (rest := []) hx hb hml hown hts tw428 mv_X1_isFree ⟨Nat.le_of_ble_eq_true rfl, Nat.le_of_ble_eq_true rfl⟩ rfl rfl (ct_X1_isFree l D ct a f p2 p3 k v4 hc) (z_pv hK hP [1, 2, 3] rfl 1 rfl rfl) hl.1 rfl rfl (Nat.le_of_ble_eq_true rfl) dX6_loadBlock_46 ⟨Nat.le_refl _, Nat.le_refl _⟩) ?_
            refine zi_ne (tgt := 55) hx hb dX6_loadBlock_49 (by decide) h (fun h => ?_) (fun h => ?_)
            · refine lv_aload_n hx hb dX6_loadBlock_55 rfl (lv_at hl 0 rfl) ?_
              refine z_get (C := RX6) (T := TX6) (N := 2) (ci := 5) hx hb hts zin_X6 hown hK.1 hP 0 0 rfl rfl (by decide) tw64 rfl rfl dX6_loadBlock_56 ?_
              refine lv_iload_n hx hb dX6_loadBlock_59 rfl (lv_at hl 1 rfl) ?_
              refine lv_iconst (v := (5 : Int32)) hx hb dX6_loadBlock_60 (by decide) ?_
              refine lv_iconst (v := (2 : Int32)) hx hb dX6_loadBlock_61 (by decide) ?_
              obtain ⟨f5, hc, h⟩ := zb1_s h
              refine zG_v (w1 := wX5 ct a f5) (ws' := wX6 ct a f5) hP hD hS hA [2, 3] [0, 1] [0, 1, 2, 3] rfl rfl (by decide) (by decide) rfl (by decide) (zrV (C := RX5) (As := [.int p1, .int (5 : Int32), .int (2 : Int32)]) (rest := []) hx hb hml hown hts tw286 mv_X5_setBlockCell ⟨Nat.le_of_ble_eq_true rfl, Nat.le_of_ble_eq_true rfl⟩ rfl rfl (ct_X5_setBlockCell l D ct a f _ p1 (5 : Int32) (2 : Int32) k f5 hc) (z_wv hK hP hD [2, 3] (by decide) rfl 2 rfl rfl) hl.1 rfl rfl (Nat.le_of_ble_eq_true rfl) dX6_loadBlock_62 ⟨Nat.le_refl _, Nat.le_refl _⟩) (fun H locs hP hD hS => ?_)
              refine lv_aload_n hx hb dX6_loadBlock_65 rfl (lv_at hl 0 rfl) ?_
              refine z_get (C := RX6) (T := TX6) (N := 2) (ci := 5) hx hb hts zin_X6 hown hK.1 hP 0 0 rfl rfl (by decide) tw64 rfl rfl dX6_loadBlock_66 ?_
              refine lv_iload_n hx hb dX6_loadBlock_69 rfl (lv_at hl 1 rfl) ?_
              refine lv_bipush (v := (9 : Int32)) hx hb dX6_loadBlock_70 (by decide) ?_
              refine lv_iconst (v := (5 : Int32)) hx hb dX6_loadBlock_72 (by decide) ?_
              refine lv_iload_n hx hb dX6_loadBlock_73 rfl (lv_at hl 2 rfl) ?_
              refine o_imul hx hb dX6_loadBlock_74 h (fun v6 h => ?_)
              refine lv_iload_n hx hb dX6_loadBlock_75 rfl (lv_at hl 3 rfl) ?_
              refine o_iadd hx hb dX6_loadBlock_76 h (fun v7 h => ?_)
              obtain ⟨f8, hc, h⟩ := zb1_s h
              refine zG_v (w1 := wX5 ct a f8) (ws' := wX6 ct a f8) hP hD hS hA [2, 3] [0, 1] [0, 1, 2, 3] rfl rfl (by decide) (by decide) rfl (by decide) (zrV (C := RX5) (As := [.int p1, .int (9 : Int32), .int v7]) (rest := []) hx hb hml hown hts tw286 mv_X5_setBlockCell ⟨Nat.le_of_ble_eq_true rfl, Nat.le_of_ble_eq_true rfl⟩ rfl rfl (ct_X5_setBlockCell l D ct a f5 _ p1 (9 : Int32) v7 k f8 hc) (z_wv hK hP hD [2, 3] (by decide) rfl 2 rfl rfl) hl.1 rfl rfl (Nat.le_of_ble_eq_true rfl) dX6_loadBlock_77 ⟨Nat.le_refl _, Nat.le_refl _⟩) (fun H locs hP hD hS => ?_)
              refine lv_aload_n hx hb dX6_loadBlock_80 rfl (lv_at hl 0 rfl) ?_
              refine z_get (C := RX6) (T := TX6) (N := 2) (ci := 5) hx hb hts zin_X6 hown hK.1 hP 0 1 rfl rfl (by decide) tw65 rfl rfl dX6_loadBlock_81 ?_
              refine lv_iload_n hx hb dX6_loadBlock_84 rfl (lv_at hl 2 rfl) ?_
              obtain ⟨v9, hc, h⟩ := zb1_s h
              refine zE_i (zrV (C := RX1) (As := [.int p2]) (rest := []) hx hb hml hown hts tw432 mv_X1_loadOf ⟨Nat.le_of_ble_eq_true rfl, Nat.le_of_ble_eq_true rfl⟩ rfl rfl (ct_X1_loadOf l D ct a f8 p2 k v9 hc) (z_pv hK hP [1, 2, 3] rfl 1 rfl rfl) hl.1 rfl rfl (Nat.le_of_ble_eq_true rfl) dX6_loadBlock_85 ⟨Nat.le_refl _, Nat.le_refl _⟩) ?_
              cases h
              exact zX_i hx hb hr hlocks hP hD hS hAe dX6_loadBlock_88 rfl
            · refine lv_bipush (v := (-5 : Int32)) hx hb dX6_loadBlock_52 (by decide) ?_
              cases h
              exact zX_i hx hb hr hlocks hP hD hS hAe dX6_loadBlock_54 rfl
        · refine lv_iconst (v := (-1 : Int32)) hx hb dX6_loadBlock_27 (by decide) ?_
          cases h
          exact zX_i hx hb hr hlocks hP hD hS hAe dX6_loadBlock_28 rfl

def f_X6_unloadBlock (k : Nat) (f : Nat → Int32) (p1 : Int32) : Option (Int32 × (Nat → Int32)) :=
  zb1 (f_X5_hasBlock k f p1) fun v1 =>
  if v1 = 0 then
    some ((-1 : Int32), f)
  else
    zb1 (f_X5_blockCell k f p1 (5 : Int32)) fun v2 =>
    if v2 = (2 : Int32) then
      zb1 (f_X5_blockCell k f p1 (9 : Int32)) fun v3 =>
      zl (v3 / (5 : Int32)) fun v4 =>
      zb1 (f_X5_setBlockCell k f p1 (5 : Int32) (0 : Int32)) fun f5 =>
      zb1 (f_X5_setBlockCell k f5 p1 (9 : Int32) (-6 : Int32)) fun f6 =>
      zb1 (f_X1_loadOf k f6 v4) fun v7 =>
      some (v7, f6)
    else
      some ((-5 : Int32), f)
set_option maxRecDepth 100000 in
set_option maxHeartbeats 4000000 in
theorem ct_X6_unloadBlock (l : Launch) (D : va_G) (ct a : Nat → Nat) (f : Nat → Int32) (sz : Nat) (p1 : Int32) (k : Nat) (r : Int32) (f' : Nat → Int32) (h : f_X6_unloadBlock k f p1 = some (r, f')) : Met l yX6_unloadBlock (Cond.code yX6_unloadBlock cX6_unloadBlock 3 (some .int) :: zT) ({ frames := 4, cells := 0, slots := 0, locals := 92 } : Room) (va_Pc [.ref (a 1), .int p1] (zPW D (zTys ct) (wX6 ct a f) sz)) (va_Qi (fun r' (_ : Unit) => r' = r) (zQW D (wX6 ct a f) sz (wX6 ct a f')) (va_A (wX6 ct a f) sz)) 0 0 (va_A (wX6 ct a f) sz) := by
  refine zMet (cc := cX6_unloadBlock) (maxL := 3) (ret := (some .int)) (av := [.ref (a 1), .int p1]) (by decide) (Nat.le_of_ble_eq_true rfl) (fun p e s m below meth c ls hx hb hr hml hts hown hlocks hin hB hl => ?_)
  have hl : lv_has ls 3 [(0, .ref (a 1)), (1, .int p1)] := hl
  have hown : s.vm.findClass RX6 = some m.cls := hown
  obtain ⟨hsz, hP, hK, hD0⟩ := hB
  subst hsz
  have hD := hD0.self (sz := s.heap.size)
  obtain ⟨A, hAe⟩ : ∃ A, A = va_A (wX6 ct a f) s.heap.size := ⟨_, rfl⟩
  rw [← hAe] at hD
  have hA : ∀ q : Nat, s.heap.size ≤ q → A q := fun q h => by rw [hAe]; exact Or.inr h
  have hS : va_S A s.heap s.heap [] := va_S.rf
  rw [f_X6_unloadBlock] at h
  refine lv_aload_n hx hb dX6_unloadBlock_0 rfl (lv_at hl 0 rfl) ?_
  refine z_get (C := RX6) (T := TX6) (N := 2) (ci := 5) hx hb hts zin_X6 hown hK.1 hP 0 0 rfl rfl (by decide) tw64 rfl rfl dX6_unloadBlock_1 ?_
  refine lv_iload_n hx hb dX6_unloadBlock_4 rfl (lv_at hl 1 rfl) ?_
  obtain ⟨v1, hc, h⟩ := zb1_s h
  refine zE_i (zrV (C := RX5) (As := [.int p1]) (rest := []) hx hb hml hown hts tw305 mv_X5_hasBlock ⟨Nat.le_of_ble_eq_true rfl, Nat.le_of_ble_eq_true rfl⟩ rfl rfl (ct_X5_hasBlock l D ct a f p1 k v1 hc) (z_pv hK hP [2, 3] rfl 2 rfl rfl) hl.1 rfl rfl (Nat.le_of_ble_eq_true rfl) dX6_unloadBlock_5 ⟨Nat.le_refl _, Nat.le_refl _⟩) ?_
  refine zi_ne (tgt := 13) hx hb dX6_unloadBlock_8 (by decide) h (fun h => ?_) (fun h => ?_)
  · refine lv_aload_n hx hb dX6_unloadBlock_13 rfl (lv_at hl 0 rfl) ?_
    refine z_get (C := RX6) (T := TX6) (N := 2) (ci := 5) hx hb hts zin_X6 hown hK.1 hP 0 0 rfl rfl (by decide) tw64 rfl rfl dX6_unloadBlock_14 ?_
    refine lv_iload_n hx hb dX6_unloadBlock_17 rfl (lv_at hl 1 rfl) ?_
    refine lv_iconst (v := (5 : Int32)) hx hb dX6_unloadBlock_18 (by decide) ?_
    obtain ⟨v2, hc, h⟩ := zb1_s h
    refine zE_i (zrV (C := RX5) (As := [.int p1, .int (5 : Int32)]) (rest := []) hx hb hml hown hts tw309 mv_X5_blockCell ⟨Nat.le_of_ble_eq_true rfl, Nat.le_of_ble_eq_true rfl⟩ rfl rfl (ct_X5_blockCell l D ct a f p1 (5 : Int32) k v2 hc) (z_pv hK hP [2, 3] rfl 2 rfl rfl) hl.1 rfl rfl (Nat.le_of_ble_eq_true rfl) dX6_unloadBlock_19 ⟨Nat.le_refl _, Nat.le_refl _⟩) ?_
    refine lv_iconst (v := (2 : Int32)) hx hb dX6_unloadBlock_22 (by decide) ?_
    refine zc_eq (tgt := 29) hx hb dX6_unloadBlock_23 (by decide) h (fun h => ?_) (fun h => ?_)
    · refine lv_aload_n hx hb dX6_unloadBlock_29 rfl (lv_at hl 0 rfl) ?_
      refine z_get (C := RX6) (T := TX6) (N := 2) (ci := 5) hx hb hts zin_X6 hown hK.1 hP 0 0 rfl rfl (by decide) tw64 rfl rfl dX6_unloadBlock_30 ?_
      refine lv_iload_n hx hb dX6_unloadBlock_33 rfl (lv_at hl 1 rfl) ?_
      refine lv_bipush (v := (9 : Int32)) hx hb dX6_unloadBlock_34 (by decide) ?_
      obtain ⟨v3, hc, h⟩ := zb1_s h
      refine zE_i (zrV (C := RX5) (As := [.int p1, .int (9 : Int32)]) (rest := []) hx hb hml hown hts tw309 mv_X5_blockCell ⟨Nat.le_of_ble_eq_true rfl, Nat.le_of_ble_eq_true rfl⟩ rfl rfl (ct_X5_blockCell l D ct a f p1 (9 : Int32) k v3 hc) (z_pv hK hP [2, 3] rfl 2 rfl rfl) hl.1 rfl rfl (Nat.le_of_ble_eq_true rfl) dX6_unloadBlock_36 ⟨Nat.le_refl _, Nat.le_refl _⟩) ?_
      refine lv_iconst (v := (5 : Int32)) hx hb dX6_unloadBlock_39 (by decide) ?_
      refine o_idiv hx hb dX6_unloadBlock_40 (by decide) h (fun v4 h => ?_)
      refine lv_istore_n (lv' := [(2, .int v4), (0, .ref (a 1)), (1, .int p1)]) hx hb dX6_unloadBlock_41 rfl hl (by decide) rfl (fun ls hl => ?_)
      refine lv_aload_n hx hb dX6_unloadBlock_42 rfl (lv_at hl 1 rfl) ?_
      refine z_get (C := RX6) (T := TX6) (N := 2) (ci := 5) hx hb hts zin_X6 hown hK.1 hP 0 0 rfl rfl (by decide) tw64 rfl rfl dX6_unloadBlock_43 ?_
      refine lv_iload_n hx hb dX6_unloadBlock_46 rfl (lv_at hl 2 rfl) ?_
      refine lv_iconst (v := (5 : Int32)) hx hb dX6_unloadBlock_47 (by decide) ?_
      refine lv_iconst (v := (0 : Int32)) hx hb dX6_unloadBlock_48 (by decide) ?_
      obtain ⟨f5, hc, h⟩ := zb1_s h
      refine zG_v (w1 := wX5 ct a f5) (ws' := wX6 ct a f5) hP hD hS hA [2, 3] [0, 1] [0, 1, 2, 3] rfl rfl (by decide) (by decide) rfl (by decide) (zrV (C := RX5) (As := [.int p1, .int (5 : Int32), .int (0 : Int32)]) (rest := []) hx hb hml hown hts tw286 mv_X5_setBlockCell ⟨Nat.le_of_ble_eq_true rfl, Nat.le_of_ble_eq_true rfl⟩ rfl rfl (ct_X5_setBlockCell l D ct a f _ p1 (5 : Int32) (0 : Int32) k f5 hc) (z_wv hK hP hD [2, 3] (by decide) rfl 2 rfl rfl) hl.1 rfl rfl (Nat.le_of_ble_eq_true rfl) dX6_unloadBlock_49 ⟨Nat.le_refl _, Nat.le_refl _⟩) (fun H locs hP hD hS => ?_)
      refine lv_aload_n hx hb dX6_unloadBlock_52 rfl (lv_at hl 1 rfl) ?_
      refine z_get (C := RX6) (T := TX6) (N := 2) (ci := 5) hx hb hts zin_X6 hown hK.1 hP 0 0 rfl rfl (by decide) tw64 rfl rfl dX6_unloadBlock_53 ?_
      refine lv_iload_n hx hb dX6_unloadBlock_56 rfl (lv_at hl 2 rfl) ?_
      refine lv_bipush (v := (9 : Int32)) hx hb dX6_unloadBlock_57 (by decide) ?_
      refine lv_bipush (v := (-6 : Int32)) hx hb dX6_unloadBlock_59 (by decide) ?_
      obtain ⟨f6, hc, h⟩ := zb1_s h
      refine zG_v (w1 := wX5 ct a f6) (ws' := wX6 ct a f6) hP hD hS hA [2, 3] [0, 1] [0, 1, 2, 3] rfl rfl (by decide) (by decide) rfl (by decide) (zrV (C := RX5) (As := [.int p1, .int (9 : Int32), .int (-6 : Int32)]) (rest := []) hx hb hml hown hts tw286 mv_X5_setBlockCell ⟨Nat.le_of_ble_eq_true rfl, Nat.le_of_ble_eq_true rfl⟩ rfl rfl (ct_X5_setBlockCell l D ct a f5 _ p1 (9 : Int32) (-6 : Int32) k f6 hc) (z_wv hK hP hD [2, 3] (by decide) rfl 2 rfl rfl) hl.1 rfl rfl (Nat.le_of_ble_eq_true rfl) dX6_unloadBlock_61 ⟨Nat.le_refl _, Nat.le_refl _⟩) (fun H locs hP hD hS => ?_)
      refine lv_aload_n hx hb dX6_unloadBlock_64 rfl (lv_at hl 1 rfl) ?_
      refine z_get (C := RX6) (T := TX6) (N := 2) (ci := 5) hx hb hts zin_X6 hown hK.1 hP 0 1 rfl rfl (by decide) tw65 rfl rfl dX6_unloadBlock_65 ?_
      refine lv_iload_n hx hb dX6_unloadBlock_68 rfl (lv_at hl 0 rfl) ?_
      obtain ⟨v7, hc, h⟩ := zb1_s h
      refine zE_i (zrV (C := RX1) (As := [.int v4]) (rest := []) hx hb hml hown hts tw432 mv_X1_loadOf ⟨Nat.le_of_ble_eq_true rfl, Nat.le_of_ble_eq_true rfl⟩ rfl rfl (ct_X1_loadOf l D ct a f6 v4 k v7 hc) (z_pv hK hP [1, 2, 3] rfl 1 rfl rfl) hl.1 rfl rfl (Nat.le_of_ble_eq_true rfl) dX6_unloadBlock_69 ⟨Nat.le_refl _, Nat.le_refl _⟩) ?_
      cases h
      exact zX_i hx hb hr hlocks hP hD hS hAe dX6_unloadBlock_72 rfl
    · refine lv_bipush (v := (-5 : Int32)) hx hb dX6_unloadBlock_26 (by decide) ?_
      cases h
      exact zX_i hx hb hr hlocks hP hD hS hAe dX6_unloadBlock_28 rfl
  · refine lv_iconst (v := (-1 : Int32)) hx hb dX6_unloadBlock_11 (by decide) ?_
    cases h
    exact zX_i hx hb hr hlocks hP hD hS hAe dX6_unloadBlock_12 rfl

def f_X5_lorryCell (k : Nat) (f : Nat → Int32) (p1 : Int32) (p2 : Int32) : Option (Int32) :=
  zl (p1 * (4 : Int32)) fun v1 =>
  zl ((332 : Int32) + v1) fun v2 =>
  zl (v2 + p2) fun v3 =>
  zb1 (f_X5_cell k f v3) fun v4 =>
  some v4
set_option maxRecDepth 100000 in
set_option maxHeartbeats 4000000 in
theorem ct_X5_lorryCell (l : Launch) (D : va_G) (ct a : Nat → Nat) (f : Nat → Int32) (p1 : Int32) (p2 : Int32) (k : Nat) (r : Int32) (h : f_X5_lorryCell k f p1 p2 = some r) : Met l yX5_lorryCell (Cond.code yX5_lorryCell cX5_lorryCell 3 (some .int) :: zT) ({ frames := 1, cells := 0, slots := 0, locals := 21 } : Room) (va_Pc [.ref (a 3), .int p1, .int p2] (zPR D (zTys ct) (wX5 ct a f))) (vp_Si (fun r' => r' = r)) 0 0 (fun _ => False) := by
  refine zMet (cc := cX5_lorryCell) (maxL := 3) (ret := (some .int)) (av := [.ref (a 3), .int p1, .int p2]) (by decide) (Nat.le_of_ble_eq_true rfl) (fun p e s m below meth c ls hx hb hr hml hts hown hlocks hin hB hl => ?_)
  have hl : lv_has ls 3 [(0, .ref (a 3)), (1, .int p1), (2, .int p2)] := hl
  have hown : s.vm.findClass RX5 = some m.cls := hown
  obtain ⟨hP, hK⟩ := hB
  rw [f_X5_lorryCell] at h
  refine lv_aload_n hx hb dX5_lorryCell_0 rfl (lv_at hl 0 rfl) ?_
  refine lv_sipush (v := (332 : Int32)) hx hb dX5_lorryCell_1 (by decide) ?_
  refine lv_iload_n hx hb dX5_lorryCell_4 rfl (lv_at hl 1 rfl) ?_
  refine lv_iconst (v := (4 : Int32)) hx hb dX5_lorryCell_5 (by decide) ?_
  refine o_imul hx hb dX5_lorryCell_6 h (fun v1 h => ?_)
  refine o_iadd hx hb dX5_lorryCell_7 h (fun v2 h => ?_)
  refine lv_iload_n hx hb dX5_lorryCell_8 rfl (lv_at hl 2 rfl) ?_
  refine o_iadd hx hb dX5_lorryCell_9 h (fun v3 h => ?_)
  obtain ⟨v4, hc, h⟩ := zb1_s h
  refine zE_i (zrV (C := RX5) (As := [.int v3]) (rest := []) hx hb hml hown hts tw164 mv_X5_cell ⟨Nat.le_of_ble_eq_true rfl, Nat.le_of_ble_eq_true rfl⟩ rfl rfl (ct_X5_cell l D ct a f v3 k v4 hc) (z_pv hK hP [0, 1] rfl 0 rfl rfl) hl.1 rfl rfl (Nat.le_of_ble_eq_true rfl) dX5_lorryCell_10 ⟨Nat.le_refl _, Nat.le_refl _⟩) ?_
  exact zR_i hx hb hr hlocks dX5_lorryCell_13 h

def f_X1_weightAt_b27 (k : Nat) (f : Nat → Int32) (p1 : Int32) (p2 : Int32) (p3 : Int32) (p4 : Int32)  : Nat → Int32 → Int32 → Int32 → Option (UInt32)
  | 0, _, _, _ => none
  | n + 1, x5, x6, x7 =>
    if x5 ≤ x7 then
      zl (FP.i2f x6) fun v2 =>
      some v2
    else
      zb1 (f_X5_blockCell k f x7 (9 : Int32)) fun v3 =>
      zl ((5 : Int32) * p1) fun v4 =>
      zl (v4 + p2) fun v5 =>
      if v3 = v5 then
        zb1 (f_X5_blockCell k f x7 (4 : Int32)) fun v7 =>
        zl (x6 + v7) fun v8 =>
        zl (x7 + (1 : Int32)) fun v9 =>
        f_X1_weightAt_b27 k f p1 p2 p3 p4 n x5 v8 v9
      else
        zl (x7 + (1 : Int32)) fun v6 =>
        f_X1_weightAt_b27 k f p1 p2 p3 p4 n x5 x6 v6
def f_X1_weightAt (k : Nat) (f : Nat → Int32) (p1 : Int32) (p2 : Int32) (p3 : Int32) (p4 : Int32) : Option (UInt32) :=
  zb1 (f_X5_cell k f (6 : Int32)) fun v1 =>
  if p2 = p3 then
    f_X1_weightAt_b27 k f p1 p2 p3 p4 k v1 p4 (0 : Int32)
  else
    f_X1_weightAt_b27 k f p1 p2 p3 p4 k v1 (0 : Int32) (0 : Int32)
set_option maxRecDepth 100000 in
set_option maxHeartbeats 4000000 in
theorem ct_X1_weightAt (l : Launch) (D : va_G) (ct a : Nat → Nat) (f : Nat → Int32) (p1 : Int32) (p2 : Int32) (p3 : Int32) (p4 : Int32) (k : Nat) (r : UInt32) (h : f_X1_weightAt k f p1 p2 p3 p4 = some r) : Met l yX1_weightAt (Cond.code yX1_weightAt cX1_weightAt 8 (some .float) :: zT) ({ frames := 1, cells := 0, slots := 0, locals := 23 } : Room) (va_Pc [.ref (a 2), .int p1, .int p2, .int p3, .int p4] (zPR D (zTys ct) (wX1 ct a f))) (vp_Sf (fun r' => r' = r)) 0 0 (fun _ => False) := by
  refine zMet (cc := cX1_weightAt) (maxL := 8) (ret := (some .float)) (av := [.ref (a 2), .int p1, .int p2, .int p3, .int p4]) (by decide) (Nat.le_of_ble_eq_true rfl) (fun p e s m below meth c ls hx hb hr hml hts hown hlocks hin hB hl => ?_)
  have hl : lv_has ls 8 [(0, .ref (a 2)), (1, .int p1), (2, .int p2), (3, .int p3), (4, .int p4)] := hl
  have hown : s.vm.findClass RX1 = some m.cls := hown
  obtain ⟨hP, hK⟩ := hB
  have B27 : ∀ (n : Nat), ∀ (x5 : Int32) (x6 : Int32) (x7 : Int32), f_X1_weightAt_b27 k f p1 p2 p3 p4 n x5 x6 x7 = some r → ∀ (ls : Array Slot), lv_has ls 8 [(0, .ref (a 2)), (1, .int p1), (2, .int p2), (5, .int x5), (6, .int x6), (7, .int x7)] → W p l e ({ frames := 1, cells := 0, slots := 0, locals := 23 } : Room) s m ([.ref (a 2), .int p1, .int p2, .int p3, .int p4] : List Value).toArray below meth c s.heap [] 0 0 (MQ below (vp_Sf (fun r' => r' = r)) ([.ref (a 2), .int p1, .int p2, .int p3, .int p4] : List Value).toArray s 0 0 (fun _ => False)) (F0 m 27 ls []) := by
    intro n
    induction n with
    | zero => intro x5 x6 x7 h; exact absurd h (by rw [f_X1_weightAt_b27]; exact fun q => nomatch q)
    | succ n ih27 =>
      intro x5 x6 x7 h ls hl
      rw [f_X1_weightAt_b27] at h
      refine lv_iload hx hb dX1_weightAt_27 (lv_at hl 5 rfl) ?_
      refine lv_iload hx hb dX1_weightAt_29 (lv_at hl 3 rfl) ?_
      refine zc_ge (tgt := 74) hx hb dX1_weightAt_31 (by decide) h (fun h => ?_) (fun h => ?_)
      · refine lv_iload hx hb dX1_weightAt_74 (lv_at hl 4 rfl) ?_
        refine o_i2f hx hb dX1_weightAt_76 h (fun v2 h => ?_)
        exact zR_f hx hb hr hlocks dX1_weightAt_77 h
      · refine lv_aload_n hx hb dX1_weightAt_34 rfl (lv_at hl 0 rfl) ?_
        refine z_get (C := RX1) (T := TX1) (N := 1) (ci := 0) hx hb hts zin_X1 hown hK.1 hP 0 0 rfl rfl (by decide) tw54 rfl rfl dX1_weightAt_35 ?_
        refine lv_iload hx hb dX1_weightAt_38 (lv_at hl 5 rfl) ?_
        refine lv_bipush (v := (9 : Int32)) hx hb dX1_weightAt_40 (by decide) ?_
        obtain ⟨v3, hc, h⟩ := zb1_s h
        refine zE_i (zrV (C := RX5) (As := [.int x7, .int (9 : Int32)]) (rest := []) hx hb hml hown hts tw183 mv_X5_blockCell ⟨Nat.le_of_ble_eq_true rfl, Nat.le_of_ble_eq_true rfl⟩ rfl rfl (ct_X5_blockCell l D ct a f x7 (9 : Int32) k v3 hc) (z_pv hK hP [1, 2] rfl 1 rfl rfl) hl.1 rfl rfl (Nat.le_of_ble_eq_true rfl) dX1_weightAt_42 ⟨Nat.le_refl _, Nat.le_refl _⟩) ?_
        refine lv_iconst (v := (5 : Int32)) hx hb dX1_weightAt_45 (by decide) ?_
        refine lv_iload_n hx hb dX1_weightAt_46 rfl (lv_at hl 1 rfl) ?_
        refine o_imul hx hb dX1_weightAt_47 h (fun v4 h => ?_)
        refine lv_iload_n hx hb dX1_weightAt_48 rfl (lv_at hl 2 rfl) ?_
        refine o_iadd hx hb dX1_weightAt_49 h (fun v5 h => ?_)
        refine zc_ne (tgt := 68) hx hb dX1_weightAt_50 (by decide) h (fun h => ?_) (fun h => ?_)
        · refine o_nm h (fun v6 ey h => ?_)
          refine lv_iinc (v := v6) (lv' := [(7, .int v6), (0, .ref (a 2)), (1, .int p1), (2, .int p2), (5, .int x5), (6, .int x6)]) hx hb dX1_weightAt_68 hl (k := 5) rfl (Eq.trans rfl ey) (by decide) rfl (fun ls hl => ?_)
          refine lv_goto (tgt := 27) hx hb dX1_weightAt_71 (by decide) ?_
          exact ih27 x5 x6 v6 h ls (lv_sub hl [1, 2, 3, 4, 5, 0] rfl)
        · refine lv_iload hx hb dX1_weightAt_53 (lv_at hl 4 rfl) ?_
          refine lv_aload_n hx hb dX1_weightAt_55 rfl (lv_at hl 0 rfl) ?_
          refine z_get (C := RX1) (T := TX1) (N := 1) (ci := 0) hx hb hts zin_X1 hown hK.1 hP 0 0 rfl rfl (by decide) tw54 rfl rfl dX1_weightAt_56 ?_
          refine lv_iload hx hb dX1_weightAt_59 (lv_at hl 5 rfl) ?_
          refine lv_iconst (v := (4 : Int32)) hx hb dX1_weightAt_61 (by decide) ?_
          obtain ⟨v7, hc, h⟩ := zb1_s h
          refine zE_i (zrV (C := RX5) (As := [.int x7, .int (4 : Int32)]) (rest := [.int x6]) hx hb hml hown hts tw183 mv_X5_blockCell ⟨Nat.le_of_ble_eq_true rfl, Nat.le_of_ble_eq_true rfl⟩ rfl rfl (ct_X5_blockCell l D ct a f x7 (4 : Int32) k v7 hc) (z_pv hK hP [1, 2] rfl 1 rfl rfl) hl.1 rfl rfl (Nat.le_of_ble_eq_true rfl) dX1_weightAt_62 ⟨Nat.le_refl _, Nat.le_refl _⟩) ?_
          refine o_iadd hx hb dX1_weightAt_65 h (fun v8 h => ?_)
          refine lv_istore (lv' := [(6, .int v8), (0, .ref (a 2)), (1, .int p1), (2, .int p2), (5, .int x5), (7, .int x7)]) hx hb dX1_weightAt_66 hl (by decide) rfl (fun ls hl => ?_)
          refine o_nm h (fun v9 ey h => ?_)
          refine lv_iinc (v := v9) (lv' := [(7, .int v9), (6, .int v8), (0, .ref (a 2)), (1, .int p1), (2, .int p2), (5, .int x5)]) hx hb dX1_weightAt_68 hl (k := 5) rfl (Eq.trans rfl ey) (by decide) rfl (fun ls hl => ?_)
          refine lv_goto (tgt := 27) hx hb dX1_weightAt_71 (by decide) ?_
          exact ih27 x5 v8 v9 h ls (lv_sub hl [2, 3, 4, 5, 1, 0] rfl)
  rw [f_X1_weightAt] at h
  refine lv_aload_n hx hb dX1_weightAt_0 rfl (lv_at hl 0 rfl) ?_
  refine z_get (C := RX1) (T := TX1) (N := 1) (ci := 0) hx hb hts zin_X1 hown hK.1 hP 0 0 rfl rfl (by decide) tw54 rfl rfl dX1_weightAt_1 ?_
  refine lv_bipush (v := (6 : Int32)) hx hb dX1_weightAt_4 (by decide) ?_
  obtain ⟨v1, hc, h⟩ := zb1_s h
  refine zE_i (zrV (C := RX5) (As := [.int (6 : Int32)]) (rest := []) hx hb hml hown hts tw173 mv_X5_cell ⟨Nat.le_of_ble_eq_true rfl, Nat.le_of_ble_eq_true rfl⟩ rfl rfl (ct_X5_cell l D ct a f (6 : Int32) k v1 hc) (z_pv hK hP [1, 2] rfl 1 rfl rfl) hl.1 rfl rfl (Nat.le_of_ble_eq_true rfl) dX1_weightAt_6 ⟨Nat.le_refl _, Nat.le_refl _⟩) ?_
  refine lv_istore (lv' := [(5, .int v1), (0, .ref (a 2)), (1, .int p1), (2, .int p2), (3, .int p3), (4, .int p4)]) hx hb dX1_weightAt_9 hl (by decide) rfl (fun ls hl => ?_)
  refine lv_iload_n hx hb dX1_weightAt_11 rfl (lv_at hl 3 rfl) ?_
  refine lv_iload_n hx hb dX1_weightAt_12 rfl (lv_at hl 4 rfl) ?_
  refine zc_ne (tgt := 21) hx hb dX1_weightAt_13 (by decide) h (fun h => ?_) (fun h => ?_)
  · refine lv_iconst (v := (0 : Int32)) hx hb dX1_weightAt_21 (by decide) ?_
    refine lv_istore (lv' := [(6, .int (0 : Int32)), (5, .int v1), (0, .ref (a 2)), (1, .int p1), (2, .int p2), (3, .int p3), (4, .int p4)]) hx hb dX1_weightAt_22 hl (by decide) rfl (fun ls hl => ?_)
    refine lv_iconst (v := (0 : Int32)) hx hb dX1_weightAt_24 (by decide) ?_
    refine lv_istore (lv' := [(7, .int (0 : Int32)), (6, .int (0 : Int32)), (5, .int v1), (0, .ref (a 2)), (1, .int p1), (2, .int p2), (3, .int p3), (4, .int p4)]) hx hb dX1_weightAt_25 hl (by decide) rfl (fun ls hl => ?_)
    exact B27 k v1 (0 : Int32) (0 : Int32) h ls (lv_sub hl [3, 4, 5, 2, 1, 0] rfl)
  · refine lv_iload hx hb dX1_weightAt_16 (lv_at hl 5 rfl) ?_
    refine lv_goto (tgt := 22) hx hb dX1_weightAt_18 (by decide) ?_
    refine lv_istore (lv' := [(6, .int p4), (5, .int v1), (0, .ref (a 2)), (1, .int p1), (2, .int p2), (3, .int p3), (4, .int p4)]) hx hb dX1_weightAt_22 hl (by decide) rfl (fun ls hl => ?_)
    refine lv_iconst (v := (0 : Int32)) hx hb dX1_weightAt_24 (by decide) ?_
    refine lv_istore (lv' := [(7, .int (0 : Int32)), (6, .int p4), (5, .int v1), (0, .ref (a 2)), (1, .int p1), (2, .int p2), (3, .int p3), (4, .int p4)]) hx hb dX1_weightAt_25 hl (by decide) rfl (fun ls hl => ?_)
    exact B27 k v1 p4 (0 : Int32) h ls (lv_sub hl [3, 4, 5, 2, 1, 0] rfl)

def f_X1_front_b6 (k : Nat) (f : Nat → Int32) (p1 : Int32) (p2 : Int32) (p3 : Int32)  : Nat → UInt32 → Int32 → Option (UInt32)
  | 0, _, _ => none
  | n + 1, x4, x5 =>
    if (5 : Int32) ≤ x5 then
      some x4
    else
      zb1 (f_X1_weightAt k f p1 x5 p2 p3) fun v1 =>
      zl ((4 : Int32) - x5) fun v2 =>
      zl (FP.i2f v2) fun v3 =>
      zg (z32 (FP.fmul v1 v3)) (zl (FP.fmul v1 v3) fun v4 =>
      zg (z32 (FP.fdiv v4 (1082130432 : UInt32))) (zl (FP.fdiv v4 (1082130432 : UInt32)) fun v5 =>
      zg (z32 (FP.fadd x4 v5)) (zl (FP.fadd x4 v5) fun v6 =>
      zl (x5 + (1 : Int32)) fun v7 =>
      f_X1_front_b6 k f p1 p2 p3 n v6 v7)))
def f_X1_front (k : Nat) (f : Nat → Int32) (p1 : Int32) (p2 : Int32) (p3 : Int32) : Option (UInt32) :=
  f_X1_front_b6 k f p1 p2 p3 k FP.fconst0 (0 : Int32)
set_option maxRecDepth 100000 in
set_option maxHeartbeats 4000000 in
theorem ct_X1_front (l : Launch) (D : va_G) (ct a : Nat → Nat) (f : Nat → Int32) (p1 : Int32) (p2 : Int32) (p3 : Int32) (k : Nat) (r : UInt32) (h : f_X1_front k f p1 p2 p3 = some r) : Met l yX1_front (Cond.code yX1_front cX1_front 6 (some .float) :: zT) ({ frames := 2, cells := 0, slots := 0, locals := 50 } : Room) (va_Pc [.ref (a 2), .int p1, .int p2, .int p3] (zPR D (zTys ct) (wX1 ct a f))) (vp_Sf (fun r' => r' = r)) 0 0 (fun _ => False) := by
  refine zMet (cc := cX1_front) (maxL := 6) (ret := (some .float)) (av := [.ref (a 2), .int p1, .int p2, .int p3]) (by decide) (Nat.le_of_ble_eq_true rfl) (fun p e s m below meth c ls hx hb hr hml hts hown hlocks hin hB hl => ?_)
  have hl : lv_has ls 6 [(0, .ref (a 2)), (1, .int p1), (2, .int p2), (3, .int p3)] := hl
  have hown : s.vm.findClass RX1 = some m.cls := hown
  obtain ⟨hP, hK⟩ := hB
  have B6 : ∀ (n : Nat), ∀ (x4 : UInt32) (x5 : Int32), f_X1_front_b6 k f p1 p2 p3 n x4 x5 = some r → ∀ (ls : Array Slot), lv_has ls 6 [(0, .ref (a 2)), (1, .int p1), (2, .int p2), (3, .int p3), (4, .float x4), (5, .int x5)] → W p l e ({ frames := 2, cells := 0, slots := 0, locals := 50 } : Room) s m ([.ref (a 2), .int p1, .int p2, .int p3] : List Value).toArray below meth c s.heap [] 0 0 (MQ below (vp_Sf (fun r' => r' = r)) ([.ref (a 2), .int p1, .int p2, .int p3] : List Value).toArray s 0 0 (fun _ => False)) (F0 m 6 ls []) := by
    intro n
    induction n with
    | zero => intro x4 x5 h; exact absurd h (by rw [f_X1_front_b6]; exact fun q => nomatch q)
    | succ n ih6 =>
      intro x4 x5 h ls hl
      rw [f_X1_front_b6] at h
      refine lv_iload hx hb dX1_front_6 (lv_at hl 5 rfl) ?_
      refine lv_iconst (v := (5 : Int32)) hx hb dX1_front_8 (by decide) ?_
      refine zc_ge (tgt := 41) hx hb dX1_front_9 (by decide) h (fun h => ?_) (fun h => ?_)
      · refine lv_fload hx hb dX1_front_41 (lv_at hl 4 rfl) ?_
        exact zR_f hx hb hr hlocks dX1_front_43 h
      · refine lv_fload hx hb dX1_front_12 (lv_at hl 4 rfl) ?_
        refine lv_aload_n hx hb dX1_front_14 rfl (lv_at hl 0 rfl) ?_
        refine lv_iload_n hx hb dX1_front_15 rfl (lv_at hl 1 rfl) ?_
        refine lv_iload hx hb dX1_front_16 (lv_at hl 5 rfl) ?_
        refine lv_iload_n hx hb dX1_front_18 rfl (lv_at hl 2 rfl) ?_
        refine lv_iload_n hx hb dX1_front_19 rfl (lv_at hl 3 rfl) ?_
        obtain ⟨v1, hc, h⟩ := zb1_s h
        refine zE_f (zrV (C := RX1) (As := [.int p1, .int x5, .int p2, .int p3]) (rest := [.float x4]) hx hb hml hown hts tw468 mv_X1_weightAt ⟨Nat.le_of_ble_eq_true rfl, Nat.le_of_ble_eq_true rfl⟩ rfl rfl (ct_X1_weightAt l D ct a f p1 x5 p2 p3 k v1 hc) (z_pv hK hP [0, 1, 2] rfl 0 rfl rfl) hl.1 rfl rfl (Nat.le_of_ble_eq_true rfl) dX1_front_20 ⟨Nat.le_refl _, Nat.le_refl _⟩) ?_
        refine lv_iconst (v := (4 : Int32)) hx hb dX1_front_23 (by decide) ?_
        refine lv_iload hx hb dX1_front_24 (lv_at hl 5 rfl) ?_
        refine o_isub hx hb dX1_front_26 h (fun v2 h => ?_)
        refine o_i2f hx hb dX1_front_27 h (fun v3 h => ?_)
        refine o_fmul hx hb dX1_front_28 h (fun v4 h => ?_)
        refine lv_ldcf (v := (1082130432 : UInt32)) hx hb hown (hts _ (List.mem_cons_of_mem _ tw472)) dX1_front_29 ?_
        refine o_fdiv hx hb dX1_front_31 h (fun v5 h => ?_)
        refine o_fadd hx hb dX1_front_32 h (fun v6 h => ?_)
        refine lv_fstore (lv' := [(4, .float v6), (0, .ref (a 2)), (1, .int p1), (2, .int p2), (3, .int p3), (5, .int x5)]) hx hb dX1_front_33 hl (by decide) rfl (fun ls hl => ?_)
        refine o_nm h (fun v7 ey h => ?_)
        refine lv_iinc (v := v7) (lv' := [(5, .int v7), (4, .float v6), (0, .ref (a 2)), (1, .int p1), (2, .int p2), (3, .int p3)]) hx hb dX1_front_35 hl (k := 5) rfl (Eq.trans rfl ey) (by decide) rfl (fun ls hl => ?_)
        refine lv_goto (tgt := 6) hx hb dX1_front_38 (by decide) ?_
        exact ih6 v6 v7 h ls (lv_sub hl [2, 3, 4, 5, 1, 0] rfl)
  rw [f_X1_front] at h
  refine lv_fconst0 hx hb dX1_front_0 ?_
  refine lv_fstore (lv' := [(4, .float FP.fconst0), (0, .ref (a 2)), (1, .int p1), (2, .int p2), (3, .int p3)]) hx hb dX1_front_1 hl (by decide) rfl (fun ls hl => ?_)
  refine lv_iconst (v := (0 : Int32)) hx hb dX1_front_3 (by decide) ?_
  refine lv_istore (lv' := [(5, .int (0 : Int32)), (4, .float FP.fconst0), (0, .ref (a 2)), (1, .int p1), (2, .int p2), (3, .int p3)]) hx hb dX1_front_4 hl (by decide) rfl (fun ls hl => ?_)
  exact B6 k FP.fconst0 (0 : Int32) h ls (lv_sub hl [2, 3, 4, 5, 1, 0] rfl)

def f_X1_rear_b6 (k : Nat) (f : Nat → Int32) (p1 : Int32) (p2 : Int32) (p3 : Int32)  : Nat → UInt32 → Int32 → Option (UInt32)
  | 0, _, _ => none
  | n + 1, x4, x5 =>
    if (5 : Int32) ≤ x5 then
      some x4
    else
      zb1 (f_X1_weightAt k f p1 x5 p2 p3) fun v1 =>
      zl (FP.i2f x5) fun v2 =>
      zg (z32 (FP.fmul v1 v2)) (zl (FP.fmul v1 v2) fun v3 =>
      zg (z32 (FP.fdiv v3 (1082130432 : UInt32))) (zl (FP.fdiv v3 (1082130432 : UInt32)) fun v4 =>
      zg (z32 (FP.fadd x4 v4)) (zl (FP.fadd x4 v4) fun v5 =>
      zl (x5 + (1 : Int32)) fun v6 =>
      f_X1_rear_b6 k f p1 p2 p3 n v5 v6)))
def f_X1_rear (k : Nat) (f : Nat → Int32) (p1 : Int32) (p2 : Int32) (p3 : Int32) : Option (UInt32) :=
  f_X1_rear_b6 k f p1 p2 p3 k FP.fconst0 (0 : Int32)
set_option maxRecDepth 100000 in
set_option maxHeartbeats 4000000 in
theorem ct_X1_rear (l : Launch) (D : va_G) (ct a : Nat → Nat) (f : Nat → Int32) (p1 : Int32) (p2 : Int32) (p3 : Int32) (k : Nat) (r : UInt32) (h : f_X1_rear k f p1 p2 p3 = some r) : Met l yX1_rear (Cond.code yX1_rear cX1_rear 6 (some .float) :: zT) ({ frames := 2, cells := 0, slots := 0, locals := 50 } : Room) (va_Pc [.ref (a 2), .int p1, .int p2, .int p3] (zPR D (zTys ct) (wX1 ct a f))) (vp_Sf (fun r' => r' = r)) 0 0 (fun _ => False) := by
  refine zMet (cc := cX1_rear) (maxL := 6) (ret := (some .float)) (av := [.ref (a 2), .int p1, .int p2, .int p3]) (by decide) (Nat.le_of_ble_eq_true rfl) (fun p e s m below meth c ls hx hb hr hml hts hown hlocks hin hB hl => ?_)
  have hl : lv_has ls 6 [(0, .ref (a 2)), (1, .int p1), (2, .int p2), (3, .int p3)] := hl
  have hown : s.vm.findClass RX1 = some m.cls := hown
  obtain ⟨hP, hK⟩ := hB
  have B6 : ∀ (n : Nat), ∀ (x4 : UInt32) (x5 : Int32), f_X1_rear_b6 k f p1 p2 p3 n x4 x5 = some r → ∀ (ls : Array Slot), lv_has ls 6 [(0, .ref (a 2)), (1, .int p1), (2, .int p2), (3, .int p3), (4, .float x4), (5, .int x5)] → W p l e ({ frames := 2, cells := 0, slots := 0, locals := 50 } : Room) s m ([.ref (a 2), .int p1, .int p2, .int p3] : List Value).toArray below meth c s.heap [] 0 0 (MQ below (vp_Sf (fun r' => r' = r)) ([.ref (a 2), .int p1, .int p2, .int p3] : List Value).toArray s 0 0 (fun _ => False)) (F0 m 6 ls []) := by
    intro n
    induction n with
    | zero => intro x4 x5 h; exact absurd h (by rw [f_X1_rear_b6]; exact fun q => nomatch q)
    | succ n ih6 =>
      intro x4 x5 h ls hl
      rw [f_X1_rear_b6] at h
      refine lv_iload hx hb dX1_rear_6 (lv_at hl 5 rfl) ?_
      refine lv_iconst (v := (5 : Int32)) hx hb dX1_rear_8 (by decide) ?_
      refine zc_ge (tgt := 39) hx hb dX1_rear_9 (by decide) h (fun h => ?_) (fun h => ?_)
      · refine lv_fload hx hb dX1_rear_39 (lv_at hl 4 rfl) ?_
        exact zR_f hx hb hr hlocks dX1_rear_41 h
      · refine lv_fload hx hb dX1_rear_12 (lv_at hl 4 rfl) ?_
        refine lv_aload_n hx hb dX1_rear_14 rfl (lv_at hl 0 rfl) ?_
        refine lv_iload_n hx hb dX1_rear_15 rfl (lv_at hl 1 rfl) ?_
        refine lv_iload hx hb dX1_rear_16 (lv_at hl 5 rfl) ?_
        refine lv_iload_n hx hb dX1_rear_18 rfl (lv_at hl 2 rfl) ?_
        refine lv_iload_n hx hb dX1_rear_19 rfl (lv_at hl 3 rfl) ?_
        obtain ⟨v1, hc, h⟩ := zb1_s h
        refine zE_f (zrV (C := RX1) (As := [.int p1, .int x5, .int p2, .int p3]) (rest := [.float x4]) hx hb hml hown hts tw468 mv_X1_weightAt ⟨Nat.le_of_ble_eq_true rfl, Nat.le_of_ble_eq_true rfl⟩ rfl rfl (ct_X1_weightAt l D ct a f p1 x5 p2 p3 k v1 hc) (z_pv hK hP [0, 1, 2] rfl 0 rfl rfl) hl.1 rfl rfl (Nat.le_of_ble_eq_true rfl) dX1_rear_20 ⟨Nat.le_refl _, Nat.le_refl _⟩) ?_
        refine lv_iload hx hb dX1_rear_23 (lv_at hl 5 rfl) ?_
        refine o_i2f hx hb dX1_rear_25 h (fun v2 h => ?_)
        refine o_fmul hx hb dX1_rear_26 h (fun v3 h => ?_)
        refine lv_ldcf (v := (1082130432 : UInt32)) hx hb hown (hts _ (List.mem_cons_of_mem _ tw472)) dX1_rear_27 ?_
        refine o_fdiv hx hb dX1_rear_29 h (fun v4 h => ?_)
        refine o_fadd hx hb dX1_rear_30 h (fun v5 h => ?_)
        refine lv_fstore (lv' := [(4, .float v5), (0, .ref (a 2)), (1, .int p1), (2, .int p2), (3, .int p3), (5, .int x5)]) hx hb dX1_rear_31 hl (by decide) rfl (fun ls hl => ?_)
        refine o_nm h (fun v6 ey h => ?_)
        refine lv_iinc (v := v6) (lv' := [(5, .int v6), (4, .float v5), (0, .ref (a 2)), (1, .int p1), (2, .int p2), (3, .int p3)]) hx hb dX1_rear_33 hl (k := 5) rfl (Eq.trans rfl ey) (by decide) rfl (fun ls hl => ?_)
        refine lv_goto (tgt := 6) hx hb dX1_rear_36 (by decide) ?_
        exact ih6 v5 v6 h ls (lv_sub hl [2, 3, 4, 5, 1, 0] rfl)
  rw [f_X1_rear] at h
  refine lv_fconst0 hx hb dX1_rear_0 ?_
  refine lv_fstore (lv' := [(4, .float FP.fconst0), (0, .ref (a 2)), (1, .int p1), (2, .int p2), (3, .int p3)]) hx hb dX1_rear_1 hl (by decide) rfl (fun ls hl => ?_)
  refine lv_iconst (v := (0 : Int32)) hx hb dX1_rear_3 (by decide) ?_
  refine lv_istore (lv' := [(5, .int (0 : Int32)), (4, .float FP.fconst0), (0, .ref (a 2)), (1, .int p1), (2, .int p2), (3, .int p3)]) hx hb dX1_rear_4 hl (by decide) rfl (fun ls hl => ?_)
  exact B6 k FP.fconst0 (0 : Int32) h ls (lv_sub hl [2, 3, 4, 5, 1, 0] rfl)

def f_X1_reasonToStay (k : Nat) (f : Nat → Int32) (p1 : Int32) : Option (Int32) :=
  zb1 (f_X1_blocksOn k f p1) fun v1 =>
  if v1 = 0 then
    some (1 : Int32)
  else
    zb1 (f_X5_blocksWith k f (7 : Int32) (1 : Int32)) fun v2 =>
    zl (v1 &&& v2) fun v3 =>
    if v3 = 0 then
      zb1 (f_X1_weightOf k f v1) fun v4 =>
      zb1 (f_X5_lorryCell k f p1 (2 : Int32)) fun v5 =>
      if v4 ≤ v5 then
        zb1 (f_X1_front k f p1 (-6 : Int32) (0 : Int32)) fun v6 =>
        zb1 (f_X5_lorryCell k f p1 (0 : Int32)) fun v7 =>
        zl (FP.i2f v7) fun v8 =>
        zl (Op.cmpValue (FP.fcmp v6 v8) CmpOp.l) fun v9 =>
        if v9 ≤ 0 then
          zb1 (f_X1_rear k f p1 (-6 : Int32) (0 : Int32)) fun v10 =>
          zb1 (f_X5_lorryCell k f p1 (1 : Int32)) fun v11 =>
          zl (FP.i2f v11) fun v12 =>
          zl (Op.cmpValue (FP.fcmp v10 v12) CmpOp.l) fun v13 =>
          if v13 ≤ 0 then
            some (0 : Int32)
          else
            some (5 : Int32)
        else
          some (4 : Int32)
      else
        some (3 : Int32)
    else
      some (2 : Int32)
set_option maxRecDepth 100000 in
set_option maxHeartbeats 4000000 in
theorem ct_X1_reasonToStay (l : Launch) (D : va_G) (ct a : Nat → Nat) (f : Nat → Int32) (p1 : Int32) (k : Nat) (r : Int32) (h : f_X1_reasonToStay k f p1 = some r) : Met l yX1_reasonToStay (Cond.code yX1_reasonToStay cX1_reasonToStay 3 (some .int) :: zT) ({ frames := 3, cells := 0, slots := 0, locals := 75 } : Room) (va_Pc [.ref (a 2), .int p1] (zPR D (zTys ct) (wX1 ct a f))) (vp_Si (fun r' => r' = r)) 0 0 (fun _ => False) := by
  refine zMet (cc := cX1_reasonToStay) (maxL := 3) (ret := (some .int)) (av := [.ref (a 2), .int p1]) (by decide) (Nat.le_of_ble_eq_true rfl) (fun p e s m below meth c ls hx hb hr hml hts hown hlocks hin hB hl => ?_)
  have hl : lv_has ls 3 [(0, .ref (a 2)), (1, .int p1)] := hl
  have hown : s.vm.findClass RX1 = some m.cls := hown
  obtain ⟨hP, hK⟩ := hB
  rw [f_X1_reasonToStay] at h
  refine lv_aload_n hx hb dX1_reasonToStay_0 rfl (lv_at hl 0 rfl) ?_
  refine lv_iload_n hx hb dX1_reasonToStay_1 rfl (lv_at hl 1 rfl) ?_
  obtain ⟨v1, hc, h⟩ := zb1_s h
  refine zE_i (zrV (C := RX1) (As := [.int p1]) (rest := []) hx hb hml hown hts tw436 mv_X1_blocksOn ⟨Nat.le_of_ble_eq_true rfl, Nat.le_of_ble_eq_true rfl⟩ rfl rfl (ct_X1_blocksOn l D ct a f p1 k v1 hc) (z_pv hK hP [0, 1, 2] rfl 0 rfl rfl) hl.1 rfl rfl (Nat.le_of_ble_eq_true rfl) dX1_reasonToStay_2 ⟨Nat.le_refl _, Nat.le_refl _⟩) ?_
  refine lv_istore_n (lv' := [(2, .int v1), (0, .ref (a 2)), (1, .int p1)]) hx hb dX1_reasonToStay_5 rfl hl (by decide) rfl (fun ls hl => ?_)
  refine lv_iload_n hx hb dX1_reasonToStay_6 rfl (lv_at hl 0 rfl) ?_
  refine zi_ne (tgt := 12) hx hb dX1_reasonToStay_7 (by decide) h (fun h => ?_) (fun h => ?_)
  · refine lv_iload_n hx hb dX1_reasonToStay_12 rfl (lv_at hl 0 rfl) ?_
    refine lv_aload_n hx hb dX1_reasonToStay_13 rfl (lv_at hl 1 rfl) ?_
    refine z_get (C := RX1) (T := TX1) (N := 1) (ci := 0) hx hb hts zin_X1 hown hK.1 hP 0 0 rfl rfl (by decide) tw54 rfl rfl dX1_reasonToStay_14 ?_
    refine lv_bipush (v := (7 : Int32)) hx hb dX1_reasonToStay_17 (by decide) ?_
    refine lv_iconst (v := (1 : Int32)) hx hb dX1_reasonToStay_19 (by decide) ?_
    obtain ⟨v2, hc, h⟩ := zb1_s h
    refine zE_i (zrV (C := RX5) (As := [.int (7 : Int32), .int (1 : Int32)]) (rest := [.int v1]) hx hb hml hown hts tw174 mv_X5_blocksWith ⟨Nat.le_of_ble_eq_true rfl, Nat.le_of_ble_eq_true rfl⟩ rfl rfl (ct_X5_blocksWith l D ct a f (7 : Int32) (1 : Int32) k v2 hc) (z_pv hK hP [1, 2] rfl 1 rfl rfl) hl.1 rfl rfl (Nat.le_of_ble_eq_true rfl) dX1_reasonToStay_20 ⟨Nat.le_refl _, Nat.le_refl _⟩) ?_
    refine o_iand hx hb dX1_reasonToStay_23 h (fun v3 h => ?_)
    refine zi_eq (tgt := 29) hx hb dX1_reasonToStay_24 (by decide) h (fun h => ?_) (fun h => ?_)
    · refine lv_aload_n hx hb dX1_reasonToStay_29 rfl (lv_at hl 1 rfl) ?_
      refine lv_iload_n hx hb dX1_reasonToStay_30 rfl (lv_at hl 0 rfl) ?_
      obtain ⟨v4, hc, h⟩ := zb1_s h
      refine zE_i (zrV (C := RX1) (As := [.int v1]) (rest := []) hx hb hml hown hts tw179 mv_X1_weightOf ⟨Nat.le_of_ble_eq_true rfl, Nat.le_of_ble_eq_true rfl⟩ rfl rfl (ct_X1_weightOf l D ct a f v1 k v4 hc) (z_pv hK hP [0, 1, 2] rfl 0 rfl rfl) hl.1 rfl rfl (Nat.le_of_ble_eq_true rfl) dX1_reasonToStay_31 ⟨Nat.le_refl _, Nat.le_refl _⟩) ?_
      refine lv_aload_n hx hb dX1_reasonToStay_34 rfl (lv_at hl 1 rfl) ?_
      refine z_get (C := RX1) (T := TX1) (N := 1) (ci := 0) hx hb hts zin_X1 hown hK.1 hP 0 0 rfl rfl (by decide) tw54 rfl rfl dX1_reasonToStay_35 ?_
      refine lv_iload_n hx hb dX1_reasonToStay_38 rfl (lv_at hl 2 rfl) ?_
      refine lv_iconst (v := (2 : Int32)) hx hb dX1_reasonToStay_39 (by decide) ?_
      obtain ⟨v5, hc, h⟩ := zb1_s h
      refine zE_i (zrV (C := RX5) (As := [.int p1, .int (2 : Int32)]) (rest := [.int v4]) hx hb hml hown hts tw460 mv_X5_lorryCell ⟨Nat.le_of_ble_eq_true rfl, Nat.le_of_ble_eq_true rfl⟩ rfl rfl (ct_X5_lorryCell l D ct a f p1 (2 : Int32) k v5 hc) (z_pv hK hP [1, 2] rfl 1 rfl rfl) hl.1 rfl rfl (Nat.le_of_ble_eq_true rfl) dX1_reasonToStay_40 ⟨Nat.le_refl _, Nat.le_refl _⟩) ?_
      refine zc_le (tgt := 48) hx hb dX1_reasonToStay_43 (by decide) h (fun h => ?_) (fun h => ?_)
      · refine lv_aload_n hx hb dX1_reasonToStay_48 rfl (lv_at hl 1 rfl) ?_
        refine lv_iload_n hx hb dX1_reasonToStay_49 rfl (lv_at hl 2 rfl) ?_
        refine lv_bipush (v := (-6 : Int32)) hx hb dX1_reasonToStay_50 (by decide) ?_
        refine lv_iconst (v := (0 : Int32)) hx hb dX1_reasonToStay_52 (by decide) ?_
        obtain ⟨v6, hc, h⟩ := zb1_s h
        refine zE_f (zrV (C := RX1) (As := [.int p1, .int (-6 : Int32), .int (0 : Int32)]) (rest := []) hx hb hml hown hts tw464 mv_X1_front ⟨Nat.le_of_ble_eq_true rfl, Nat.le_of_ble_eq_true rfl⟩ rfl rfl (ct_X1_front l D ct a f p1 (-6 : Int32) (0 : Int32) k v6 hc) (z_pv hK hP [0, 1, 2] rfl 0 rfl rfl) hl.1 rfl rfl (Nat.le_of_ble_eq_true rfl) dX1_reasonToStay_53 ⟨Nat.le_refl _, Nat.le_refl _⟩) ?_
        refine lv_aload_n hx hb dX1_reasonToStay_56 rfl (lv_at hl 1 rfl) ?_
        refine z_get (C := RX1) (T := TX1) (N := 1) (ci := 0) hx hb hts zin_X1 hown hK.1 hP 0 0 rfl rfl (by decide) tw54 rfl rfl dX1_reasonToStay_57 ?_
        refine lv_iload_n hx hb dX1_reasonToStay_60 rfl (lv_at hl 2 rfl) ?_
        refine lv_iconst (v := (0 : Int32)) hx hb dX1_reasonToStay_61 (by decide) ?_
        obtain ⟨v7, hc, h⟩ := zb1_s h
        refine zE_i (zrV (C := RX5) (As := [.int p1, .int (0 : Int32)]) (rest := [.float v6]) hx hb hml hown hts tw460 mv_X5_lorryCell ⟨Nat.le_of_ble_eq_true rfl, Nat.le_of_ble_eq_true rfl⟩ rfl rfl (ct_X5_lorryCell l D ct a f p1 (0 : Int32) k v7 hc) (z_pv hK hP [1, 2] rfl 1 rfl rfl) hl.1 rfl rfl (Nat.le_of_ble_eq_true rfl) dX1_reasonToStay_62 ⟨Nat.le_refl _, Nat.le_refl _⟩) ?_
        refine o_i2f hx hb dX1_reasonToStay_65 h (fun v8 h => ?_)
        refine o_fcmp hx hb dX1_reasonToStay_66 h (fun v9 h => ?_)
        refine zi_le (tgt := 72) hx hb dX1_reasonToStay_67 (by decide) h (fun h => ?_) (fun h => ?_)
        · refine lv_aload_n hx hb dX1_reasonToStay_72 rfl (lv_at hl 1 rfl) ?_
          refine lv_iload_n hx hb dX1_reasonToStay_73 rfl (lv_at hl 2 rfl) ?_
          refine lv_bipush (v := (-6 : Int32)) hx hb dX1_reasonToStay_74 (by decide) ?_
          refine lv_iconst (v := (0 : Int32)) hx hb dX1_reasonToStay_76 (by decide) ?_
          obtain ⟨v10, hc, h⟩ := zb1_s h
          refine zE_f (zrV (C := RX1) (As := [.int p1, .int (-6 : Int32), .int (0 : Int32)]) (rest := []) hx hb hml hown hts tw473 mv_X1_rear ⟨Nat.le_of_ble_eq_true rfl, Nat.le_of_ble_eq_true rfl⟩ rfl rfl (ct_X1_rear l D ct a f p1 (-6 : Int32) (0 : Int32) k v10 hc) (z_pv hK hP [0, 1, 2] rfl 0 rfl rfl) hl.1 rfl rfl (Nat.le_of_ble_eq_true rfl) dX1_reasonToStay_77 ⟨Nat.le_refl _, Nat.le_refl _⟩) ?_
          refine lv_aload_n hx hb dX1_reasonToStay_80 rfl (lv_at hl 1 rfl) ?_
          refine z_get (C := RX1) (T := TX1) (N := 1) (ci := 0) hx hb hts zin_X1 hown hK.1 hP 0 0 rfl rfl (by decide) tw54 rfl rfl dX1_reasonToStay_81 ?_
          refine lv_iload_n hx hb dX1_reasonToStay_84 rfl (lv_at hl 2 rfl) ?_
          refine lv_iconst (v := (1 : Int32)) hx hb dX1_reasonToStay_85 (by decide) ?_
          obtain ⟨v11, hc, h⟩ := zb1_s h
          refine zE_i (zrV (C := RX5) (As := [.int p1, .int (1 : Int32)]) (rest := [.float v10]) hx hb hml hown hts tw460 mv_X5_lorryCell ⟨Nat.le_of_ble_eq_true rfl, Nat.le_of_ble_eq_true rfl⟩ rfl rfl (ct_X5_lorryCell l D ct a f p1 (1 : Int32) k v11 hc) (z_pv hK hP [1, 2] rfl 1 rfl rfl) hl.1 rfl rfl (Nat.le_of_ble_eq_true rfl) dX1_reasonToStay_86 ⟨Nat.le_refl _, Nat.le_refl _⟩) ?_
          refine o_i2f hx hb dX1_reasonToStay_89 h (fun v12 h => ?_)
          refine o_fcmp hx hb dX1_reasonToStay_90 h (fun v13 h => ?_)
          refine zi_le (tgt := 98) hx hb dX1_reasonToStay_91 (by decide) h (fun h => ?_) (fun h => ?_)
          · refine lv_iconst (v := (0 : Int32)) hx hb dX1_reasonToStay_98 (by decide) ?_
            exact zR_i hx hb hr hlocks dX1_reasonToStay_99 h
          · refine lv_iconst (v := (5 : Int32)) hx hb dX1_reasonToStay_94 (by decide) ?_
            refine lv_goto (tgt := 99) hx hb dX1_reasonToStay_95 (by decide) ?_
            exact zR_i hx hb hr hlocks dX1_reasonToStay_99 h
        · refine lv_iconst (v := (4 : Int32)) hx hb dX1_reasonToStay_70 (by decide) ?_
          exact zR_i hx hb hr hlocks dX1_reasonToStay_71 h
      · refine lv_iconst (v := (3 : Int32)) hx hb dX1_reasonToStay_46 (by decide) ?_
        exact zR_i hx hb hr hlocks dX1_reasonToStay_47 h
    · refine lv_iconst (v := (2 : Int32)) hx hb dX1_reasonToStay_27 (by decide) ?_
      exact zR_i hx hb hr hlocks dX1_reasonToStay_28 h
  · refine lv_iconst (v := (1 : Int32)) hx hb dX1_reasonToStay_10 (by decide) ?_
    exact zR_i hx hb hr hlocks dX1_reasonToStay_11 h

def f_X6_deliver (k : Nat) (f : Nat → Int32) (p1 : Int32) : Option (Int32 × (Nat → Int32)) :=
  zb1 (f_X5_setBlockCell k f p1 (5 : Int32) (3 : Int32)) fun f1 =>
  zb1 (f_X5_setBlockCell k f1 p1 (9 : Int32) (-6 : Int32)) fun f2 =>
  zb1 (f_X5_blockCell k f2 p1 (8 : Int32)) fun v3 =>
  if v3 = (-6 : Int32) then
    some ((0 : Int32), f2)
  else
    zb1 (f_X5_cell k f2 (1 : Int32)) fun v4 =>
    zb1 (f_X5_blockCell k f2 p1 (4 : Int32)) fun v5 =>
    zl (v5 + (99 : Int32)) fun v6 =>
    zl (v6 / (100 : Int32)) fun v7 =>
    zl (v4 * v7) fun v8 =>
    zb1 (f_X5_setOrderCell k f2 v3 (3 : Int32) (2 : Int32)) fun f9 =>
    zb1 (f_X5_setOrderCell k f9 v3 (5 : Int32) v8) fun f10 =>
    some (v8, f10)
set_option maxRecDepth 100000 in
set_option maxHeartbeats 4000000 in
theorem ct_X6_deliver (l : Launch) (D : va_G) (ct a : Nat → Nat) (f : Nat → Int32) (sz : Nat) (p1 : Int32) (k : Nat) (r : Int32) (f' : Nat → Int32) (h : f_X6_deliver k f p1 = some (r, f')) : Met l yX6_deliver (Cond.code yX6_deliver cX6_deliver 4 (some .int) :: zT) ({ frames := 2, cells := 0, slots := 0, locals := 45 } : Room) (va_Pc [.ref (a 1), .int p1] (zPW D (zTys ct) (wX6 ct a f) sz)) (va_Qi (fun r' (_ : Unit) => r' = r) (zQW D (wX6 ct a f) sz (wX6 ct a f')) (va_A (wX6 ct a f) sz)) 0 0 (va_A (wX6 ct a f) sz) := by
  refine zMet (cc := cX6_deliver) (maxL := 4) (ret := (some .int)) (av := [.ref (a 1), .int p1]) (by decide) (Nat.le_of_ble_eq_true rfl) (fun p e s m below meth c ls hx hb hr hml hts hown hlocks hin hB hl => ?_)
  have hl : lv_has ls 4 [(0, .ref (a 1)), (1, .int p1)] := hl
  have hown : s.vm.findClass RX6 = some m.cls := hown
  obtain ⟨hsz, hP, hK, hD0⟩ := hB
  subst hsz
  have hD := hD0.self (sz := s.heap.size)
  obtain ⟨A, hAe⟩ : ∃ A, A = va_A (wX6 ct a f) s.heap.size := ⟨_, rfl⟩
  rw [← hAe] at hD
  have hA : ∀ q : Nat, s.heap.size ≤ q → A q := fun q h => by rw [hAe]; exact Or.inr h
  have hS : va_S A s.heap s.heap [] := va_S.rf
  rw [f_X6_deliver] at h
  refine lv_aload_n hx hb dX6_deliver_0 rfl (lv_at hl 0 rfl) ?_
  refine z_get (C := RX6) (T := TX6) (N := 2) (ci := 5) hx hb hts zin_X6 hown hK.1 hP 0 0 rfl rfl (by decide) tw64 rfl rfl dX6_deliver_1 ?_
  refine lv_iload_n hx hb dX6_deliver_4 rfl (lv_at hl 1 rfl) ?_
  refine lv_iconst (v := (5 : Int32)) hx hb dX6_deliver_5 (by decide) ?_
  refine lv_iconst (v := (3 : Int32)) hx hb dX6_deliver_6 (by decide) ?_
  obtain ⟨f1, hc, h⟩ := zb1_s h
  refine zG_v (w1 := wX5 ct a f1) (ws' := wX6 ct a f1) hP hD hS hA [2, 3] [0, 1] [0, 1, 2, 3] rfl rfl (by decide) (by decide) rfl (by decide) (zrV (C := RX5) (As := [.int p1, .int (5 : Int32), .int (3 : Int32)]) (rest := []) hx hb hml hown hts tw286 mv_X5_setBlockCell ⟨Nat.le_of_ble_eq_true rfl, Nat.le_of_ble_eq_true rfl⟩ rfl rfl (ct_X5_setBlockCell l D ct a f _ p1 (5 : Int32) (3 : Int32) k f1 hc) (z_wv hK hP hD [2, 3] (by decide) rfl 2 rfl rfl) hl.1 rfl rfl (Nat.le_of_ble_eq_true rfl) dX6_deliver_7 ⟨Nat.le_refl _, Nat.le_refl _⟩) (fun H locs hP hD hS => ?_)
  refine lv_aload_n hx hb dX6_deliver_10 rfl (lv_at hl 0 rfl) ?_
  refine z_get (C := RX6) (T := TX6) (N := 2) (ci := 5) hx hb hts zin_X6 hown hK.1 hP 0 0 rfl rfl (by decide) tw64 rfl rfl dX6_deliver_11 ?_
  refine lv_iload_n hx hb dX6_deliver_14 rfl (lv_at hl 1 rfl) ?_
  refine lv_bipush (v := (9 : Int32)) hx hb dX6_deliver_15 (by decide) ?_
  refine lv_bipush (v := (-6 : Int32)) hx hb dX6_deliver_17 (by decide) ?_
  obtain ⟨f2, hc, h⟩ := zb1_s h
  refine zG_v (w1 := wX5 ct a f2) (ws' := wX6 ct a f2) hP hD hS hA [2, 3] [0, 1] [0, 1, 2, 3] rfl rfl (by decide) (by decide) rfl (by decide) (zrV (C := RX5) (As := [.int p1, .int (9 : Int32), .int (-6 : Int32)]) (rest := []) hx hb hml hown hts tw286 mv_X5_setBlockCell ⟨Nat.le_of_ble_eq_true rfl, Nat.le_of_ble_eq_true rfl⟩ rfl rfl (ct_X5_setBlockCell l D ct a f1 _ p1 (9 : Int32) (-6 : Int32) k f2 hc) (z_wv hK hP hD [2, 3] (by decide) rfl 2 rfl rfl) hl.1 rfl rfl (Nat.le_of_ble_eq_true rfl) dX6_deliver_19 ⟨Nat.le_refl _, Nat.le_refl _⟩) (fun H locs hP hD hS => ?_)
  refine lv_aload_n hx hb dX6_deliver_22 rfl (lv_at hl 0 rfl) ?_
  refine z_get (C := RX6) (T := TX6) (N := 2) (ci := 5) hx hb hts zin_X6 hown hK.1 hP 0 0 rfl rfl (by decide) tw64 rfl rfl dX6_deliver_23 ?_
  refine lv_iload_n hx hb dX6_deliver_26 rfl (lv_at hl 1 rfl) ?_
  refine lv_bipush (v := (8 : Int32)) hx hb dX6_deliver_27 (by decide) ?_
  obtain ⟨v3, hc, h⟩ := zb1_s h
  refine zE_i (zrV (C := RX5) (As := [.int p1, .int (8 : Int32)]) (rest := []) hx hb hml hown hts tw309 mv_X5_blockCell ⟨Nat.le_of_ble_eq_true rfl, Nat.le_of_ble_eq_true rfl⟩ rfl rfl (ct_X5_blockCell l D ct a f2 p1 (8 : Int32) k v3 hc) (z_pv hK hP [2, 3] rfl 2 rfl rfl) hl.1 rfl rfl (Nat.le_of_ble_eq_true rfl) dX6_deliver_29 ⟨Nat.le_refl _, Nat.le_refl _⟩) ?_
  refine lv_istore_n (lv' := [(2, .int v3), (0, .ref (a 1)), (1, .int p1)]) hx hb dX6_deliver_32 rfl hl (by decide) rfl (fun ls hl => ?_)
  refine lv_iload_n hx hb dX6_deliver_33 rfl (lv_at hl 0 rfl) ?_
  refine lv_bipush (v := (-6 : Int32)) hx hb dX6_deliver_34 (by decide) ?_
  refine zc_ne (tgt := 41) hx hb dX6_deliver_36 (by decide) h (fun h => ?_) (fun h => ?_)
  · refine lv_aload_n hx hb dX6_deliver_41 rfl (lv_at hl 1 rfl) ?_
    refine z_get (C := RX6) (T := TX6) (N := 2) (ci := 5) hx hb hts zin_X6 hown hK.1 hP 0 0 rfl rfl (by decide) tw64 rfl rfl dX6_deliver_42 ?_
    refine lv_iconst (v := (1 : Int32)) hx hb dX6_deliver_45 (by decide) ?_
    obtain ⟨v4, hc, h⟩ := zb1_s h
    refine zE_i (zrV (C := RX5) (As := [.int (1 : Int32)]) (rest := []) hx hb hml hown hts tw280 mv_X5_cell ⟨Nat.le_of_ble_eq_true rfl, Nat.le_of_ble_eq_true rfl⟩ rfl rfl (ct_X5_cell l D ct a f2 (1 : Int32) k v4 hc) (z_pv hK hP [2, 3] rfl 2 rfl rfl) hl.1 rfl rfl (Nat.le_of_ble_eq_true rfl) dX6_deliver_46 ⟨Nat.le_refl _, Nat.le_refl _⟩) ?_
    refine lv_aload_n hx hb dX6_deliver_49 rfl (lv_at hl 1 rfl) ?_
    refine z_get (C := RX6) (T := TX6) (N := 2) (ci := 5) hx hb hts zin_X6 hown hK.1 hP 0 0 rfl rfl (by decide) tw64 rfl rfl dX6_deliver_50 ?_
    refine lv_iload_n hx hb dX6_deliver_53 rfl (lv_at hl 2 rfl) ?_
    refine lv_iconst (v := (4 : Int32)) hx hb dX6_deliver_54 (by decide) ?_
    obtain ⟨v5, hc, h⟩ := zb1_s h
    refine zE_i (zrV (C := RX5) (As := [.int p1, .int (4 : Int32)]) (rest := [.int v4]) hx hb hml hown hts tw309 mv_X5_blockCell ⟨Nat.le_of_ble_eq_true rfl, Nat.le_of_ble_eq_true rfl⟩ rfl rfl (ct_X5_blockCell l D ct a f2 p1 (4 : Int32) k v5 hc) (z_pv hK hP [2, 3] rfl 2 rfl rfl) hl.1 rfl rfl (Nat.le_of_ble_eq_true rfl) dX6_deliver_55 ⟨Nat.le_refl _, Nat.le_refl _⟩) ?_
    refine lv_bipush (v := (99 : Int32)) hx hb dX6_deliver_58 (by decide) ?_
    refine o_iadd hx hb dX6_deliver_60 h (fun v6 h => ?_)
    refine lv_bipush (v := (100 : Int32)) hx hb dX6_deliver_61 (by decide) ?_
    refine o_idiv hx hb dX6_deliver_63 (by decide) h (fun v7 h => ?_)
    refine o_imul hx hb dX6_deliver_64 h (fun v8 h => ?_)
    refine lv_istore_n (lv' := [(3, .int v8), (2, .int v3), (0, .ref (a 1)), (1, .int p1)]) hx hb dX6_deliver_65 rfl hl (by decide) rfl (fun ls hl => ?_)
    refine lv_aload_n hx hb dX6_deliver_66 rfl (lv_at hl 2 rfl) ?_
    refine z_get (C := RX6) (T := TX6) (N := 2) (ci := 5) hx hb hts zin_X6 hown hK.1 hP 0 0 rfl rfl (by decide) tw64 rfl rfl dX6_deliver_67 ?_
    refine lv_iload_n hx hb dX6_deliver_70 rfl (lv_at hl 1 rfl) ?_
    refine lv_iconst (v := (3 : Int32)) hx hb dX6_deliver_71 (by decide) ?_
    refine lv_iconst (v := (2 : Int32)) hx hb dX6_deliver_72 (by decide) ?_
    obtain ⟨f9, hc, h⟩ := zb1_s h
    refine zG_v (w1 := wX5 ct a f9) (ws' := wX6 ct a f9) hP hD hS hA [2, 3] [0, 1] [0, 1, 2, 3] rfl rfl (by decide) (by decide) rfl (by decide) (zrV (C := RX5) (As := [.int v3, .int (3 : Int32), .int (2 : Int32)]) (rest := []) hx hb hml hown hts tw350 mv_X5_setOrderCell ⟨Nat.le_of_ble_eq_true rfl, Nat.le_of_ble_eq_true rfl⟩ rfl rfl (ct_X5_setOrderCell l D ct a f2 _ v3 (3 : Int32) (2 : Int32) k f9 hc) (z_wv hK hP hD [2, 3] (by decide) rfl 2 rfl rfl) hl.1 rfl rfl (Nat.le_of_ble_eq_true rfl) dX6_deliver_73 ⟨Nat.le_refl _, Nat.le_refl _⟩) (fun H locs hP hD hS => ?_)
    refine lv_aload_n hx hb dX6_deliver_76 rfl (lv_at hl 2 rfl) ?_
    refine z_get (C := RX6) (T := TX6) (N := 2) (ci := 5) hx hb hts zin_X6 hown hK.1 hP 0 0 rfl rfl (by decide) tw64 rfl rfl dX6_deliver_77 ?_
    refine lv_iload_n hx hb dX6_deliver_80 rfl (lv_at hl 1 rfl) ?_
    refine lv_iconst (v := (5 : Int32)) hx hb dX6_deliver_81 (by decide) ?_
    refine lv_iload_n hx hb dX6_deliver_82 rfl (lv_at hl 0 rfl) ?_
    obtain ⟨f10, hc, h⟩ := zb1_s h
    refine zG_v (w1 := wX5 ct a f10) (ws' := wX6 ct a f10) hP hD hS hA [2, 3] [0, 1] [0, 1, 2, 3] rfl rfl (by decide) (by decide) rfl (by decide) (zrV (C := RX5) (As := [.int v3, .int (5 : Int32), .int v8]) (rest := []) hx hb hml hown hts tw350 mv_X5_setOrderCell ⟨Nat.le_of_ble_eq_true rfl, Nat.le_of_ble_eq_true rfl⟩ rfl rfl (ct_X5_setOrderCell l D ct a f9 _ v3 (5 : Int32) v8 k f10 hc) (z_wv hK hP hD [2, 3] (by decide) rfl 2 rfl rfl) hl.1 rfl rfl (Nat.le_of_ble_eq_true rfl) dX6_deliver_83 ⟨Nat.le_refl _, Nat.le_refl _⟩) (fun H locs hP hD hS => ?_)
    refine lv_iload_n hx hb dX6_deliver_86 rfl (lv_at hl 0 rfl) ?_
    cases h
    exact zX_i hx hb hr hlocks hP hD hS hAe dX6_deliver_87 rfl
  · refine lv_iconst (v := (0 : Int32)) hx hb dX6_deliver_39 (by decide) ?_
    cases h
    exact zX_i hx hb hr hlocks hP hD hS hAe dX6_deliver_40 rfl

def f_X6_sendLorry_b37 (k : Nat) (p1 : Int32)  : Nat → (Nat → Int32) → Int32 → Int32 → Int32 → Option (Int32 × (Nat → Int32))
  | 0, _, _, _, _ => none
  | n + 1, f_, x2, x3, x4 =>
    if (24 : Int32) ≤ x4 then
      zb1 (f_X5_lorryCell k f_ p1 (3 : Int32)) fun v4 =>
      zl (v4 + (1 : Int32)) fun v5 =>
      zb1 (f_X5_setLorryCell k f_ p1 (3 : Int32) v5) fun f6 =>
      some (x3, f6)
    else
      zl (x2 >>> (x4 &&& 31)) fun v7 =>
      zl (v7 &&& (1 : Int32)) fun v8 =>
      if v8 = (1 : Int32) then
        zb2 (f_X6_deliver k f_ x4) fun v10 f11 =>
        zl (x3 + v10) fun v12 =>
        zl (x4 + (1 : Int32)) fun v13 =>
        f_X6_sendLorry_b37 k p1 n f11 x2 v12 v13
      else
        zl (x4 + (1 : Int32)) fun v9 =>
        f_X6_sendLorry_b37 k p1 n f_ x2 x3 v9
def f_X6_sendLorry (k : Nat) (f : Nat → Int32) (p1 : Int32) : Option (Int32 × (Nat → Int32)) :=
  zb1 (f_X7_isLorry k p1) fun v1 =>
  if v1 = 0 then
    some ((-1 : Int32), f)
  else
    zb1 (f_X1_reasonToStay k f p1) fun v2 =>
    if v2 = 0 then
      zb1 (f_X1_blocksOn k f p1) fun v3 =>
      f_X6_sendLorry_b37 k p1 k f v3 (0 : Int32) (0 : Int32)
    else
      some ((-5 : Int32), f)
set_option maxRecDepth 100000 in
set_option maxHeartbeats 4000000 in
theorem ct_X6_sendLorry (l : Launch) (D : va_G) (ct a : Nat → Nat) (f : Nat → Int32) (sz : Nat) (p1 : Int32) (k : Nat) (r : Int32) (f' : Nat → Int32) (h : f_X6_sendLorry k f p1 = some (r, f')) : Met l yX6_sendLorry (Cond.code yX6_sendLorry cX6_sendLorry 5 (some .int) :: zT) ({ frames := 4, cells := 0, slots := 0, locals := 97 } : Room) (va_Pc [.ref (a 1), .int p1] (zPW D (zTys ct) (wX6 ct a f) sz)) (va_Qi (fun r' (_ : Unit) => r' = r) (zQW D (wX6 ct a f) sz (wX6 ct a f')) (va_A (wX6 ct a f) sz)) 0 0 (va_A (wX6 ct a f) sz) := by
  refine zMet (cc := cX6_sendLorry) (maxL := 5) (ret := (some .int)) (av := [.ref (a 1), .int p1]) (by decide) (Nat.le_of_ble_eq_true rfl) (fun p e s m below meth c ls hx hb hr hml hts hown hlocks hin hB hl => ?_)
  have hl : lv_has ls 5 [(0, .ref (a 1)), (1, .int p1)] := hl
  have hown : s.vm.findClass RX6 = some m.cls := hown
  obtain ⟨hsz, hP, hK, hD0⟩ := hB
  subst hsz
  have hD := hD0.self (sz := s.heap.size)
  obtain ⟨A, hAe⟩ : ∃ A, A = va_A (wX6 ct a f) s.heap.size := ⟨_, rfl⟩
  rw [← hAe] at hD
  have hA : ∀ q : Nat, s.heap.size ≤ q → A q := fun q h => by rw [hAe]; exact Or.inr h
  have hS : va_S A s.heap s.heap [] := va_S.rf
  have B37 : ∀ (n : Nat), ∀ (f_ : Nat → Int32) (x2 : Int32) (x3 : Int32) (x4 : Int32), f_X6_sendLorry_b37 k p1 n f_ x2 x3 x4 = some (r, f') → ∀ (H : Heap) (locs : List Loc), va_P D vwCl (wX6 ct a f_) H → va_D A (wX6 ct a f_) → va_S A s.heap H locs → ∀ (ls : Array Slot), lv_has ls 5 [(0, .ref (a 1)), (1, .int p1), (2, .int x2), (3, .int x3), (4, .int x4)] → W p l e ({ frames := 4, cells := 0, slots := 0, locals := 97 } : Room) s m ([.ref (a 1), .int p1] : List Value).toArray below meth c H locs 0 0 (MQ below (va_Qi (fun r' (_ : Unit) => r' = r) (zQW D (wX6 ct a f) s.heap.size (wX6 ct a f')) (va_A (wX6 ct a f) s.heap.size)) ([.ref (a 1), .int p1] : List Value).toArray s 0 0 (va_A (wX6 ct a f) s.heap.size)) (F0 m 37 ls []) := by
    intro n
    induction n with
    | zero => intro f_ x2 x3 x4 h; exact absurd h (by rw [f_X6_sendLorry_b37]; exact fun q => nomatch q)
    | succ n ih37 =>
      intro f_ x2 x3 x4 h H locs hP hD hS ls hl
      rw [f_X6_sendLorry_b37] at h
      refine lv_iload hx hb dX6_sendLorry_37 (lv_at hl 4 rfl) ?_
      refine lv_bipush (v := (24 : Int32)) hx hb dX6_sendLorry_39 (by decide) ?_
      refine zc_ge (tgt := 69) hx hb dX6_sendLorry_41 (by decide) h (fun h => ?_) (fun h => ?_)
      · refine lv_aload_n hx hb dX6_sendLorry_69 rfl (lv_at hl 0 rfl) ?_
        refine z_get (C := RX6) (T := TX6) (N := 2) (ci := 5) hx hb hts zin_X6 hown hK.1 hP 0 0 rfl rfl (by decide) tw64 rfl rfl dX6_sendLorry_70 ?_
        refine lv_iload_n hx hb dX6_sendLorry_73 rfl (lv_at hl 1 rfl) ?_
        refine lv_iconst (v := (3 : Int32)) hx hb dX6_sendLorry_74 (by decide) ?_
        refine lv_aload_n hx hb dX6_sendLorry_75 rfl (lv_at hl 0 rfl) ?_
        refine z_get (C := RX6) (T := TX6) (N := 2) (ci := 5) hx hb hts zin_X6 hown hK.1 hP 0 0 rfl rfl (by decide) tw64 rfl rfl dX6_sendLorry_76 ?_
        refine lv_iload_n hx hb dX6_sendLorry_79 rfl (lv_at hl 1 rfl) ?_
        refine lv_iconst (v := (3 : Int32)) hx hb dX6_sendLorry_80 (by decide) ?_
        obtain ⟨v4, hc, h⟩ := zb1_s h
        refine zE_i (zrV (C := RX5) (As := [.int p1, .int (3 : Int32)]) (rest := [.int (3 : Int32), .int p1, .ref (a 3)]) hx hb hml hown hts tw482 mv_X5_lorryCell ⟨Nat.le_of_ble_eq_true rfl, Nat.le_of_ble_eq_true rfl⟩ rfl rfl (ct_X5_lorryCell l D ct a f_ p1 (3 : Int32) k v4 hc) (z_pv hK hP [2, 3] rfl 2 rfl rfl) hl.1 rfl rfl (Nat.le_of_ble_eq_true rfl) dX6_sendLorry_81 ⟨Nat.le_refl _, Nat.le_refl _⟩) ?_
        refine lv_iconst (v := (1 : Int32)) hx hb dX6_sendLorry_84 (by decide) ?_
        refine o_iadd hx hb dX6_sendLorry_85 h (fun v5 h => ?_)
        obtain ⟨f6, hc, h⟩ := zb1_s h
        refine zG_v (w1 := wX5 ct a f6) (ws' := wX6 ct a f6) hP hD hS hA [2, 3] [0, 1] [0, 1, 2, 3] rfl rfl (by decide) (by decide) rfl (by decide) (zrV (C := RX5) (As := [.int p1, .int (3 : Int32), .int v5]) (rest := []) hx hb hml hown hts tw419 mv_X5_setLorryCell ⟨Nat.le_of_ble_eq_true rfl, Nat.le_of_ble_eq_true rfl⟩ rfl rfl (ct_X5_setLorryCell l D ct a f_ _ p1 (3 : Int32) v5 k f6 hc) (z_wv hK hP hD [2, 3] (by decide) rfl 2 rfl rfl) hl.1 rfl rfl (Nat.le_of_ble_eq_true rfl) dX6_sendLorry_86 ⟨Nat.le_refl _, Nat.le_refl _⟩) (fun H locs hP hD hS => ?_)
        refine lv_iload_n hx hb dX6_sendLorry_89 rfl (lv_at hl 3 rfl) ?_
        cases h
        exact zX_i hx hb hr hlocks hP hD hS hAe dX6_sendLorry_90 rfl
      · refine lv_iload_n hx hb dX6_sendLorry_44 rfl (lv_at hl 2 rfl) ?_
        refine lv_iload hx hb dX6_sendLorry_45 (lv_at hl 4 rfl) ?_
        refine o_ishr hx hb dX6_sendLorry_47 h (fun v7 h => ?_)
        refine lv_iconst (v := (1 : Int32)) hx hb dX6_sendLorry_48 (by decide) ?_
        refine o_iand hx hb dX6_sendLorry_49 h (fun v8 h => ?_)
        refine lv_iconst (v := (1 : Int32)) hx hb dX6_sendLorry_50 (by decide) ?_
        refine zc_ne (tgt := 63) hx hb dX6_sendLorry_51 (by decide) h (fun h => ?_) (fun h => ?_)
        · refine o_nm h (fun v9 ey h => ?_)
          refine lv_iinc (v := v9) (lv' := [(4, .int v9), (0, .ref (a 1)), (1, .int p1), (2, .int x2), (3, .int x3)]) hx hb dX6_sendLorry_63 hl (k := 4) rfl (Eq.trans rfl ey) (by decide) rfl (fun ls hl => ?_)
          refine lv_goto (tgt := 37) hx hb dX6_sendLorry_66 (by decide) ?_
          exact ih37 f_ x2 x3 v9 h _ _ hP hD hS ls (lv_sub hl [1, 2, 3, 4, 0] rfl)
        · refine lv_iload_n hx hb dX6_sendLorry_54 rfl (lv_at hl 3 rfl) ?_
          refine lv_aload_n hx hb dX6_sendLorry_55 rfl (lv_at hl 0 rfl) ?_
          refine lv_iload hx hb dX6_sendLorry_56 (lv_at hl 4 rfl) ?_
          obtain ⟨v10, f11, hc, h⟩ := zb2_s h
          refine zG_i (w1 := wX6 ct a f11) (ws' := wX6 ct a f11) hP hD hS hA [0, 1, 2, 3] [] [0, 1, 2, 3] rfl rfl (by decide) (by decide) rfl (by decide) (zrV (C := RX6) (As := [.int x4]) (rest := [.int x3]) hx hb hml hown hts tw478 mv_X6_deliver ⟨Nat.le_of_ble_eq_true rfl, Nat.le_of_ble_eq_true rfl⟩ rfl rfl (ct_X6_deliver l D ct a f_ _ x4 k v10 f11 hc) (z_wv hK hP hD [0, 1, 2, 3] (by decide) rfl 0 rfl rfl) hl.1 rfl rfl (Nat.le_of_ble_eq_true rfl) dX6_sendLorry_58 ⟨Nat.le_refl _, Nat.le_refl _⟩) (fun H locs hP hD hS => ?_)
          refine o_iadd hx hb dX6_sendLorry_61 h (fun v12 h => ?_)
          refine lv_istore_n (lv' := [(3, .int v12), (0, .ref (a 1)), (1, .int p1), (2, .int x2), (4, .int x4)]) hx hb dX6_sendLorry_62 rfl hl (by decide) rfl (fun ls hl => ?_)
          refine o_nm h (fun v13 ey h => ?_)
          refine lv_iinc (v := v13) (lv' := [(4, .int v13), (3, .int v12), (0, .ref (a 1)), (1, .int p1), (2, .int x2)]) hx hb dX6_sendLorry_63 hl (k := 4) rfl (Eq.trans rfl ey) (by decide) rfl (fun ls hl => ?_)
          refine lv_goto (tgt := 37) hx hb dX6_sendLorry_66 (by decide) ?_
          exact ih37 f11 x2 v12 v13 h _ _ hP hD hS ls (lv_sub hl [2, 3, 4, 1, 0] rfl)
  rw [f_X6_sendLorry] at h
  refine lv_iload_n hx hb dX6_sendLorry_0 rfl (lv_at hl 1 rfl) ?_
  obtain ⟨v1, hc, h⟩ := zb1_s h
  refine zE_i (zrN (As := [.int p1]) (rest := []) hx hb hml hown hts (nw413 hK.2) ms_X7_isLorry ⟨Nat.le_of_ble_eq_true rfl, Nat.le_of_ble_eq_true rfl⟩ rfl rfl (ct_X7_isLorry l p1 k v1 hc) z_p0 hl.1 rfl rfl (Nat.le_of_ble_eq_true rfl) dX6_sendLorry_1 ⟨Nat.le_refl _, Nat.le_refl _⟩) ?_
  refine zi_ne (tgt := 9) hx hb dX6_sendLorry_4 (by decide) h (fun h => ?_) (fun h => ?_)
  · refine lv_aload_n hx hb dX6_sendLorry_9 rfl (lv_at hl 0 rfl) ?_
    refine z_get (C := RX6) (T := TX6) (N := 2) (ci := 5) hx hb hts zin_X6 hown hK.1 hP 0 1 rfl rfl (by decide) tw65 rfl rfl dX6_sendLorry_10 ?_
    refine lv_iload_n hx hb dX6_sendLorry_13 rfl (lv_at hl 1 rfl) ?_
    obtain ⟨v2, hc, h⟩ := zb1_s h
    refine zE_i (zrV (C := RX1) (As := [.int p1]) (rest := []) hx hb hml hown hts tw456 mv_X1_reasonToStay ⟨Nat.le_of_ble_eq_true rfl, Nat.le_of_ble_eq_true rfl⟩ rfl rfl (ct_X1_reasonToStay l D ct a f p1 k v2 hc) (z_pv hK hP [1, 2, 3] rfl 1 rfl rfl) hl.1 rfl rfl (Nat.le_of_ble_eq_true rfl) dX6_sendLorry_14 ⟨Nat.le_refl _, Nat.le_refl _⟩) ?_
    refine zi_eq (tgt := 23) hx hb dX6_sendLorry_17 (by decide) h (fun h => ?_) (fun h => ?_)
    · refine lv_aload_n hx hb dX6_sendLorry_23 rfl (lv_at hl 0 rfl) ?_
      refine z_get (C := RX6) (T := TX6) (N := 2) (ci := 5) hx hb hts zin_X6 hown hK.1 hP 0 1 rfl rfl (by decide) tw65 rfl rfl dX6_sendLorry_24 ?_
      refine lv_iload_n hx hb dX6_sendLorry_27 rfl (lv_at hl 1 rfl) ?_
      obtain ⟨v3, hc, h⟩ := zb1_s h
      refine zE_i (zrV (C := RX1) (As := [.int p1]) (rest := []) hx hb hml hown hts tw477 mv_X1_blocksOn ⟨Nat.le_of_ble_eq_true rfl, Nat.le_of_ble_eq_true rfl⟩ rfl rfl (ct_X1_blocksOn l D ct a f p1 k v3 hc) (z_pv hK hP [1, 2, 3] rfl 1 rfl rfl) hl.1 rfl rfl (Nat.le_of_ble_eq_true rfl) dX6_sendLorry_28 ⟨Nat.le_refl _, Nat.le_refl _⟩) ?_
      refine lv_istore_n (lv' := [(2, .int v3), (0, .ref (a 1)), (1, .int p1)]) hx hb dX6_sendLorry_31 rfl hl (by decide) rfl (fun ls hl => ?_)
      refine lv_iconst (v := (0 : Int32)) hx hb dX6_sendLorry_32 (by decide) ?_
      refine lv_istore_n (lv' := [(3, .int (0 : Int32)), (2, .int v3), (0, .ref (a 1)), (1, .int p1)]) hx hb dX6_sendLorry_33 rfl hl (by decide) rfl (fun ls hl => ?_)
      refine lv_iconst (v := (0 : Int32)) hx hb dX6_sendLorry_34 (by decide) ?_
      refine lv_istore (lv' := [(4, .int (0 : Int32)), (3, .int (0 : Int32)), (2, .int v3), (0, .ref (a 1)), (1, .int p1)]) hx hb dX6_sendLorry_35 hl (by decide) rfl (fun ls hl => ?_)
      exact B37 k f v3 (0 : Int32) (0 : Int32) h _ _ hP hD hS ls (lv_sub hl [3, 4, 2, 1, 0] rfl)
    · refine lv_bipush (v := (-5 : Int32)) hx hb dX6_sendLorry_20 (by decide) ?_
      cases h
      exact zX_i hx hb hr hlocks hP hD hS hAe dX6_sendLorry_22 rfl
  · refine lv_iconst (v := (-1 : Int32)) hx hb dX6_sendLorry_7 (by decide) ?_
    cases h
    exact zX_i hx hb hr hlocks hP hD hS hAe dX6_sendLorry_8 rfl

def f_X1_blocksForFrost (k : Nat) (f : Nat → Int32) : Option (Int32) :=
  zb1 (f_X5_blocksWith k f (5 : Int32) (0 : Int32)) fun v1 =>
  zb1 (f_X5_blocksWith k f (6 : Int32) (0 : Int32)) fun v2 =>
  zl (v2 ^^^ (-1 : Int32)) fun v3 =>
  zl (v1 &&& v3) fun v4 =>
  some v4
set_option maxRecDepth 100000 in
set_option maxHeartbeats 4000000 in
theorem ct_X1_blocksForFrost (l : Launch) (D : va_G) (ct a : Nat → Nat) (f : Nat → Int32) (k : Nat) (r : Int32) (h : f_X1_blocksForFrost k f = some r) : Met l yX1_blocksForFrost (Cond.code yX1_blocksForFrost cX1_blocksForFrost 1 (some .int) :: zT) ({ frames := 2, cells := 0, slots := 0, locals := 48 } : Room) (va_Pc [.ref (a 2)] (zPR D (zTys ct) (wX1 ct a f))) (vp_Si (fun r' => r' = r)) 0 0 (fun _ => False) := by
  refine zMet (cc := cX1_blocksForFrost) (maxL := 1) (ret := (some .int)) (av := [.ref (a 2)]) (by decide) (Nat.le_of_ble_eq_true rfl) (fun p e s m below meth c ls hx hb hr hml hts hown hlocks hin hB hl => ?_)
  have hl : lv_has ls 1 [(0, .ref (a 2))] := hl
  have hown : s.vm.findClass RX1 = some m.cls := hown
  obtain ⟨hP, hK⟩ := hB
  rw [f_X1_blocksForFrost] at h
  refine lv_aload_n hx hb dX1_blocksForFrost_0 rfl (lv_at hl 0 rfl) ?_
  refine z_get (C := RX1) (T := TX1) (N := 1) (ci := 0) hx hb hts zin_X1 hown hK.1 hP 0 0 rfl rfl (by decide) tw54 rfl rfl dX1_blocksForFrost_1 ?_
  refine lv_iconst (v := (5 : Int32)) hx hb dX1_blocksForFrost_4 (by decide) ?_
  refine lv_iconst (v := (0 : Int32)) hx hb dX1_blocksForFrost_5 (by decide) ?_
  obtain ⟨v1, hc, h⟩ := zb1_s h
  refine zE_i (zrV (C := RX5) (As := [.int (5 : Int32), .int (0 : Int32)]) (rest := []) hx hb hml hown hts tw174 mv_X5_blocksWith ⟨Nat.le_of_ble_eq_true rfl, Nat.le_of_ble_eq_true rfl⟩ rfl rfl (ct_X5_blocksWith l D ct a f (5 : Int32) (0 : Int32) k v1 hc) (z_pv hK hP [1, 2] rfl 1 rfl rfl) hl.1 rfl rfl (Nat.le_of_ble_eq_true rfl) dX1_blocksForFrost_6 ⟨Nat.le_refl _, Nat.le_refl _⟩) ?_
  refine lv_aload_n hx hb dX1_blocksForFrost_9 rfl (lv_at hl 0 rfl) ?_
  refine z_get (C := RX1) (T := TX1) (N := 1) (ci := 0) hx hb hts zin_X1 hown hK.1 hP 0 0 rfl rfl (by decide) tw54 rfl rfl dX1_blocksForFrost_10 ?_
  refine lv_bipush (v := (6 : Int32)) hx hb dX1_blocksForFrost_13 (by decide) ?_
  refine lv_iconst (v := (0 : Int32)) hx hb dX1_blocksForFrost_15 (by decide) ?_
  obtain ⟨v2, hc, h⟩ := zb1_s h
  refine zE_i (zrV (C := RX5) (As := [.int (6 : Int32), .int (0 : Int32)]) (rest := [.int v1]) hx hb hml hown hts tw174 mv_X5_blocksWith ⟨Nat.le_of_ble_eq_true rfl, Nat.le_of_ble_eq_true rfl⟩ rfl rfl (ct_X5_blocksWith l D ct a f (6 : Int32) (0 : Int32) k v2 hc) (z_pv hK hP [1, 2] rfl 1 rfl rfl) hl.1 rfl rfl (Nat.le_of_ble_eq_true rfl) dX1_blocksForFrost_16 ⟨Nat.le_refl _, Nat.le_refl _⟩) ?_
  refine lv_iconst (v := (-1 : Int32)) hx hb dX1_blocksForFrost_19 (by decide) ?_
  refine o_ixor hx hb dX1_blocksForFrost_20 h (fun v3 h => ?_)
  refine o_iand hx hb dX1_blocksForFrost_21 h (fun v4 h => ?_)
  exact zR_i hx hb hr hlocks dX1_blocksForFrost_22 h

def f_X6_crackBlocks_b21 (k : Nat)   : Nat → (Nat → Int32) → Int32 → Int32 → Option (Int32 × (Nat → Int32))
  | 0, _, _, _ => none
  | n + 1, f_, x1, x2 =>
    if (24 : Int32) ≤ x2 then
      zb1 (f_J6_bitCount_0f7a4 k x1) fun v4 =>
      some (v4, f_)
    else
      zl (x1 >>> (x2 &&& 31)) fun v5 =>
      zl (v5 &&& (1 : Int32)) fun v6 =>
      if v6 = (1 : Int32) then
        zb1 (f_X5_setBlockCell k f_ x2 (7 : Int32) (1 : Int32)) fun f8 =>
        zl (x2 + (1 : Int32)) fun v9 =>
        f_X6_crackBlocks_b21 k n f8 x1 v9
      else
        zl (x2 + (1 : Int32)) fun v7 =>
        f_X6_crackBlocks_b21 k n f_ x1 v7
def f_X6_crackBlocks (k : Nat) (f : Nat → Int32) : Option (Int32 × (Nat → Int32)) :=
  zb1 (f_X1_blocksForFrost k f) fun v1 =>
  zb1 (f_X5_blocksWith k f (7 : Int32) (0 : Int32)) fun v2 =>
  zl (v1 &&& v2) fun v3 =>
  f_X6_crackBlocks_b21 k k f v3 (0 : Int32)
set_option maxRecDepth 100000 in
set_option maxHeartbeats 4000000 in
theorem ct_X6_crackBlocks (l : Launch) (D : va_G) (ct a : Nat → Nat) (f : Nat → Int32) (sz : Nat) (k : Nat) (r : Int32) (f' : Nat → Int32) (h : f_X6_crackBlocks k f = some (r, f')) : Met l yX6_crackBlocks (Cond.code yX6_crackBlocks cX6_crackBlocks 3 (some .int) :: zT) ({ frames := 3, cells := 0, slots := 0, locals := 68 } : Room) (va_Pc [.ref (a 1)] (zPW D (zTys ct) (wX6 ct a f) sz)) (va_Qi (fun r' (_ : Unit) => r' = r) (zQW D (wX6 ct a f) sz (wX6 ct a f')) (va_A (wX6 ct a f) sz)) 0 0 (va_A (wX6 ct a f) sz) := by
  refine zMet (cc := cX6_crackBlocks) (maxL := 3) (ret := (some .int)) (av := [.ref (a 1)]) (by decide) (Nat.le_of_ble_eq_true rfl) (fun p e s m below meth c ls hx hb hr hml hts hown hlocks hin hB hl => ?_)
  have hl : lv_has ls 3 [(0, .ref (a 1))] := hl
  have hown : s.vm.findClass RX6 = some m.cls := hown
  obtain ⟨hsz, hP, hK, hD0⟩ := hB
  subst hsz
  have hD := hD0.self (sz := s.heap.size)
  obtain ⟨A, hAe⟩ : ∃ A, A = va_A (wX6 ct a f) s.heap.size := ⟨_, rfl⟩
  rw [← hAe] at hD
  have hA : ∀ q : Nat, s.heap.size ≤ q → A q := fun q h => by rw [hAe]; exact Or.inr h
  have hS : va_S A s.heap s.heap [] := va_S.rf
  have B21 : ∀ (n : Nat), ∀ (f_ : Nat → Int32) (x1 : Int32) (x2 : Int32), f_X6_crackBlocks_b21 k n f_ x1 x2 = some (r, f') → ∀ (H : Heap) (locs : List Loc), va_P D vwCl (wX6 ct a f_) H → va_D A (wX6 ct a f_) → va_S A s.heap H locs → ∀ (ls : Array Slot), lv_has ls 3 [(0, .ref (a 1)), (1, .int x1), (2, .int x2)] → W p l e ({ frames := 3, cells := 0, slots := 0, locals := 68 } : Room) s m ([.ref (a 1)] : List Value).toArray below meth c H locs 0 0 (MQ below (va_Qi (fun r' (_ : Unit) => r' = r) (zQW D (wX6 ct a f) s.heap.size (wX6 ct a f')) (va_A (wX6 ct a f) s.heap.size)) ([.ref (a 1)] : List Value).toArray s 0 0 (va_A (wX6 ct a f) s.heap.size)) (F0 m 21 ls []) := by
    intro n
    induction n with
    | zero => intro f_ x1 x2 h; exact absurd h (by rw [f_X6_crackBlocks_b21]; exact fun q => nomatch q)
    | succ n ih21 =>
      intro f_ x1 x2 h H locs hP hD hS ls hl
      rw [f_X6_crackBlocks_b21] at h
      refine lv_iload_n hx hb dX6_crackBlocks_21 rfl (lv_at hl 2 rfl) ?_
      refine lv_bipush (v := (24 : Int32)) hx hb dX6_crackBlocks_22 (by decide) ?_
      refine zc_ge (tgt := 53) hx hb dX6_crackBlocks_24 (by decide) h (fun h => ?_) (fun h => ?_)
      · refine lv_iload_n hx hb dX6_crackBlocks_53 rfl (lv_at hl 1 rfl) ?_
        obtain ⟨v4, hc, h⟩ := zb1_s h
        refine zE_i (zrS (As := [.int x1]) (rest := []) hx hb hml hown hts tw500 ms_J6_bitCount_0f7a4 ⟨Nat.le_of_ble_eq_true rfl, Nat.le_of_ble_eq_true rfl⟩ rfl rfl (ct_J6_bitCount_0f7a4 l x1 k v4 hc) z_p0 hl.1 rfl rfl (Nat.le_of_ble_eq_true rfl) dX6_crackBlocks_54 ⟨Nat.le_refl _, Nat.le_refl _⟩) ?_
        cases h
        exact zX_i hx hb hr hlocks hP hD hS hAe dX6_crackBlocks_57 rfl
      · refine lv_iload_n hx hb dX6_crackBlocks_27 rfl (lv_at hl 1 rfl) ?_
        refine lv_iload_n hx hb dX6_crackBlocks_28 rfl (lv_at hl 2 rfl) ?_
        refine o_ishr hx hb dX6_crackBlocks_29 h (fun v5 h => ?_)
        refine lv_iconst (v := (1 : Int32)) hx hb dX6_crackBlocks_30 (by decide) ?_
        refine o_iand hx hb dX6_crackBlocks_31 h (fun v6 h => ?_)
        refine lv_iconst (v := (1 : Int32)) hx hb dX6_crackBlocks_32 (by decide) ?_
        refine zc_ne (tgt := 47) hx hb dX6_crackBlocks_33 (by decide) h (fun h => ?_) (fun h => ?_)
        · refine o_nm h (fun v7 ey h => ?_)
          refine lv_iinc (v := v7) (lv' := [(2, .int v7), (0, .ref (a 1)), (1, .int x1)]) hx hb dX6_crackBlocks_47 hl (k := 2) rfl (Eq.trans rfl ey) (by decide) rfl (fun ls hl => ?_)
          refine lv_goto (tgt := 21) hx hb dX6_crackBlocks_50 (by decide) ?_
          exact ih21 f_ x1 v7 h _ _ hP hD hS ls (lv_sub hl [1, 2, 0] rfl)
        · refine lv_aload_n hx hb dX6_crackBlocks_36 rfl (lv_at hl 0 rfl) ?_
          refine z_get (C := RX6) (T := TX6) (N := 2) (ci := 5) hx hb hts zin_X6 hown hK.1 hP 0 0 rfl rfl (by decide) tw64 rfl rfl dX6_crackBlocks_37 ?_
          refine lv_iload_n hx hb dX6_crackBlocks_40 rfl (lv_at hl 2 rfl) ?_
          refine lv_bipush (v := (7 : Int32)) hx hb dX6_crackBlocks_41 (by decide) ?_
          refine lv_iconst (v := (1 : Int32)) hx hb dX6_crackBlocks_43 (by decide) ?_
          obtain ⟨f8, hc, h⟩ := zb1_s h
          refine zG_v (w1 := wX5 ct a f8) (ws' := wX6 ct a f8) hP hD hS hA [2, 3] [0, 1] [0, 1, 2, 3] rfl rfl (by decide) (by decide) rfl (by decide) (zrV (C := RX5) (As := [.int x2, .int (7 : Int32), .int (1 : Int32)]) (rest := []) hx hb hml hown hts tw286 mv_X5_setBlockCell ⟨Nat.le_of_ble_eq_true rfl, Nat.le_of_ble_eq_true rfl⟩ rfl rfl (ct_X5_setBlockCell l D ct a f_ _ x2 (7 : Int32) (1 : Int32) k f8 hc) (z_wv hK hP hD [2, 3] (by decide) rfl 2 rfl rfl) hl.1 rfl rfl (Nat.le_of_ble_eq_true rfl) dX6_crackBlocks_44 ⟨Nat.le_refl _, Nat.le_refl _⟩) (fun H locs hP hD hS => ?_)
          refine o_nm h (fun v9 ey h => ?_)
          refine lv_iinc (v := v9) (lv' := [(2, .int v9), (0, .ref (a 1)), (1, .int x1)]) hx hb dX6_crackBlocks_47 hl (k := 2) rfl (Eq.trans rfl ey) (by decide) rfl (fun ls hl => ?_)
          refine lv_goto (tgt := 21) hx hb dX6_crackBlocks_50 (by decide) ?_
          exact ih21 f8 x1 v9 h _ _ hP hD hS ls (lv_sub hl [1, 2, 0] rfl)
  rw [f_X6_crackBlocks] at h
  refine lv_aload_n hx hb dX6_crackBlocks_0 rfl (lv_at hl 0 rfl) ?_
  refine z_get (C := RX6) (T := TX6) (N := 2) (ci := 5) hx hb hts zin_X6 hown hK.1 hP 0 1 rfl rfl (by decide) tw65 rfl rfl dX6_crackBlocks_1 ?_
  obtain ⟨v1, hc, h⟩ := zb1_s h
  refine zE_i (zrV (C := RX1) (As := []) (rest := []) hx hb hml hown hts tw495 mv_X1_blocksForFrost ⟨Nat.le_of_ble_eq_true rfl, Nat.le_of_ble_eq_true rfl⟩ rfl rfl (ct_X1_blocksForFrost l D ct a f k v1 hc) (z_pv hK hP [1, 2, 3] rfl 1 rfl rfl) hl.1 rfl rfl (Nat.le_of_ble_eq_true rfl) dX6_crackBlocks_4 ⟨Nat.le_refl _, Nat.le_refl _⟩) ?_
  refine lv_aload_n hx hb dX6_crackBlocks_7 rfl (lv_at hl 0 rfl) ?_
  refine z_get (C := RX6) (T := TX6) (N := 2) (ci := 5) hx hb hts zin_X6 hown hK.1 hP 0 0 rfl rfl (by decide) tw64 rfl rfl dX6_crackBlocks_8 ?_
  refine lv_bipush (v := (7 : Int32)) hx hb dX6_crackBlocks_11 (by decide) ?_
  refine lv_iconst (v := (0 : Int32)) hx hb dX6_crackBlocks_13 (by decide) ?_
  obtain ⟨v2, hc, h⟩ := zb1_s h
  refine zE_i (zrV (C := RX5) (As := [.int (7 : Int32), .int (0 : Int32)]) (rest := [.int v1]) hx hb hml hown hts tw499 mv_X5_blocksWith ⟨Nat.le_of_ble_eq_true rfl, Nat.le_of_ble_eq_true rfl⟩ rfl rfl (ct_X5_blocksWith l D ct a f (7 : Int32) (0 : Int32) k v2 hc) (z_pv hK hP [2, 3] rfl 2 rfl rfl) hl.1 rfl rfl (Nat.le_of_ble_eq_true rfl) dX6_crackBlocks_14 ⟨Nat.le_refl _, Nat.le_refl _⟩) ?_
  refine o_iand hx hb dX6_crackBlocks_17 h (fun v3 h => ?_)
  refine lv_istore_n (lv' := [(1, .int v3), (0, .ref (a 1))]) hx hb dX6_crackBlocks_18 rfl hl (by decide) rfl (fun ls hl => ?_)
  refine lv_iconst (v := (0 : Int32)) hx hb dX6_crackBlocks_19 (by decide) ?_
  refine lv_istore_n (lv' := [(2, .int (0 : Int32)), (1, .int v3), (0, .ref (a 1))]) hx hb dX6_crackBlocks_20 rfl hl (by decide) rfl (fun ls hl => ?_)
  exact B21 k f v3 (0 : Int32) h _ _ hP hD hS ls (lv_sub hl [2, 1, 0] rfl)

def f_X6_dryBlocks_b12 (k : Nat)   : Nat → (Nat → Int32) → Int32 → Int32 → Option ((Nat → Int32))
  | 0, _, _, _ => none
  | n + 1, f_, x1, x2 =>
    if x1 ≤ x2 then
      some f_
    else
      zb1 (f_X5_blockCell k f_ x2 (5 : Int32)) fun v2 =>
      zb1 (f_X5_blockCell k f_ x2 (6 : Int32)) fun v3 =>
      if v3 ≤ 0 then
        zl (x2 + (1 : Int32)) fun v4 =>
        f_X6_dryBlocks_b12 k n f_ x1 v4
      else
        if v2 = (3 : Int32) then
          zl (x2 + (1 : Int32)) fun v5 =>
          f_X6_dryBlocks_b12 k n f_ x1 v5
        else
          if v2 = (4 : Int32) then
            zl (x2 + (1 : Int32)) fun v6 =>
            f_X6_dryBlocks_b12 k n f_ x1 v6
          else
            zl (v3 - (1 : Int32)) fun v7 =>
            zb1 (f_X5_setBlockCell k f_ x2 (6 : Int32) v7) fun f8 =>
            zl (x2 + (1 : Int32)) fun v9 =>
            f_X6_dryBlocks_b12 k n f8 x1 v9
def f_X6_dryBlocks (k : Nat) (f : Nat → Int32) : Option ((Nat → Int32)) :=
  zb1 (f_X5_cell k f (6 : Int32)) fun v1 =>
  f_X6_dryBlocks_b12 k k f v1 (0 : Int32)
set_option maxRecDepth 100000 in
set_option maxHeartbeats 4000000 in
theorem ct_X6_dryBlocks (l : Launch) (D : va_G) (ct a : Nat → Nat) (f : Nat → Int32) (sz : Nat) (k : Nat) (f' : Nat → Int32) (h : f_X6_dryBlocks k f = some f') : Met l yX6_dryBlocks (Cond.code yX6_dryBlocks cX6_dryBlocks 5 none :: zT) ({ frames := 2, cells := 0, slots := 0, locals := 45 } : Room) (va_Pc [.ref (a 1)] (zPW D (zTys ct) (wX6 ct a f) sz)) (va_Qv (fun (_ : Unit) => True) (zQW D (wX6 ct a f) sz (wX6 ct a f')) (va_A (wX6 ct a f) sz)) 0 0 (va_A (wX6 ct a f) sz) := by
  refine zMet (cc := cX6_dryBlocks) (maxL := 5) (ret := none) (av := [.ref (a 1)]) (by decide) (Nat.le_of_ble_eq_true rfl) (fun p e s m below meth c ls hx hb hr hml hts hown hlocks hin hB hl => ?_)
  have hl : lv_has ls 5 [(0, .ref (a 1))] := hl
  have hown : s.vm.findClass RX6 = some m.cls := hown
  obtain ⟨hsz, hP, hK, hD0⟩ := hB
  subst hsz
  have hD := hD0.self (sz := s.heap.size)
  obtain ⟨A, hAe⟩ : ∃ A, A = va_A (wX6 ct a f) s.heap.size := ⟨_, rfl⟩
  rw [← hAe] at hD
  have hA : ∀ q : Nat, s.heap.size ≤ q → A q := fun q h => by rw [hAe]; exact Or.inr h
  have hS : va_S A s.heap s.heap [] := va_S.rf
  have B12 : ∀ (n : Nat), ∀ (f_ : Nat → Int32) (x1 : Int32) (x2 : Int32), f_X6_dryBlocks_b12 k n f_ x1 x2 = some f' → ∀ (H : Heap) (locs : List Loc), va_P D vwCl (wX6 ct a f_) H → va_D A (wX6 ct a f_) → va_S A s.heap H locs → ∀ (ls : Array Slot), lv_has ls 5 [(0, .ref (a 1)), (1, .int x1), (2, .int x2)] → W p l e ({ frames := 2, cells := 0, slots := 0, locals := 45 } : Room) s m ([.ref (a 1)] : List Value).toArray below meth c H locs 0 0 (MQ below (va_Qv (fun (_ : Unit) => True) (zQW D (wX6 ct a f) s.heap.size (wX6 ct a f')) (va_A (wX6 ct a f) s.heap.size)) ([.ref (a 1)] : List Value).toArray s 0 0 (va_A (wX6 ct a f) s.heap.size)) (F0 m 12 ls []) := by
    intro n
    induction n with
    | zero => intro f_ x1 x2 h; exact absurd h (by rw [f_X6_dryBlocks_b12]; exact fun q => nomatch q)
    | succ n ih12 =>
      intro f_ x1 x2 h H locs hP hD hS ls hl
      rw [f_X6_dryBlocks_b12] at h
      refine lv_iload_n hx hb dX6_dryBlocks_12 rfl (lv_at hl 2 rfl) ?_
      refine lv_iload_n hx hb dX6_dryBlocks_13 rfl (lv_at hl 1 rfl) ?_
      refine zc_ge (tgt := 74) hx hb dX6_dryBlocks_14 (by decide) h (fun h => ?_) (fun h => ?_)
      · cases h
        exact zX_v hx hb hr hlocks hP hD hS hAe dX6_dryBlocks_74
      · refine lv_aload_n hx hb dX6_dryBlocks_17 rfl (lv_at hl 0 rfl) ?_
        refine z_get (C := RX6) (T := TX6) (N := 2) (ci := 5) hx hb hts zin_X6 hown hK.1 hP 0 0 rfl rfl (by decide) tw64 rfl rfl dX6_dryBlocks_18 ?_
        refine lv_iload_n hx hb dX6_dryBlocks_21 rfl (lv_at hl 2 rfl) ?_
        refine lv_iconst (v := (5 : Int32)) hx hb dX6_dryBlocks_22 (by decide) ?_
        obtain ⟨v2, hc, h⟩ := zb1_s h
        refine zE_i (zrV (C := RX5) (As := [.int x2, .int (5 : Int32)]) (rest := []) hx hb hml hown hts tw309 mv_X5_blockCell ⟨Nat.le_of_ble_eq_true rfl, Nat.le_of_ble_eq_true rfl⟩ rfl rfl (ct_X5_blockCell l D ct a f_ x2 (5 : Int32) k v2 hc) (z_pv hK hP [2, 3] rfl 2 rfl rfl) hl.1 rfl rfl (Nat.le_of_ble_eq_true rfl) dX6_dryBlocks_23 ⟨Nat.le_refl _, Nat.le_refl _⟩) ?_
        refine lv_istore_n (lv' := [(3, .int v2), (0, .ref (a 1)), (1, .int x1), (2, .int x2)]) hx hb dX6_dryBlocks_26 rfl hl (by decide) rfl (fun ls hl => ?_)
        refine lv_aload_n hx hb dX6_dryBlocks_27 rfl (lv_at hl 1 rfl) ?_
        refine z_get (C := RX6) (T := TX6) (N := 2) (ci := 5) hx hb hts zin_X6 hown hK.1 hP 0 0 rfl rfl (by decide) tw64 rfl rfl dX6_dryBlocks_28 ?_
        refine lv_iload_n hx hb dX6_dryBlocks_31 rfl (lv_at hl 3 rfl) ?_
        refine lv_bipush (v := (6 : Int32)) hx hb dX6_dryBlocks_32 (by decide) ?_
        obtain ⟨v3, hc, h⟩ := zb1_s h
        refine zE_i (zrV (C := RX5) (As := [.int x2, .int (6 : Int32)]) (rest := []) hx hb hml hown hts tw309 mv_X5_blockCell ⟨Nat.le_of_ble_eq_true rfl, Nat.le_of_ble_eq_true rfl⟩ rfl rfl (ct_X5_blockCell l D ct a f_ x2 (6 : Int32) k v3 hc) (z_pv hK hP [2, 3] rfl 2 rfl rfl) hl.1 rfl rfl (Nat.le_of_ble_eq_true rfl) dX6_dryBlocks_34 ⟨Nat.le_refl _, Nat.le_refl _⟩) ?_
        refine lv_istore (lv' := [(4, .int v3), (3, .int v2), (0, .ref (a 1)), (1, .int x1), (2, .int x2)]) hx hb dX6_dryBlocks_37 hl (by decide) rfl (fun ls hl => ?_)
        refine lv_iload hx hb dX6_dryBlocks_39 (lv_at hl 0 rfl) ?_
        refine zi_le (tgt := 68) hx hb dX6_dryBlocks_41 (by decide) h (fun h => ?_) (fun h => ?_)
        · refine o_nm h (fun v4 ey h => ?_)
          refine lv_iinc (v := v4) (lv' := [(2, .int v4), (4, .int v3), (3, .int v2), (0, .ref (a 1)), (1, .int x1)]) hx hb dX6_dryBlocks_68 hl (k := 4) rfl (Eq.trans rfl ey) (by decide) rfl (fun ls hl => ?_)
          refine lv_goto (tgt := 12) hx hb dX6_dryBlocks_71 (by decide) ?_
          exact ih12 f_ x1 v4 h _ _ hP hD hS ls (lv_sub hl [3, 4, 0] rfl)
        · refine lv_iload_n hx hb dX6_dryBlocks_44 rfl (lv_at hl 1 rfl) ?_
          refine lv_iconst (v := (3 : Int32)) hx hb dX6_dryBlocks_45 (by decide) ?_
          refine zc_eq (tgt := 68) hx hb dX6_dryBlocks_46 (by decide) h (fun h => ?_) (fun h => ?_)
          · refine o_nm h (fun v5 ey h => ?_)
            refine lv_iinc (v := v5) (lv' := [(2, .int v5), (4, .int v3), (3, .int v2), (0, .ref (a 1)), (1, .int x1)]) hx hb dX6_dryBlocks_68 hl (k := 4) rfl (Eq.trans rfl ey) (by decide) rfl (fun ls hl => ?_)
            refine lv_goto (tgt := 12) hx hb dX6_dryBlocks_71 (by decide) ?_
            exact ih12 f_ x1 v5 h _ _ hP hD hS ls (lv_sub hl [3, 4, 0] rfl)
          · refine lv_iload_n hx hb dX6_dryBlocks_49 rfl (lv_at hl 1 rfl) ?_
            refine lv_iconst (v := (4 : Int32)) hx hb dX6_dryBlocks_50 (by decide) ?_
            refine zc_eq (tgt := 68) hx hb dX6_dryBlocks_51 (by decide) h (fun h => ?_) (fun h => ?_)
            · refine o_nm h (fun v6 ey h => ?_)
              refine lv_iinc (v := v6) (lv' := [(2, .int v6), (4, .int v3), (3, .int v2), (0, .ref (a 1)), (1, .int x1)]) hx hb dX6_dryBlocks_68 hl (k := 4) rfl (Eq.trans rfl ey) (by decide) rfl (fun ls hl => ?_)
              refine lv_goto (tgt := 12) hx hb dX6_dryBlocks_71 (by decide) ?_
              exact ih12 f_ x1 v6 h _ _ hP hD hS ls (lv_sub hl [3, 4, 0] rfl)
            · refine lv_aload_n hx hb dX6_dryBlocks_54 rfl (lv_at hl 2 rfl) ?_
              refine z_get (C := RX6) (T := TX6) (N := 2) (ci := 5) hx hb hts zin_X6 hown hK.1 hP 0 0 rfl rfl (by decide) tw64 rfl rfl dX6_dryBlocks_55 ?_
              refine lv_iload_n hx hb dX6_dryBlocks_58 rfl (lv_at hl 4 rfl) ?_
              refine lv_bipush (v := (6 : Int32)) hx hb dX6_dryBlocks_59 (by decide) ?_
              refine lv_iload hx hb dX6_dryBlocks_61 (lv_at hl 0 rfl) ?_
              refine lv_iconst (v := (1 : Int32)) hx hb dX6_dryBlocks_63 (by decide) ?_
              refine o_isub hx hb dX6_dryBlocks_64 h (fun v7 h => ?_)
              obtain ⟨f8, hc, h⟩ := zb1_s h
              refine zG_v (w1 := wX5 ct a f8) (ws' := wX6 ct a f8) hP hD hS hA [2, 3] [0, 1] [0, 1, 2, 3] rfl rfl (by decide) (by decide) rfl (by decide) (zrV (C := RX5) (As := [.int x2, .int (6 : Int32), .int v7]) (rest := []) hx hb hml hown hts tw286 mv_X5_setBlockCell ⟨Nat.le_of_ble_eq_true rfl, Nat.le_of_ble_eq_true rfl⟩ rfl rfl (ct_X5_setBlockCell l D ct a f_ _ x2 (6 : Int32) v7 k f8 hc) (z_wv hK hP hD [2, 3] (by decide) rfl 2 rfl rfl) hl.1 rfl rfl (Nat.le_of_ble_eq_true rfl) dX6_dryBlocks_65 ⟨Nat.le_refl _, Nat.le_refl _⟩) (fun H locs hP hD hS => ?_)
              refine o_nm h (fun v9 ey h => ?_)
              refine lv_iinc (v := v9) (lv' := [(2, .int v9), (4, .int v3), (3, .int v2), (0, .ref (a 1)), (1, .int x1)]) hx hb dX6_dryBlocks_68 hl (k := 4) rfl (Eq.trans rfl ey) (by decide) rfl (fun ls hl => ?_)
              refine lv_goto (tgt := 12) hx hb dX6_dryBlocks_71 (by decide) ?_
              exact ih12 f8 x1 v9 h _ _ hP hD hS ls (lv_sub hl [3, 4, 0] rfl)
  rw [f_X6_dryBlocks] at h
  refine lv_aload_n hx hb dX6_dryBlocks_0 rfl (lv_at hl 0 rfl) ?_
  refine z_get (C := RX6) (T := TX6) (N := 2) (ci := 5) hx hb hts zin_X6 hown hK.1 hP 0 0 rfl rfl (by decide) tw64 rfl rfl dX6_dryBlocks_1 ?_
  refine lv_bipush (v := (6 : Int32)) hx hb dX6_dryBlocks_4 (by decide) ?_
  obtain ⟨v1, hc, h⟩ := zb1_s h
  refine zE_i (zrV (C := RX5) (As := [.int (6 : Int32)]) (rest := []) hx hb hml hown hts tw280 mv_X5_cell ⟨Nat.le_of_ble_eq_true rfl, Nat.le_of_ble_eq_true rfl⟩ rfl rfl (ct_X5_cell l D ct a f (6 : Int32) k v1 hc) (z_pv hK hP [2, 3] rfl 2 rfl rfl) hl.1 rfl rfl (Nat.le_of_ble_eq_true rfl) dX6_dryBlocks_6 ⟨Nat.le_refl _, Nat.le_refl _⟩) ?_
  refine lv_istore_n (lv' := [(1, .int v1), (0, .ref (a 1))]) hx hb dX6_dryBlocks_9 rfl hl (by decide) rfl (fun ls hl => ?_)
  refine lv_iconst (v := (0 : Int32)) hx hb dX6_dryBlocks_10 (by decide) ?_
  refine lv_istore_n (lv' := [(2, .int (0 : Int32)), (1, .int v1), (0, .ref (a 1))]) hx hb dX6_dryBlocks_11 rfl hl (by decide) rfl (fun ls hl => ?_)
  exact B12 k f v1 (0 : Int32) h _ _ hP hD hS ls (lv_sub hl [2, 1, 0] rfl)

def f_X6_passNight_b84 (k : Nat) (p1 : Int32)  (f_ : Nat → Int32) (x2 : Int32) (x4 : Int32) (y0 : Int32) (y1 : Int32) : Option (Int32 × (Nat → Int32)) :=
  zb1 (f_X5_setCell k f_ y1 y0) fun f4 =>
  zl (x2 + (1 : Int32)) fun v5 =>
  zb1 (f_X5_setCell k f4 (5 : Int32) v5) fun f6 =>
  some (x4, f6)
def f_X6_passNight_b64 (k : Nat) (p1 : Int32)  (f_ : Nat → Int32) (x2 : Int32) (x3 : Int32) (y0 : Int32) : Option (Int32 × (Nat → Int32)) :=
  zb1 (f_X6_dryBlocks k f_) fun f3 =>
  if x3 = 0 then
    f_X6_passNight_b84 k p1 f3 x2 y0 (0 : Int32) (4 : Int32)
  else
    f_X6_passNight_b84 k p1 f3 x2 y0 (1 : Int32) (4 : Int32)
def f_X6_passNight (k : Nat) (f : Nat → Int32) (p1 : Int32) : Option (Int32 × (Nat → Int32)) :=
  if p1 < (-40 : Int32) then
    some ((-2 : Int32), f)
  else
    if p1 ≤ (40 : Int32) then
      zb1 (f_X5_cell k f (5 : Int32)) fun v1 =>
      if v1 < (999 : Int32) then
        zb1 (f_X5_cell k f (2 : Int32)) fun v2 =>
        if v2 < p1 then
          if (0 : Int32) = 0 then
            f_X6_passNight_b64 k p1 f v1 (0 : Int32) (0 : Int32)
          else
            zb2 (f_X6_crackBlocks k f) fun v7 f8 =>
            f_X6_passNight_b64 k p1 f8 v1 (0 : Int32) v7
        else
          if (1 : Int32) = 0 then
            f_X6_passNight_b64 k p1 f v1 (1 : Int32) (0 : Int32)
          else
            zb2 (f_X6_crackBlocks k f) fun v9 f10 =>
            f_X6_passNight_b64 k p1 f10 v1 (1 : Int32) v9
      else
        some ((-5 : Int32), f)
    else
      some ((-2 : Int32), f)
set_option maxRecDepth 100000 in
set_option maxHeartbeats 4000000 in
theorem ct_X6_passNight (l : Launch) (D : va_G) (ct a : Nat → Nat) (f : Nat → Int32) (sz : Nat) (p1 : Int32) (k : Nat) (r : Int32) (f' : Nat → Int32) (h : f_X6_passNight k f p1 = some (r, f')) : Met l yX6_passNight (Cond.code yX6_passNight cX6_passNight 5 (some .int) :: zT) ({ frames := 4, cells := 0, slots := 0, locals := 90 } : Room) (va_Pc [.ref (a 1), .int p1] (zPW D (zTys ct) (wX6 ct a f) sz)) (va_Qi (fun r' (_ : Unit) => r' = r) (zQW D (wX6 ct a f) sz (wX6 ct a f')) (va_A (wX6 ct a f) sz)) 0 0 (va_A (wX6 ct a f) sz) := by
  refine zMet (cc := cX6_passNight) (maxL := 5) (ret := (some .int)) (av := [.ref (a 1), .int p1]) (by decide) (Nat.le_of_ble_eq_true rfl) (fun p e s m below meth c ls hx hb hr hml hts hown hlocks hin hB hl => ?_)
  have hl : lv_has ls 5 [(0, .ref (a 1)), (1, .int p1)] := hl
  have hown : s.vm.findClass RX6 = some m.cls := hown
  obtain ⟨hsz, hP, hK, hD0⟩ := hB
  subst hsz
  have hD := hD0.self (sz := s.heap.size)
  obtain ⟨A, hAe⟩ : ∃ A, A = va_A (wX6 ct a f) s.heap.size := ⟨_, rfl⟩
  rw [← hAe] at hD
  have hA : ∀ q : Nat, s.heap.size ≤ q → A q := fun q h => by rw [hAe]; exact Or.inr h
  have hS : va_S A s.heap s.heap [] := va_S.rf
  have B84 : ∀ (f_ : Nat → Int32) (x2 : Int32) (x4 : Int32) (y0 : Int32) (y1 : Int32), f_X6_passNight_b84 k p1 f_ x2 x4 y0 y1 = some (r, f') → ∀ (H : Heap) (locs : List Loc), va_P D vwCl (wX6 ct a f_) H → va_D A (wX6 ct a f_) → va_S A s.heap H locs → ∀ (ls : Array Slot), lv_has ls 5 [(0, .ref (a 1)), (2, .int x2), (4, .int x4)] → W p l e ({ frames := 4, cells := 0, slots := 0, locals := 90 } : Room) s m ([.ref (a 1), .int p1] : List Value).toArray below meth c H locs 0 0 (MQ below (va_Qi (fun r' (_ : Unit) => r' = r) (zQW D (wX6 ct a f) s.heap.size (wX6 ct a f')) (va_A (wX6 ct a f) s.heap.size)) ([.ref (a 1), .int p1] : List Value).toArray s 0 0 (va_A (wX6 ct a f) s.heap.size)) (F0 m 84 ls [.int y0, .int y1, .ref (a 3)]) := by
    intro f_ x2 x4 y0 y1 h H locs hP hD hS ls hl
    rw [f_X6_passNight_b84] at h
    obtain ⟨f4, hc, h⟩ := zb1_s h
    refine zG_v (w1 := wX5 ct a f4) (ws' := wX6 ct a f4) hP hD hS hA [2, 3] [0, 1] [0, 1, 2, 3] rfl rfl (by decide) (by decide) rfl (by decide) (zrV (C := RX5) (As := [.int y1, .int y0]) (rest := []) hx hb hml hown hts tw285 mv_X5_setCell ⟨Nat.le_of_ble_eq_true rfl, Nat.le_of_ble_eq_true rfl⟩ rfl rfl (ct_X5_setCell l D ct a f_ _ y1 y0 k f4 hc) (z_wv hK hP hD [2, 3] (by decide) rfl 2 rfl rfl) hl.1 rfl rfl (Nat.le_of_ble_eq_true rfl) dX6_passNight_84 ⟨Nat.le_refl _, Nat.le_refl _⟩) (fun H locs hP hD hS => ?_)
    refine lv_aload_n hx hb dX6_passNight_87 rfl (lv_at hl 0 rfl) ?_
    refine z_get (C := RX6) (T := TX6) (N := 2) (ci := 5) hx hb hts zin_X6 hown hK.1 hP 0 0 rfl rfl (by decide) tw64 rfl rfl dX6_passNight_88 ?_
    refine lv_iconst (v := (5 : Int32)) hx hb dX6_passNight_91 (by decide) ?_
    refine lv_iload_n hx hb dX6_passNight_92 rfl (lv_at hl 1 rfl) ?_
    refine lv_iconst (v := (1 : Int32)) hx hb dX6_passNight_93 (by decide) ?_
    refine o_iadd hx hb dX6_passNight_94 h (fun v5 h => ?_)
    obtain ⟨f6, hc, h⟩ := zb1_s h
    refine zG_v (w1 := wX5 ct a f6) (ws' := wX6 ct a f6) hP hD hS hA [2, 3] [0, 1] [0, 1, 2, 3] rfl rfl (by decide) (by decide) rfl (by decide) (zrV (C := RX5) (As := [.int (5 : Int32), .int v5]) (rest := []) hx hb hml hown hts tw285 mv_X5_setCell ⟨Nat.le_of_ble_eq_true rfl, Nat.le_of_ble_eq_true rfl⟩ rfl rfl (ct_X5_setCell l D ct a f4 _ (5 : Int32) v5 k f6 hc) (z_wv hK hP hD [2, 3] (by decide) rfl 2 rfl rfl) hl.1 rfl rfl (Nat.le_of_ble_eq_true rfl) dX6_passNight_95 ⟨Nat.le_refl _, Nat.le_refl _⟩) (fun H locs hP hD hS => ?_)
    refine lv_iload hx hb dX6_passNight_98 (lv_at hl 2 rfl) ?_
    cases h
    exact zX_i hx hb hr hlocks hP hD hS hAe dX6_passNight_100 rfl
  have B64 : ∀ (f_ : Nat → Int32) (x2 : Int32) (x3 : Int32) (y0 : Int32), f_X6_passNight_b64 k p1 f_ x2 x3 y0 = some (r, f') → ∀ (H : Heap) (locs : List Loc), va_P D vwCl (wX6 ct a f_) H → va_D A (wX6 ct a f_) → va_S A s.heap H locs → ∀ (ls : Array Slot), lv_has ls 5 [(0, .ref (a 1)), (2, .int x2), (3, .int x3)] → W p l e ({ frames := 4, cells := 0, slots := 0, locals := 90 } : Room) s m ([.ref (a 1), .int p1] : List Value).toArray below meth c H locs 0 0 (MQ below (va_Qi (fun r' (_ : Unit) => r' = r) (zQW D (wX6 ct a f) s.heap.size (wX6 ct a f')) (va_A (wX6 ct a f) s.heap.size)) ([.ref (a 1), .int p1] : List Value).toArray s 0 0 (va_A (wX6 ct a f) s.heap.size)) (F0 m 64 ls [.int y0]) := by
    intro f_ x2 x3 y0 h H locs hP hD hS ls hl
    rw [f_X6_passNight_b64] at h
    refine lv_istore (lv' := [(4, .int y0), (0, .ref (a 1)), (2, .int x2), (3, .int x3)]) hx hb dX6_passNight_64 hl (by decide) rfl (fun ls hl => ?_)
    refine lv_aload_n hx hb dX6_passNight_66 rfl (lv_at hl 1 rfl) ?_
    obtain ⟨f3, hc, h⟩ := zb1_s h
    refine zG_v (w1 := wX6 ct a f3) (ws' := wX6 ct a f3) hP hD hS hA [0, 1, 2, 3] [] [0, 1, 2, 3] rfl rfl (by decide) (by decide) rfl (by decide) (zrV (C := RX6) (As := []) (rest := []) hx hb hml hown hts tw501 mv_X6_dryBlocks ⟨Nat.le_of_ble_eq_true rfl, Nat.le_of_ble_eq_true rfl⟩ rfl rfl (ct_X6_dryBlocks l D ct a f_ _  k f3 hc) (z_wv hK hP hD [0, 1, 2, 3] (by decide) rfl 0 rfl rfl) hl.1 rfl rfl (Nat.le_of_ble_eq_true rfl) dX6_passNight_67 ⟨Nat.le_refl _, Nat.le_refl _⟩) (fun H locs hP hD hS => ?_)
    refine lv_aload_n hx hb dX6_passNight_70 rfl (lv_at hl 1 rfl) ?_
    refine z_get (C := RX6) (T := TX6) (N := 2) (ci := 5) hx hb hts zin_X6 hown hK.1 hP 0 0 rfl rfl (by decide) tw64 rfl rfl dX6_passNight_71 ?_
    refine lv_iconst (v := (4 : Int32)) hx hb dX6_passNight_74 (by decide) ?_
    refine lv_iload_n hx hb dX6_passNight_75 rfl (lv_at hl 3 rfl) ?_
    refine zi_eq (tgt := 83) hx hb dX6_passNight_76 (by decide) h (fun h => ?_) (fun h => ?_)
    · refine lv_iconst (v := (0 : Int32)) hx hb dX6_passNight_83 (by decide) ?_
      exact B84 f3 x2 y0 (0 : Int32) (4 : Int32) h _ _ hP hD hS ls (lv_sub hl [1, 2, 0] rfl)
    · refine lv_iconst (v := (1 : Int32)) hx hb dX6_passNight_79 (by decide) ?_
      refine lv_goto (tgt := 84) hx hb dX6_passNight_80 (by decide) ?_
      exact B84 f3 x2 y0 (1 : Int32) (4 : Int32) h _ _ hP hD hS ls (lv_sub hl [1, 2, 0] rfl)
  rw [f_X6_passNight] at h
  refine lv_iload_n hx hb dX6_passNight_0 rfl (lv_at hl 1 rfl) ?_
  refine lv_bipush (v := (-40 : Int32)) hx hb dX6_passNight_1 (by decide) ?_
  refine zc_lt (tgt := 12) hx hb dX6_passNight_3 (by decide) h (fun h => ?_) (fun h => ?_)
  · refine lv_bipush (v := (-2 : Int32)) hx hb dX6_passNight_12 (by decide) ?_
    cases h
    exact zX_i hx hb hr hlocks hP hD hS hAe dX6_passNight_14 rfl
  · refine lv_iload_n hx hb dX6_passNight_6 rfl (lv_at hl 1 rfl) ?_
    refine lv_bipush (v := (40 : Int32)) hx hb dX6_passNight_7 (by decide) ?_
    refine zc_le (tgt := 15) hx hb dX6_passNight_9 (by decide) h (fun h => ?_) (fun h => ?_)
    · refine lv_aload_n hx hb dX6_passNight_15 rfl (lv_at hl 0 rfl) ?_
      refine z_get (C := RX6) (T := TX6) (N := 2) (ci := 5) hx hb hts zin_X6 hown hK.1 hP 0 0 rfl rfl (by decide) tw64 rfl rfl dX6_passNight_16 ?_
      refine lv_iconst (v := (5 : Int32)) hx hb dX6_passNight_19 (by decide) ?_
      obtain ⟨v1, hc, h⟩ := zb1_s h
      refine zE_i (zrV (C := RX5) (As := [.int (5 : Int32)]) (rest := []) hx hb hml hown hts tw280 mv_X5_cell ⟨Nat.le_of_ble_eq_true rfl, Nat.le_of_ble_eq_true rfl⟩ rfl rfl (ct_X5_cell l D ct a f (5 : Int32) k v1 hc) (z_pv hK hP [2, 3] rfl 2 rfl rfl) hl.1 rfl rfl (Nat.le_of_ble_eq_true rfl) dX6_passNight_20 ⟨Nat.le_refl _, Nat.le_refl _⟩) ?_
      refine lv_istore_n (lv' := [(2, .int v1), (0, .ref (a 1)), (1, .int p1)]) hx hb dX6_passNight_23 rfl hl (by decide) rfl (fun ls hl => ?_)
      refine lv_iload_n hx hb dX6_passNight_24 rfl (lv_at hl 0 rfl) ?_
      refine lv_sipush (v := (999 : Int32)) hx hb dX6_passNight_25 (by decide) ?_
      refine zc_lt (tgt := 34) hx hb dX6_passNight_28 (by decide) h (fun h => ?_) (fun h => ?_)
      · refine lv_iload_n hx hb dX6_passNight_34 rfl (lv_at hl 2 rfl) ?_
        refine lv_aload_n hx hb dX6_passNight_35 rfl (lv_at hl 1 rfl) ?_
        refine z_get (C := RX6) (T := TX6) (N := 2) (ci := 5) hx hb hts zin_X6 hown hK.1 hP 0 0 rfl rfl (by decide) tw64 rfl rfl dX6_passNight_36 ?_
        refine lv_iconst (v := (2 : Int32)) hx hb dX6_passNight_39 (by decide) ?_
        obtain ⟨v2, hc, h⟩ := zb1_s h
        refine zE_i (zrV (C := RX5) (As := [.int (2 : Int32)]) (rest := [.int p1]) hx hb hml hown hts tw280 mv_X5_cell ⟨Nat.le_of_ble_eq_true rfl, Nat.le_of_ble_eq_true rfl⟩ rfl rfl (ct_X5_cell l D ct a f (2 : Int32) k v2 hc) (z_pv hK hP [2, 3] rfl 2 rfl rfl) hl.1 rfl rfl (Nat.le_of_ble_eq_true rfl) dX6_passNight_40 ⟨Nat.le_refl _, Nat.le_refl _⟩) ?_
        refine zc_gt (tgt := 50) hx hb dX6_passNight_43 (by decide) h (fun h => ?_) (fun h => ?_)
        · refine lv_iconst (v := (0 : Int32)) hx hb dX6_passNight_50 (by decide) ?_
          refine lv_istore_n (lv' := [(3, .int (0 : Int32)), (2, .int v1), (0, .ref (a 1)), (1, .int p1)]) hx hb dX6_passNight_51 rfl hl (by decide) rfl (fun ls hl => ?_)
          refine lv_iload_n hx hb dX6_passNight_52 rfl (lv_at hl 0 rfl) ?_
          refine zi_eq (tgt := 63) hx hb dX6_passNight_53 (by decide) h (fun h => ?_) (fun h => ?_)
          · refine lv_iconst (v := (0 : Int32)) hx hb dX6_passNight_63 (by decide) ?_
            exact B64 f v1 (0 : Int32) (0 : Int32) h _ _ hP hD hS ls (lv_sub hl [2, 1, 0] rfl)
          · refine lv_aload_n hx hb dX6_passNight_56 rfl (lv_at hl 2 rfl) ?_
            obtain ⟨v7, f8, hc, h⟩ := zb2_s h
            refine zG_i (w1 := wX6 ct a f8) (ws' := wX6 ct a f8) hP hD hS hA [0, 1, 2, 3] [] [0, 1, 2, 3] rfl rfl (by decide) (by decide) rfl (by decide) (zrV (C := RX6) (As := []) (rest := []) hx hb hml hown hts tw491 mv_X6_crackBlocks ⟨Nat.le_of_ble_eq_true rfl, Nat.le_of_ble_eq_true rfl⟩ rfl rfl (ct_X6_crackBlocks l D ct a f _  k v7 f8 hc) (z_wv hK hP hD [0, 1, 2, 3] (by decide) rfl 0 rfl rfl) hl.1 rfl rfl (Nat.le_of_ble_eq_true rfl) dX6_passNight_57 ⟨Nat.le_refl _, Nat.le_refl _⟩) (fun H locs hP hD hS => ?_)
            refine lv_goto (tgt := 64) hx hb dX6_passNight_60 (by decide) ?_
            exact B64 f8 v1 (0 : Int32) v7 h _ _ hP hD hS ls (lv_sub hl [2, 1, 0] rfl)
        · refine lv_iconst (v := (1 : Int32)) hx hb dX6_passNight_46 (by decide) ?_
          refine lv_goto (tgt := 51) hx hb dX6_passNight_47 (by decide) ?_
          refine lv_istore_n (lv' := [(3, .int (1 : Int32)), (2, .int v1), (0, .ref (a 1)), (1, .int p1)]) hx hb dX6_passNight_51 rfl hl (by decide) rfl (fun ls hl => ?_)
          refine lv_iload_n hx hb dX6_passNight_52 rfl (lv_at hl 0 rfl) ?_
          refine zi_eq (tgt := 63) hx hb dX6_passNight_53 (by decide) h (fun h => ?_) (fun h => ?_)
          · refine lv_iconst (v := (0 : Int32)) hx hb dX6_passNight_63 (by decide) ?_
            exact B64 f v1 (1 : Int32) (0 : Int32) h _ _ hP hD hS ls (lv_sub hl [2, 1, 0] rfl)
          · refine lv_aload_n hx hb dX6_passNight_56 rfl (lv_at hl 2 rfl) ?_
            obtain ⟨v9, f10, hc, h⟩ := zb2_s h
            refine zG_i (w1 := wX6 ct a f10) (ws' := wX6 ct a f10) hP hD hS hA [0, 1, 2, 3] [] [0, 1, 2, 3] rfl rfl (by decide) (by decide) rfl (by decide) (zrV (C := RX6) (As := []) (rest := []) hx hb hml hown hts tw491 mv_X6_crackBlocks ⟨Nat.le_of_ble_eq_true rfl, Nat.le_of_ble_eq_true rfl⟩ rfl rfl (ct_X6_crackBlocks l D ct a f _  k v9 f10 hc) (z_wv hK hP hD [0, 1, 2, 3] (by decide) rfl 0 rfl rfl) hl.1 rfl rfl (Nat.le_of_ble_eq_true rfl) dX6_passNight_57 ⟨Nat.le_refl _, Nat.le_refl _⟩) (fun H locs hP hD hS => ?_)
            refine lv_goto (tgt := 64) hx hb dX6_passNight_60 (by decide) ?_
            exact B64 f10 v1 (1 : Int32) v9 h _ _ hP hD hS ls (lv_sub hl [2, 1, 0] rfl)
      · refine lv_bipush (v := (-5 : Int32)) hx hb dX6_passNight_31 (by decide) ?_
        cases h
        exact zX_i hx hb hr hlocks hP hD hS hAe dX6_passNight_33 rfl
    · refine lv_bipush (v := (-2 : Int32)) hx hb dX6_passNight_12 (by decide) ?_
      cases h
      exact zX_i hx hb hr hlocks hP hD hS hAe dX6_passNight_14 rfl

def f_X7_of (k : Nat) (f : Nat → Int32) (p1 : Int32) (p2 : Int32) : Option (Int32) :=
  zb1 (f_X5_hasBlock k f p1) fun v1 =>
  if v1 = 0 then
    some (-1 : Int32)
  else
    if p2 < 0 then
      some (-2 : Int32)
    else
      if p2 < (11 : Int32) then
        zb1 (f_X5_blockCell k f p1 p2) fun v2 =>
        some v2
      else
        some (-2 : Int32)
set_option maxRecDepth 100000 in
set_option maxHeartbeats 4000000 in
theorem ct_X7_of (l : Launch) (D : va_G) (ct a : Nat → Nat) (f : Nat → Int32) (g : Nat → Nat → Int32) (nx : Int32) (hz : Int32) (sw : Nat → Nat → Int32) (fl : Nat → Int32) (sg : Nat → Int32) (pl : Int32) (pa : Int32) (pk : Int32) (pn : Nat → Int32) (pf : Int32) (pg : Int32) (p1 : Int32) (p2 : Int32) (k : Nat) (r : Int32) (h : f_X7_of k f p1 p2 = some r) : Met l yX7_of (Cond.code yX7_of cX7_of 3 (some .int) :: zT) ({ frames := 2, cells := 0, slots := 0, locals := 42 } : Room) (va_Pc [.ref (a 0), .int p1, .int p2] (zPR D (zTys ct) (wX7 ct a f g nx hz sw fl sg pl pa pk pn pf pg))) (vp_Si (fun r' => r' = r)) 0 0 (fun _ => False) := by
  refine zMet (cc := cX7_of) (maxL := 3) (ret := (some .int)) (av := [.ref (a 0), .int p1, .int p2]) (by decide) (Nat.le_of_ble_eq_true rfl) (fun p e s m below meth c ls hx hb hr hml hts hown hlocks hin hB hl => ?_)
  have hl : lv_has ls 3 [(0, .ref (a 0)), (1, .int p1), (2, .int p2)] := hl
  have hown : s.vm.findClass RX7 = some m.cls := hown
  obtain ⟨hP, hK⟩ := hB
  rw [f_X7_of] at h
  refine lv_aload_n hx hb dX7_of_0 rfl (lv_at hl 0 rfl) ?_
  refine z_get (C := RX7) (T := TX7) (N := 6) (ci := 6) hx hb hts zin_X7 hown hK.1 hP 0 0 rfl rfl (by decide) tw133 rfl rfl dX7_of_1 ?_
  refine lv_iload_n hx hb dX7_of_4 rfl (lv_at hl 1 rfl) ?_
  obtain ⟨v1, hc, h⟩ := zb1_s h
  refine zE_i (zrV (C := RX5) (As := [.int p1]) (rest := []) hx hb hml hown hts tw367 mv_X5_hasBlock ⟨Nat.le_of_ble_eq_true rfl, Nat.le_of_ble_eq_true rfl⟩ rfl rfl (ct_X5_hasBlock l D ct a f p1 k v1 hc) (z_pv hK hP [3, 4] rfl 3 rfl rfl) hl.1 rfl rfl (Nat.le_of_ble_eq_true rfl) dX7_of_5 ⟨Nat.le_refl _, Nat.le_refl _⟩) ?_
  refine zi_ne (tgt := 13) hx hb dX7_of_8 (by decide) h (fun h => ?_) (fun h => ?_)
  · refine lv_iload_n hx hb dX7_of_13 rfl (lv_at hl 2 rfl) ?_
    refine zi_lt (tgt := 23) hx hb dX7_of_14 (by decide) h (fun h => ?_) (fun h => ?_)
    · refine lv_bipush (v := (-2 : Int32)) hx hb dX7_of_23 (by decide) ?_
      refine lv_goto (tgt := 37) hx hb dX7_of_25 (by decide) ?_
      exact zR_i hx hb hr hlocks dX7_of_37 h
    · refine lv_iload_n hx hb dX7_of_17 rfl (lv_at hl 2 rfl) ?_
      refine lv_bipush (v := (11 : Int32)) hx hb dX7_of_18 (by decide) ?_
      refine zc_lt (tgt := 28) hx hb dX7_of_20 (by decide) h (fun h => ?_) (fun h => ?_)
      · refine lv_aload_n hx hb dX7_of_28 rfl (lv_at hl 0 rfl) ?_
        refine z_get (C := RX7) (T := TX7) (N := 6) (ci := 6) hx hb hts zin_X7 hown hK.1 hP 0 0 rfl rfl (by decide) tw133 rfl rfl dX7_of_29 ?_
        refine lv_iload_n hx hb dX7_of_32 rfl (lv_at hl 1 rfl) ?_
        refine lv_iload_n hx hb dX7_of_33 rfl (lv_at hl 2 rfl) ?_
        obtain ⟨v2, hc, h⟩ := zb1_s h
        refine zE_i (zrV (C := RX5) (As := [.int p1, .int p2]) (rest := []) hx hb hml hown hts tw368 mv_X5_blockCell ⟨Nat.le_of_ble_eq_true rfl, Nat.le_of_ble_eq_true rfl⟩ rfl rfl (ct_X5_blockCell l D ct a f p1 p2 k v2 hc) (z_pv hK hP [3, 4] rfl 3 rfl rfl) hl.1 rfl rfl (Nat.le_of_ble_eq_true rfl) dX7_of_34 ⟨Nat.le_refl _, Nat.le_refl _⟩) ?_
        exact zR_i hx hb hr hlocks dX7_of_37 h
      · refine lv_bipush (v := (-2 : Int32)) hx hb dX7_of_23 (by decide) ?_
        refine lv_goto (tgt := 37) hx hb dX7_of_25 (by decide) ?_
        exact zR_i hx hb hr hlocks dX7_of_37 h
  · refine lv_iconst (v := (-1 : Int32)) hx hb dX7_of_11 (by decide) ?_
    exact zR_i hx hb hr hlocks dX7_of_12 h

def f_X1_blocksToGive_b15 (k : Nat) (f : Nat → Int32) (p1 : Int32)  : Nat → Int32 → Int32 → Int32 → Option (Int32)
  | 0, _, _, _ => none
  | n + 1, x2, x3, x4 =>
    if x2 ≤ x4 then
      some x3
    else
      zb1 (f_X1_surplusToGive k f p1 x4) fun v2 =>
      if v2 = (-6 : Int32) then
        zl (x4 + (1 : Int32)) fun v3 =>
        f_X1_blocksToGive_b15 k f p1 n x2 x3 v3
      else
        zl ((1 : Int32) <<< (x4 &&& 31)) fun v4 =>
        zl (x3 ||| v4) fun v5 =>
        zl (x4 + (1 : Int32)) fun v6 =>
        f_X1_blocksToGive_b15 k f p1 n x2 v5 v6
def f_X1_blocksToGive (k : Nat) (f : Nat → Int32) (p1 : Int32) : Option (Int32) :=
  zb1 (f_X5_cell k f (6 : Int32)) fun v1 =>
  f_X1_blocksToGive_b15 k f p1 k v1 (0 : Int32) (0 : Int32)
set_option maxRecDepth 100000 in
set_option maxHeartbeats 4000000 in
theorem ct_X1_blocksToGive (l : Launch) (D : va_G) (ct a : Nat → Nat) (f : Nat → Int32) (p1 : Int32) (k : Nat) (r : Int32) (h : f_X1_blocksToGive k f p1 = some r) : Met l yX1_blocksToGive (Cond.code yX1_blocksToGive cX1_blocksToGive 5 (some .int) :: zT) ({ frames := 5, cells := 0, slots := 0, locals := 116 } : Room) (va_Pc [.ref (a 2), .int p1] (zPR D (zTys ct) (wX1 ct a f))) (vp_Si (fun r' => r' = r)) 0 0 (fun _ => False) := by
  refine zMet (cc := cX1_blocksToGive) (maxL := 5) (ret := (some .int)) (av := [.ref (a 2), .int p1]) (by decide) (Nat.le_of_ble_eq_true rfl) (fun p e s m below meth c ls hx hb hr hml hts hown hlocks hin hB hl => ?_)
  have hl : lv_has ls 5 [(0, .ref (a 2)), (1, .int p1)] := hl
  have hown : s.vm.findClass RX1 = some m.cls := hown
  obtain ⟨hP, hK⟩ := hB
  have B15 : ∀ (n : Nat), ∀ (x2 : Int32) (x3 : Int32) (x4 : Int32), f_X1_blocksToGive_b15 k f p1 n x2 x3 x4 = some r → ∀ (ls : Array Slot), lv_has ls 5 [(0, .ref (a 2)), (1, .int p1), (2, .int x2), (3, .int x3), (4, .int x4)] → W p l e ({ frames := 5, cells := 0, slots := 0, locals := 116 } : Room) s m ([.ref (a 2), .int p1] : List Value).toArray below meth c s.heap [] 0 0 (MQ below (vp_Si (fun r' => r' = r)) ([.ref (a 2), .int p1] : List Value).toArray s 0 0 (fun _ => False)) (F0 m 15 ls []) := by
    intro n
    induction n with
    | zero => intro x2 x3 x4 h; exact absurd h (by rw [f_X1_blocksToGive_b15]; exact fun q => nomatch q)
    | succ n ih15 =>
      intro x2 x3 x4 h ls hl
      rw [f_X1_blocksToGive_b15] at h
      refine lv_iload hx hb dX1_blocksToGive_15 (lv_at hl 4 rfl) ?_
      refine lv_iload_n hx hb dX1_blocksToGive_17 rfl (lv_at hl 2 rfl) ?_
      refine zc_ge (tgt := 46) hx hb dX1_blocksToGive_18 (by decide) h (fun h => ?_) (fun h => ?_)
      · refine lv_iload_n hx hb dX1_blocksToGive_46 rfl (lv_at hl 3 rfl) ?_
        exact zR_i hx hb hr hlocks dX1_blocksToGive_47 h
      · refine lv_aload_n hx hb dX1_blocksToGive_21 rfl (lv_at hl 0 rfl) ?_
        refine lv_iload_n hx hb dX1_blocksToGive_22 rfl (lv_at hl 1 rfl) ?_
        refine lv_iload hx hb dX1_blocksToGive_23 (lv_at hl 4 rfl) ?_
        obtain ⟨v2, hc, h⟩ := zb1_s h
        refine zE_i (zrV (C := RX1) (As := [.int p1, .int x4]) (rest := []) hx hb hml hown hts tw546 mv_X1_surplusToGive ⟨Nat.le_of_ble_eq_true rfl, Nat.le_of_ble_eq_true rfl⟩ rfl rfl (ct_X1_surplusToGive l D ct a f p1 x4 k v2 hc) (z_pv hK hP [0, 1, 2] rfl 0 rfl rfl) hl.1 rfl rfl (Nat.le_of_ble_eq_true rfl) dX1_blocksToGive_25 ⟨Nat.le_refl _, Nat.le_refl _⟩) ?_
        refine lv_bipush (v := (-6 : Int32)) hx hb dX1_blocksToGive_28 (by decide) ?_
        refine zc_eq (tgt := 40) hx hb dX1_blocksToGive_30 (by decide) h (fun h => ?_) (fun h => ?_)
        · refine o_nm h (fun v3 ey h => ?_)
          refine lv_iinc (v := v3) (lv' := [(4, .int v3), (0, .ref (a 2)), (1, .int p1), (2, .int x2), (3, .int x3)]) hx hb dX1_blocksToGive_40 hl (k := 4) rfl (Eq.trans rfl ey) (by decide) rfl (fun ls hl => ?_)
          refine lv_goto (tgt := 15) hx hb dX1_blocksToGive_43 (by decide) ?_
          exact ih15 x2 x3 v3 h ls (lv_sub hl [1, 2, 3, 4, 0] rfl)
        · refine lv_iload_n hx hb dX1_blocksToGive_33 rfl (lv_at hl 3 rfl) ?_
          refine lv_iconst (v := (1 : Int32)) hx hb dX1_blocksToGive_34 (by decide) ?_
          refine lv_iload hx hb dX1_blocksToGive_35 (lv_at hl 4 rfl) ?_
          refine o_ishl hx hb dX1_blocksToGive_37 h (fun v4 h => ?_)
          refine o_ior hx hb dX1_blocksToGive_38 h (fun v5 h => ?_)
          refine lv_istore_n (lv' := [(3, .int v5), (0, .ref (a 2)), (1, .int p1), (2, .int x2), (4, .int x4)]) hx hb dX1_blocksToGive_39 rfl hl (by decide) rfl (fun ls hl => ?_)
          refine o_nm h (fun v6 ey h => ?_)
          refine lv_iinc (v := v6) (lv' := [(4, .int v6), (3, .int v5), (0, .ref (a 2)), (1, .int p1), (2, .int x2)]) hx hb dX1_blocksToGive_40 hl (k := 4) rfl (Eq.trans rfl ey) (by decide) rfl (fun ls hl => ?_)
          refine lv_goto (tgt := 15) hx hb dX1_blocksToGive_43 (by decide) ?_
          exact ih15 x2 v5 v6 h ls (lv_sub hl [2, 3, 4, 1, 0] rfl)
  rw [f_X1_blocksToGive] at h
  refine lv_aload_n hx hb dX1_blocksToGive_0 rfl (lv_at hl 0 rfl) ?_
  refine z_get (C := RX1) (T := TX1) (N := 1) (ci := 0) hx hb hts zin_X1 hown hK.1 hP 0 0 rfl rfl (by decide) tw54 rfl rfl dX1_blocksToGive_1 ?_
  refine lv_bipush (v := (6 : Int32)) hx hb dX1_blocksToGive_4 (by decide) ?_
  obtain ⟨v1, hc, h⟩ := zb1_s h
  refine zE_i (zrV (C := RX5) (As := [.int (6 : Int32)]) (rest := []) hx hb hml hown hts tw173 mv_X5_cell ⟨Nat.le_of_ble_eq_true rfl, Nat.le_of_ble_eq_true rfl⟩ rfl rfl (ct_X5_cell l D ct a f (6 : Int32) k v1 hc) (z_pv hK hP [1, 2] rfl 1 rfl rfl) hl.1 rfl rfl (Nat.le_of_ble_eq_true rfl) dX1_blocksToGive_6 ⟨Nat.le_refl _, Nat.le_refl _⟩) ?_
  refine lv_istore_n (lv' := [(2, .int v1), (0, .ref (a 2)), (1, .int p1)]) hx hb dX1_blocksToGive_9 rfl hl (by decide) rfl (fun ls hl => ?_)
  refine lv_iconst (v := (0 : Int32)) hx hb dX1_blocksToGive_10 (by decide) ?_
  refine lv_istore_n (lv' := [(3, .int (0 : Int32)), (2, .int v1), (0, .ref (a 2)), (1, .int p1)]) hx hb dX1_blocksToGive_11 rfl hl (by decide) rfl (fun ls hl => ?_)
  refine lv_iconst (v := (0 : Int32)) hx hb dX1_blocksToGive_12 (by decide) ?_
  refine lv_istore (lv' := [(4, .int (0 : Int32)), (3, .int (0 : Int32)), (2, .int v1), (0, .ref (a 2)), (1, .int p1)]) hx hb dX1_blocksToGive_13 hl (by decide) rfl (fun ls hl => ?_)
  exact B15 k v1 (0 : Int32) (0 : Int32) h ls (lv_sub hl [3, 4, 2, 1, 0] rfl)

def f_X7_ofOrder (k : Nat) (f : Nat → Int32) (p1 : Int32) (p2 : Int32) : Option (Int32) :=
  zb1 (f_X5_hasOrder k f p1) fun v1 =>
  if v1 = 0 then
    some (-1 : Int32)
  else
    if p2 < 0 then
      some (-2 : Int32)
    else
      if p2 ≤ (6 : Int32) then
        if p2 = (6 : Int32) then
          zb1 (f_X1_blocksToGive k f p1) fun v3 =>
          some v3
        else
          zb1 (f_X5_orderCell k f p1 p2) fun v2 =>
          some v2
      else
        some (-2 : Int32)
set_option maxRecDepth 100000 in
set_option maxHeartbeats 4000000 in
theorem ct_X7_ofOrder (l : Launch) (D : va_G) (ct a : Nat → Nat) (f : Nat → Int32) (g : Nat → Nat → Int32) (nx : Int32) (hz : Int32) (sw : Nat → Nat → Int32) (fl : Nat → Int32) (sg : Nat → Int32) (pl : Int32) (pa : Int32) (pk : Int32) (pn : Nat → Int32) (pf : Int32) (pg : Int32) (p1 : Int32) (p2 : Int32) (k : Nat) (r : Int32) (h : f_X7_ofOrder k f p1 p2 = some r) : Met l yX7_ofOrder (Cond.code yX7_ofOrder cX7_ofOrder 3 (some .int) :: zT) ({ frames := 6, cells := 0, slots := 0, locals := 140 } : Room) (va_Pc [.ref (a 0), .int p1, .int p2] (zPR D (zTys ct) (wX7 ct a f g nx hz sw fl sg pl pa pk pn pf pg))) (vp_Si (fun r' => r' = r)) 0 0 (fun _ => False) := by
  refine zMet (cc := cX7_ofOrder) (maxL := 3) (ret := (some .int)) (av := [.ref (a 0), .int p1, .int p2]) (by decide) (Nat.le_of_ble_eq_true rfl) (fun p e s m below meth c ls hx hb hr hml hts hown hlocks hin hB hl => ?_)
  have hl : lv_has ls 3 [(0, .ref (a 0)), (1, .int p1), (2, .int p2)] := hl
  have hown : s.vm.findClass RX7 = some m.cls := hown
  obtain ⟨hP, hK⟩ := hB
  rw [f_X7_ofOrder] at h
  refine lv_aload_n hx hb dX7_ofOrder_0 rfl (lv_at hl 0 rfl) ?_
  refine z_get (C := RX7) (T := TX7) (N := 6) (ci := 6) hx hb hts zin_X7 hown hK.1 hP 0 0 rfl rfl (by decide) tw133 rfl rfl dX7_ofOrder_1 ?_
  refine lv_iload_n hx hb dX7_ofOrder_4 rfl (lv_at hl 1 rfl) ?_
  obtain ⟨v1, hc, h⟩ := zb1_s h
  refine zE_i (zrV (C := RX5) (As := [.int p1]) (rest := []) hx hb hml hown hts tw541 mv_X5_hasOrder ⟨Nat.le_of_ble_eq_true rfl, Nat.le_of_ble_eq_true rfl⟩ rfl rfl (ct_X5_hasOrder l D ct a f p1 k v1 hc) (z_pv hK hP [3, 4] rfl 3 rfl rfl) hl.1 rfl rfl (Nat.le_of_ble_eq_true rfl) dX7_ofOrder_5 ⟨Nat.le_refl _, Nat.le_refl _⟩) ?_
  refine zi_ne (tgt := 13) hx hb dX7_ofOrder_8 (by decide) h (fun h => ?_) (fun h => ?_)
  · refine lv_iload_n hx hb dX7_ofOrder_13 rfl (lv_at hl 2 rfl) ?_
    refine zi_lt (tgt := 23) hx hb dX7_ofOrder_14 (by decide) h (fun h => ?_) (fun h => ?_)
    · refine lv_bipush (v := (-2 : Int32)) hx hb dX7_ofOrder_23 (by decide) ?_
      exact zR_i hx hb hr hlocks dX7_ofOrder_25 h
    · refine lv_iload_n hx hb dX7_ofOrder_17 rfl (lv_at hl 2 rfl) ?_
      refine lv_bipush (v := (6 : Int32)) hx hb dX7_ofOrder_18 (by decide) ?_
      refine zc_le (tgt := 26) hx hb dX7_ofOrder_20 (by decide) h (fun h => ?_) (fun h => ?_)
      · refine lv_iload_n hx hb dX7_ofOrder_26 rfl (lv_at hl 2 rfl) ?_
        refine lv_bipush (v := (6 : Int32)) hx hb dX7_ofOrder_27 (by decide) ?_
        refine zc_ne (tgt := 43) hx hb dX7_ofOrder_29 (by decide) h (fun h => ?_) (fun h => ?_)
        · refine lv_aload_n hx hb dX7_ofOrder_43 rfl (lv_at hl 0 rfl) ?_
          refine z_get (C := RX7) (T := TX7) (N := 6) (ci := 6) hx hb hts zin_X7 hown hK.1 hP 0 0 rfl rfl (by decide) tw133 rfl rfl dX7_ofOrder_44 ?_
          refine lv_iload_n hx hb dX7_ofOrder_47 rfl (lv_at hl 1 rfl) ?_
          refine lv_iload_n hx hb dX7_ofOrder_48 rfl (lv_at hl 2 rfl) ?_
          obtain ⟨v2, hc, h⟩ := zb1_s h
          refine zE_i (zrV (C := RX5) (As := [.int p1, .int p2]) (rest := []) hx hb hml hown hts tw547 mv_X5_orderCell ⟨Nat.le_of_ble_eq_true rfl, Nat.le_of_ble_eq_true rfl⟩ rfl rfl (ct_X5_orderCell l D ct a f p1 p2 k v2 hc) (z_pv hK hP [3, 4] rfl 3 rfl rfl) hl.1 rfl rfl (Nat.le_of_ble_eq_true rfl) dX7_ofOrder_49 ⟨Nat.le_refl _, Nat.le_refl _⟩) ?_
          exact zR_i hx hb hr hlocks dX7_ofOrder_52 h
        · refine lv_aload_n hx hb dX7_ofOrder_32 rfl (lv_at hl 0 rfl) ?_
          refine z_get (C := RX7) (T := TX7) (N := 6) (ci := 6) hx hb hts zin_X7 hown hK.1 hP 0 1 rfl rfl (by decide) tw134 rfl rfl dX7_ofOrder_33 ?_
          refine lv_iload_n hx hb dX7_ofOrder_36 rfl (lv_at hl 1 rfl) ?_
          obtain ⟨v3, hc, h⟩ := zb1_s h
          refine zE_i (zrV (C := RX1) (As := [.int p1]) (rest := []) hx hb hml hown hts tw542 mv_X1_blocksToGive ⟨Nat.le_of_ble_eq_true rfl, Nat.le_of_ble_eq_true rfl⟩ rfl rfl (ct_X1_blocksToGive l D ct a f p1 k v3 hc) (z_pv hK hP [2, 3, 4] rfl 2 rfl rfl) hl.1 rfl rfl (Nat.le_of_ble_eq_true rfl) dX7_ofOrder_37 ⟨Nat.le_refl _, Nat.le_refl _⟩) ?_
          refine lv_goto (tgt := 52) hx hb dX7_ofOrder_40 (by decide) ?_
          exact zR_i hx hb hr hlocks dX7_ofOrder_52 h
      · refine lv_bipush (v := (-2 : Int32)) hx hb dX7_ofOrder_23 (by decide) ?_
        exact zR_i hx hb hr hlocks dX7_ofOrder_25 h
  · refine lv_iconst (v := (-1 : Int32)) hx hb dX7_ofOrder_11 (by decide) ?_
    exact zR_i hx hb hr hlocks dX7_ofOrder_12 h

def f_X0_ofFloat_b67 (k : Nat) (p1 : UInt32)  (x1 : UInt32) (x2 : Int32) : Option (Int32) :=
  zl (x2 <<< ((23 : Int32) &&& 31)) fun v2 =>
  zg (z32 (FP.fsub x1 FP.fconst1)) (zl (FP.fsub x1 FP.fconst1) fun v3 =>
  zg (z32 (FP.fmul v3 (1258291200 : UInt32))) (zl (FP.fmul v3 (1258291200 : UInt32)) fun v4 =>
  zl (FP.f2i v4) fun v5 =>
  zl (v2 ||| v5) fun v6 =>
  some v6))
def f_X0_ofFloat_b42 (k : Nat) (p1 : UInt32)  : Nat → UInt32 → Int32 → Int32 → Option (Int32)
  | 0, _, _, _ => none
  | n + 1, x1, x2, x3 =>
    if (100 : Int32) ≤ x3 then
      f_X0_ofFloat_b67 k p1 x1 x2
    else
      zl (Op.cmpValue (FP.fcmp x1 FP.fconst1) CmpOp.g) fun v7 =>
      if 0 ≤ v7 then
        f_X0_ofFloat_b67 k p1 x1 x2
      else
        zg (z32 (FP.fmul x1 FP.fconst2)) (zl (FP.fmul x1 FP.fconst2) fun v8 =>
        zl (x2 + (-1 : Int32)) fun v9 =>
        zl (x3 + (1 : Int32)) fun v10 =>
        f_X0_ofFloat_b42 k p1 n v8 v9 v10)
def f_X0_ofFloat_b15 (k : Nat) (p1 : UInt32)  : Nat → UInt32 → Int32 → Int32 → Option (Int32)
  | 0, _, _, _ => none
  | n + 1, x1, x2, x3 =>
    if (100 : Int32) ≤ x3 then
      f_X0_ofFloat_b42 k p1 k x1 x2 (0 : Int32)
    else
      zl (Op.cmpValue (FP.fcmp x1 FP.fconst2) CmpOp.l) fun v11 =>
      if v11 < 0 then
        f_X0_ofFloat_b42 k p1 k x1 x2 (0 : Int32)
      else
        zg (z32 (FP.fdiv x1 FP.fconst2)) (zl (FP.fdiv x1 FP.fconst2) fun v12 =>
        zl (x2 + (1 : Int32)) fun v13 =>
        zl (x3 + (1 : Int32)) fun v14 =>
        f_X0_ofFloat_b15 k p1 n v12 v13 v14)
def f_X0_ofFloat (k : Nat) (p1 : UInt32) : Option (Int32) :=
  zl (Op.cmpValue (FP.fcmp p1 FP.fconst0) CmpOp.g) fun v1 =>
  if 0 < v1 then
    f_X0_ofFloat_b15 k p1 k p1 (127 : Int32) (0 : Int32)
  else
    some (0 : Int32)
set_option maxRecDepth 100000 in
set_option maxHeartbeats 4000000 in
theorem ct_X0_ofFloat (l : Launch) (p1 : UInt32) (k : Nat) (r : Int32) (h : f_X0_ofFloat k p1 = some r) : Met l yX0_ofFloat (Cond.code yX0_ofFloat cX0_ofFloat 4 (some .int) :: zT) ({ frames := 0, cells := 0, slots := 0, locals := 0 } : Room) (va_Pc [.float p1] (fun _ => True)) (vp_Si (fun r' => r' = r)) 0 0 (fun _ => False) := by
  refine zMet (cc := cX0_ofFloat) (maxL := 4) (ret := (some .int)) (av := [.float p1]) (by decide) (Nat.le_of_ble_eq_true rfl) (fun p e s m below meth c ls hx hb hr hml hts hown hlocks hin hB hl => ?_)
  have hl : lv_has ls 4 [(0, .float p1)] := hl
  have hown : s.vm.findClass RX0 = some m.cls := hown
  have B67 : ∀ (x1 : UInt32) (x2 : Int32), f_X0_ofFloat_b67 k p1 x1 x2 = some r → ∀ (ls : Array Slot), lv_has ls 4 [(1, .float x1), (2, .int x2)] → W p l e ({ frames := 0, cells := 0, slots := 0, locals := 0 } : Room) s m ([.float p1] : List Value).toArray below meth c s.heap [] 0 0 (MQ below (vp_Si (fun r' => r' = r)) ([.float p1] : List Value).toArray s 0 0 (fun _ => False)) (F0 m 67 ls []) := by
    intro x1 x2 h ls hl
    rw [f_X0_ofFloat_b67] at h
    refine lv_iload_n hx hb dX0_ofFloat_67 rfl (lv_at hl 1 rfl) ?_
    refine lv_bipush (v := (23 : Int32)) hx hb dX0_ofFloat_68 (by decide) ?_
    refine o_ishl hx hb dX0_ofFloat_70 h (fun v2 h => ?_)
    refine lv_fload_n hx hb dX0_ofFloat_71 rfl (lv_at hl 0 rfl) ?_
    refine lv_fconst1 hx hb dX0_ofFloat_72 ?_
    refine o_fsub hx hb dX0_ofFloat_73 h (fun v3 h => ?_)
    refine lv_ldcf (v := (1258291200 : UInt32)) hx hb hown (hts _ (List.mem_cons_of_mem _ tw533)) dX0_ofFloat_74 ?_
    refine o_fmul hx hb dX0_ofFloat_76 h (fun v4 h => ?_)
    refine o_f2i hx hb dX0_ofFloat_77 h (fun v5 h => ?_)
    refine o_ior hx hb dX0_ofFloat_78 h (fun v6 h => ?_)
    exact zR_i hx hb hr hlocks dX0_ofFloat_79 h
  have B42 : ∀ (n : Nat), ∀ (x1 : UInt32) (x2 : Int32) (x3 : Int32), f_X0_ofFloat_b42 k p1 n x1 x2 x3 = some r → ∀ (ls : Array Slot), lv_has ls 4 [(1, .float x1), (2, .int x2), (3, .int x3)] → W p l e ({ frames := 0, cells := 0, slots := 0, locals := 0 } : Room) s m ([.float p1] : List Value).toArray below meth c s.heap [] 0 0 (MQ below (vp_Si (fun r' => r' = r)) ([.float p1] : List Value).toArray s 0 0 (fun _ => False)) (F0 m 42 ls []) := by
    intro n
    induction n with
    | zero => intro x1 x2 x3 h; exact absurd h (by rw [f_X0_ofFloat_b42]; exact fun q => nomatch q)
    | succ n ih42 =>
      intro x1 x2 x3 h ls hl
      rw [f_X0_ofFloat_b42] at h
      refine lv_iload_n hx hb dX0_ofFloat_42 rfl (lv_at hl 2 rfl) ?_
      refine lv_bipush (v := (100 : Int32)) hx hb dX0_ofFloat_43 (by decide) ?_
      refine zc_ge (tgt := 67) hx hb dX0_ofFloat_45 (by decide) h (fun h => ?_) (fun h => ?_)
      · exact B67 x1 x2 h ls (lv_sub hl [0, 1] rfl)
      · refine lv_fload_n hx hb dX0_ofFloat_48 rfl (lv_at hl 0 rfl) ?_
        refine lv_fconst1 hx hb dX0_ofFloat_49 ?_
        refine o_fcmp hx hb dX0_ofFloat_50 h (fun v7 h => ?_)
        refine zi_ge (tgt := 67) hx hb dX0_ofFloat_51 (by decide) h (fun h => ?_) (fun h => ?_)
        · exact B67 x1 x2 h ls (lv_sub hl [0, 1] rfl)
        · refine lv_fload_n hx hb dX0_ofFloat_54 rfl (lv_at hl 0 rfl) ?_
          refine lv_fconst2 hx hb dX0_ofFloat_55 ?_
          refine o_fmul hx hb dX0_ofFloat_56 h (fun v8 h => ?_)
          refine lv_fstore_n (lv' := [(1, .float v8), (2, .int x2), (3, .int x3)]) hx hb dX0_ofFloat_57 rfl hl (by decide) rfl (fun ls hl => ?_)
          refine o_nm h (fun v9 ey h => ?_)
          refine lv_iinc (v := v9) (lv' := [(2, .int v9), (1, .float v8), (3, .int x3)]) hx hb dX0_ofFloat_58 hl (k := 1) rfl (Eq.trans rfl ey) (by decide) rfl (fun ls hl => ?_)
          refine o_nm h (fun v10 ey h => ?_)
          refine lv_iinc (v := v10) (lv' := [(3, .int v10), (2, .int v9), (1, .float v8)]) hx hb dX0_ofFloat_61 hl (k := 2) rfl (Eq.trans rfl ey) (by decide) rfl (fun ls hl => ?_)
          refine lv_goto (tgt := 42) hx hb dX0_ofFloat_64 (by decide) ?_
          exact ih42 v8 v9 v10 h ls (lv_sub hl [2, 1, 0] rfl)
  have B15 : ∀ (n : Nat), ∀ (x1 : UInt32) (x2 : Int32) (x3 : Int32), f_X0_ofFloat_b15 k p1 n x1 x2 x3 = some r → ∀ (ls : Array Slot), lv_has ls 4 [(1, .float x1), (2, .int x2), (3, .int x3)] → W p l e ({ frames := 0, cells := 0, slots := 0, locals := 0 } : Room) s m ([.float p1] : List Value).toArray below meth c s.heap [] 0 0 (MQ below (vp_Si (fun r' => r' = r)) ([.float p1] : List Value).toArray s 0 0 (fun _ => False)) (F0 m 15 ls []) := by
    intro n
    induction n with
    | zero => intro x1 x2 x3 h; exact absurd h (by rw [f_X0_ofFloat_b15]; exact fun q => nomatch q)
    | succ n ih15 =>
      intro x1 x2 x3 h ls hl
      rw [f_X0_ofFloat_b15] at h
      refine lv_iload_n hx hb dX0_ofFloat_15 rfl (lv_at hl 2 rfl) ?_
      refine lv_bipush (v := (100 : Int32)) hx hb dX0_ofFloat_16 (by decide) ?_
      refine zc_ge (tgt := 40) hx hb dX0_ofFloat_18 (by decide) h (fun h => ?_) (fun h => ?_)
      · refine lv_iconst (v := (0 : Int32)) hx hb dX0_ofFloat_40 (by decide) ?_
        refine lv_istore_n (lv' := [(3, .int (0 : Int32)), (1, .float x1), (2, .int x2)]) hx hb dX0_ofFloat_41 rfl hl (by decide) rfl (fun ls hl => ?_)
        exact B42 k x1 x2 (0 : Int32) h ls (lv_sub hl [1, 2, 0] rfl)
      · refine lv_fload_n hx hb dX0_ofFloat_21 rfl (lv_at hl 0 rfl) ?_
        refine lv_fconst2 hx hb dX0_ofFloat_22 ?_
        refine o_fcmp hx hb dX0_ofFloat_23 h (fun v11 h => ?_)
        refine zi_lt (tgt := 40) hx hb dX0_ofFloat_24 (by decide) h (fun h => ?_) (fun h => ?_)
        · refine lv_iconst (v := (0 : Int32)) hx hb dX0_ofFloat_40 (by decide) ?_
          refine lv_istore_n (lv' := [(3, .int (0 : Int32)), (1, .float x1), (2, .int x2)]) hx hb dX0_ofFloat_41 rfl hl (by decide) rfl (fun ls hl => ?_)
          exact B42 k x1 x2 (0 : Int32) h ls (lv_sub hl [1, 2, 0] rfl)
        · refine lv_fload_n hx hb dX0_ofFloat_27 rfl (lv_at hl 0 rfl) ?_
          refine lv_fconst2 hx hb dX0_ofFloat_28 ?_
          refine o_fdiv hx hb dX0_ofFloat_29 h (fun v12 h => ?_)
          refine lv_fstore_n (lv' := [(1, .float v12), (2, .int x2), (3, .int x3)]) hx hb dX0_ofFloat_30 rfl hl (by decide) rfl (fun ls hl => ?_)
          refine o_nm h (fun v13 ey h => ?_)
          refine lv_iinc (v := v13) (lv' := [(2, .int v13), (1, .float v12), (3, .int x3)]) hx hb dX0_ofFloat_31 hl (k := 1) rfl (Eq.trans rfl ey) (by decide) rfl (fun ls hl => ?_)
          refine o_nm h (fun v14 ey h => ?_)
          refine lv_iinc (v := v14) (lv' := [(3, .int v14), (2, .int v13), (1, .float v12)]) hx hb dX0_ofFloat_34 hl (k := 2) rfl (Eq.trans rfl ey) (by decide) rfl (fun ls hl => ?_)
          refine lv_goto (tgt := 15) hx hb dX0_ofFloat_37 (by decide) ?_
          exact ih15 v12 v13 v14 h ls (lv_sub hl [2, 1, 0] rfl)
  rw [f_X0_ofFloat] at h
  refine lv_fload_n hx hb dX0_ofFloat_0 rfl (lv_at hl 0 rfl) ?_
  refine lv_fconst0 hx hb dX0_ofFloat_1 ?_
  refine o_fcmp hx hb dX0_ofFloat_2 h (fun v1 h => ?_)
  refine zi_gt (tgt := 8) hx hb dX0_ofFloat_3 (by decide) h (fun h => ?_) (fun h => ?_)
  · refine lv_fload_n hx hb dX0_ofFloat_8 rfl (lv_at hl 0 rfl) ?_
    refine lv_fstore_n (lv' := [(1, .float p1), (0, .float p1)]) hx hb dX0_ofFloat_9 rfl hl (by decide) rfl (fun ls hl => ?_)
    refine lv_bipush (v := (127 : Int32)) hx hb dX0_ofFloat_10 (by decide) ?_
    refine lv_istore_n (lv' := [(2, .int (127 : Int32)), (1, .float p1), (0, .float p1)]) hx hb dX0_ofFloat_12 rfl hl (by decide) rfl (fun ls hl => ?_)
    refine lv_iconst (v := (0 : Int32)) hx hb dX0_ofFloat_13 (by decide) ?_
    refine lv_istore_n (lv' := [(3, .int (0 : Int32)), (2, .int (127 : Int32)), (1, .float p1), (0, .float p1)]) hx hb dX0_ofFloat_14 rfl hl (by decide) rfl (fun ls hl => ?_)
    exact B15 k p1 (127 : Int32) (0 : Int32) h ls (lv_sub hl [2, 1, 0] rfl)
  · refine lv_iconst (v := (0 : Int32)) hx hb dX0_ofFloat_6 (by decide) ?_
    exact zR_i hx hb hr hlocks dX0_ofFloat_7 h

def f_X7_ofLorry (k : Nat) (f : Nat → Int32) (p1 : Int32) (p2 : Int32) : Option (Int32) :=
  zb1 (f_X7_isLorry k p1) fun v1 =>
  if v1 = 0 then
    some (-1 : Int32)
  else
    if p2 = (0 : Int32) then
      zb1 (f_X1_loadOf k f p1) fun v2 =>
      some v2
    else
    if p2 = (1 : Int32) then
      zb1 (f_X1_front k f p1 (-6 : Int32) (0 : Int32)) fun v3 =>
      zb1 (f_X0_ofFloat k v3) fun v4 =>
      some v4
    else
    if p2 = (2 : Int32) then
      zb1 (f_X1_rear k f p1 (-6 : Int32) (0 : Int32)) fun v5 =>
      zb1 (f_X0_ofFloat k v5) fun v6 =>
      some v6
    else
    if p2 = (3 : Int32) then
      zb1 (f_X1_blocksOn k f p1) fun v7 =>
      some v7
    else
    if p2 = (4 : Int32) then
      zb1 (f_X5_lorryCell k f p1 (0 : Int32)) fun v8 =>
      some v8
    else
    if p2 = (5 : Int32) then
      zb1 (f_X5_lorryCell k f p1 (1 : Int32)) fun v9 =>
      some v9
    else
    if p2 = (6 : Int32) then
      zb1 (f_X5_lorryCell k f p1 (2 : Int32)) fun v10 =>
      some v10
    else
    if p2 = (7 : Int32) then
      zb1 (f_X5_lorryCell k f p1 (3 : Int32)) fun v11 =>
      some v11
    else
      some (-2 : Int32)
set_option maxRecDepth 100000 in
set_option maxHeartbeats 4000000 in
theorem ct_X7_ofLorry (l : Launch) (D : va_G) (ct a : Nat → Nat) (f : Nat → Int32) (g : Nat → Nat → Int32) (nx : Int32) (hz : Int32) (sw : Nat → Nat → Int32) (fl : Nat → Int32) (sg : Nat → Int32) (pl : Int32) (pa : Int32) (pk : Int32) (pn : Nat → Int32) (pf : Int32) (pg : Int32) (p1 : Int32) (p2 : Int32) (k : Nat) (r : Int32) (h : f_X7_ofLorry k f p1 p2 = some r) : Met l yX7_ofLorry (Cond.code yX7_ofLorry cX7_ofLorry 3 (some .int) :: zT) ({ frames := 4, cells := 0, slots := 0, locals := 92 } : Room) (va_Pc [.ref (a 0), .int p1, .int p2] (zPR D (zTys ct) (wX7 ct a f g nx hz sw fl sg pl pa pk pn pf pg))) (vp_Si (fun r' => r' = r)) 0 0 (fun _ => False) := by
  refine zMet (cc := cX7_ofLorry) (maxL := 3) (ret := (some .int)) (av := [.ref (a 0), .int p1, .int p2]) (by decide) (Nat.le_of_ble_eq_true rfl) (fun p e s m below meth c ls hx hb hr hml hts hown hlocks hin hB hl => ?_)
  have hl : lv_has ls 3 [(0, .ref (a 0)), (1, .int p1), (2, .int p2)] := hl
  have hown : s.vm.findClass RX7 = some m.cls := hown
  obtain ⟨hP, hK⟩ := hB
  rw [f_X7_ofLorry] at h
  refine lv_iload_n hx hb dX7_ofLorry_0 rfl (lv_at hl 1 rfl) ?_
  obtain ⟨v1, hc, h⟩ := zb1_s h
  refine zE_i (zrS (As := [.int p1]) (rest := []) hx hb hml hown hts tw527 ms_X7_isLorry ⟨Nat.le_of_ble_eq_true rfl, Nat.le_of_ble_eq_true rfl⟩ rfl rfl (ct_X7_isLorry l p1 k v1 hc) z_p0 hl.1 rfl rfl (Nat.le_of_ble_eq_true rfl) dX7_ofLorry_1 ⟨Nat.le_refl _, Nat.le_refl _⟩) ?_
  refine zi_ne (tgt := 9) hx hb dX7_ofLorry_4 (by decide) h (fun h => ?_) (fun h => ?_)
  · refine lv_iload_n hx hb dX7_ofLorry_9 rfl (lv_at hl 2 rfl) ?_
    refine o_sw h (fun q0 h => ?_) (fun q0 h => ?_)
    · refine lv_tableIn (off := (46 : Int)) (tgt := 56) hx hb dX7_ofLorry_10 (by rw [q0]; decide) (by rw [q0]; decide) (by rw [q0]; decide) (by decide) ?_
      refine lv_aload_n hx hb dX7_ofLorry_56 rfl (lv_at hl 0 rfl) ?_
      refine z_get (C := RX7) (T := TX7) (N := 6) (ci := 6) hx hb hts zin_X7 hown hK.1 hP 0 1 rfl rfl (by decide) tw134 rfl rfl dX7_ofLorry_57 ?_
      refine lv_iload_n hx hb dX7_ofLorry_60 rfl (lv_at hl 1 rfl) ?_
      obtain ⟨v2, hc, h⟩ := zb1_s h
      refine zE_i (zrV (C := RX1) (As := [.int p1]) (rest := []) hx hb hml hown hts tw528 mv_X1_loadOf ⟨Nat.le_of_ble_eq_true rfl, Nat.le_of_ble_eq_true rfl⟩ rfl rfl (ct_X1_loadOf l D ct a f p1 k v2 hc) (z_pv hK hP [2, 3, 4] rfl 2 rfl rfl) hl.1 rfl rfl (Nat.le_of_ble_eq_true rfl) dX7_ofLorry_61 ⟨Nat.le_refl _, Nat.le_refl _⟩) ?_
      exact zR_i hx hb hr hlocks dX7_ofLorry_64 h
    refine o_sw h (fun q1 h => ?_) (fun q1 h => ?_)
    · refine lv_tableIn (off := (55 : Int)) (tgt := 65) hx hb dX7_ofLorry_10 (by rw [q1]; decide) (by rw [q1]; decide) (by rw [q1]; decide) (by decide) ?_
      refine lv_aload_n hx hb dX7_ofLorry_65 rfl (lv_at hl 0 rfl) ?_
      refine z_get (C := RX7) (T := TX7) (N := 6) (ci := 6) hx hb hts zin_X7 hown hK.1 hP 0 1 rfl rfl (by decide) tw134 rfl rfl dX7_ofLorry_66 ?_
      refine lv_iload_n hx hb dX7_ofLorry_69 rfl (lv_at hl 1 rfl) ?_
      refine lv_bipush (v := (-6 : Int32)) hx hb dX7_ofLorry_70 (by decide) ?_
      refine lv_iconst (v := (0 : Int32)) hx hb dX7_ofLorry_72 (by decide) ?_
      obtain ⟨v3, hc, h⟩ := zb1_s h
      refine zE_f (zrV (C := RX1) (As := [.int p1, .int (-6 : Int32), .int (0 : Int32)]) (rest := []) hx hb hml hown hts tw529 mv_X1_front ⟨Nat.le_of_ble_eq_true rfl, Nat.le_of_ble_eq_true rfl⟩ rfl rfl (ct_X1_front l D ct a f p1 (-6 : Int32) (0 : Int32) k v3 hc) (z_pv hK hP [2, 3, 4] rfl 2 rfl rfl) hl.1 rfl rfl (Nat.le_of_ble_eq_true rfl) dX7_ofLorry_73 ⟨Nat.le_refl _, Nat.le_refl _⟩) ?_
      obtain ⟨v4, hc, h⟩ := zb1_s h
      refine zE_i (zrS (As := [.float v3]) (rest := []) hx hb hml hown hts tw530 ms_X0_ofFloat ⟨Nat.le_of_ble_eq_true rfl, Nat.le_of_ble_eq_true rfl⟩ rfl rfl (ct_X0_ofFloat l v3 k v4 hc) z_p0 hl.1 rfl rfl (Nat.le_of_ble_eq_true rfl) dX7_ofLorry_76 ⟨Nat.le_refl _, Nat.le_refl _⟩) ?_
      exact zR_i hx hb hr hlocks dX7_ofLorry_79 h
    refine o_sw h (fun q2 h => ?_) (fun q2 h => ?_)
    · refine lv_tableIn (off := (70 : Int)) (tgt := 80) hx hb dX7_ofLorry_10 (by rw [q2]; decide) (by rw [q2]; decide) (by rw [q2]; decide) (by decide) ?_
      refine lv_aload_n hx hb dX7_ofLorry_80 rfl (lv_at hl 0 rfl) ?_
      refine z_get (C := RX7) (T := TX7) (N := 6) (ci := 6) hx hb hts zin_X7 hown hK.1 hP 0 1 rfl rfl (by decide) tw134 rfl rfl dX7_ofLorry_81 ?_
      refine lv_iload_n hx hb dX7_ofLorry_84 rfl (lv_at hl 1 rfl) ?_
      refine lv_bipush (v := (-6 : Int32)) hx hb dX7_ofLorry_85 (by decide) ?_
      refine lv_iconst (v := (0 : Int32)) hx hb dX7_ofLorry_87 (by decide) ?_
      obtain ⟨v5, hc, h⟩ := zb1_s h
      refine zE_f (zrV (C := RX1) (As := [.int p1, .int (-6 : Int32), .int (0 : Int32)]) (rest := []) hx hb hml hown hts tw534 mv_X1_rear ⟨Nat.le_of_ble_eq_true rfl, Nat.le_of_ble_eq_true rfl⟩ rfl rfl (ct_X1_rear l D ct a f p1 (-6 : Int32) (0 : Int32) k v5 hc) (z_pv hK hP [2, 3, 4] rfl 2 rfl rfl) hl.1 rfl rfl (Nat.le_of_ble_eq_true rfl) dX7_ofLorry_88 ⟨Nat.le_refl _, Nat.le_refl _⟩) ?_
      obtain ⟨v6, hc, h⟩ := zb1_s h
      refine zE_i (zrS (As := [.float v5]) (rest := []) hx hb hml hown hts tw530 ms_X0_ofFloat ⟨Nat.le_of_ble_eq_true rfl, Nat.le_of_ble_eq_true rfl⟩ rfl rfl (ct_X0_ofFloat l v5 k v6 hc) z_p0 hl.1 rfl rfl (Nat.le_of_ble_eq_true rfl) dX7_ofLorry_91 ⟨Nat.le_refl _, Nat.le_refl _⟩) ?_
      exact zR_i hx hb hr hlocks dX7_ofLorry_94 h
    refine o_sw h (fun q3 h => ?_) (fun q3 h => ?_)
    · refine lv_tableIn (off := (85 : Int)) (tgt := 95) hx hb dX7_ofLorry_10 (by rw [q3]; decide) (by rw [q3]; decide) (by rw [q3]; decide) (by decide) ?_
      refine lv_aload_n hx hb dX7_ofLorry_95 rfl (lv_at hl 0 rfl) ?_
      refine z_get (C := RX7) (T := TX7) (N := 6) (ci := 6) hx hb hts zin_X7 hown hK.1 hP 0 1 rfl rfl (by decide) tw134 rfl rfl dX7_ofLorry_96 ?_
      refine lv_iload_n hx hb dX7_ofLorry_99 rfl (lv_at hl 1 rfl) ?_
      obtain ⟨v7, hc, h⟩ := zb1_s h
      refine zE_i (zrV (C := RX1) (As := [.int p1]) (rest := []) hx hb hml hown hts tw535 mv_X1_blocksOn ⟨Nat.le_of_ble_eq_true rfl, Nat.le_of_ble_eq_true rfl⟩ rfl rfl (ct_X1_blocksOn l D ct a f p1 k v7 hc) (z_pv hK hP [2, 3, 4] rfl 2 rfl rfl) hl.1 rfl rfl (Nat.le_of_ble_eq_true rfl) dX7_ofLorry_100 ⟨Nat.le_refl _, Nat.le_refl _⟩) ?_
      exact zR_i hx hb hr hlocks dX7_ofLorry_103 h
    refine o_sw h (fun q4 h => ?_) (fun q4 h => ?_)
    · refine lv_tableIn (off := (94 : Int)) (tgt := 104) hx hb dX7_ofLorry_10 (by rw [q4]; decide) (by rw [q4]; decide) (by rw [q4]; decide) (by decide) ?_
      refine lv_aload_n hx hb dX7_ofLorry_104 rfl (lv_at hl 0 rfl) ?_
      refine z_get (C := RX7) (T := TX7) (N := 6) (ci := 6) hx hb hts zin_X7 hown hK.1 hP 0 0 rfl rfl (by decide) tw133 rfl rfl dX7_ofLorry_105 ?_
      refine lv_iload_n hx hb dX7_ofLorry_108 rfl (lv_at hl 1 rfl) ?_
      refine lv_iconst (v := (0 : Int32)) hx hb dX7_ofLorry_109 (by decide) ?_
      obtain ⟨v8, hc, h⟩ := zb1_s h
      refine zE_i (zrV (C := RX5) (As := [.int p1, .int (0 : Int32)]) (rest := []) hx hb hml hown hts tw536 mv_X5_lorryCell ⟨Nat.le_of_ble_eq_true rfl, Nat.le_of_ble_eq_true rfl⟩ rfl rfl (ct_X5_lorryCell l D ct a f p1 (0 : Int32) k v8 hc) (z_pv hK hP [3, 4] rfl 3 rfl rfl) hl.1 rfl rfl (Nat.le_of_ble_eq_true rfl) dX7_ofLorry_110 ⟨Nat.le_refl _, Nat.le_refl _⟩) ?_
      exact zR_i hx hb hr hlocks dX7_ofLorry_113 h
    refine o_sw h (fun q5 h => ?_) (fun q5 h => ?_)
    · refine lv_tableIn (off := (104 : Int)) (tgt := 114) hx hb dX7_ofLorry_10 (by rw [q5]; decide) (by rw [q5]; decide) (by rw [q5]; decide) (by decide) ?_
      refine lv_aload_n hx hb dX7_ofLorry_114 rfl (lv_at hl 0 rfl) ?_
      refine z_get (C := RX7) (T := TX7) (N := 6) (ci := 6) hx hb hts zin_X7 hown hK.1 hP 0 0 rfl rfl (by decide) tw133 rfl rfl dX7_ofLorry_115 ?_
      refine lv_iload_n hx hb dX7_ofLorry_118 rfl (lv_at hl 1 rfl) ?_
      refine lv_iconst (v := (1 : Int32)) hx hb dX7_ofLorry_119 (by decide) ?_
      obtain ⟨v9, hc, h⟩ := zb1_s h
      refine zE_i (zrV (C := RX5) (As := [.int p1, .int (1 : Int32)]) (rest := []) hx hb hml hown hts tw536 mv_X5_lorryCell ⟨Nat.le_of_ble_eq_true rfl, Nat.le_of_ble_eq_true rfl⟩ rfl rfl (ct_X5_lorryCell l D ct a f p1 (1 : Int32) k v9 hc) (z_pv hK hP [3, 4] rfl 3 rfl rfl) hl.1 rfl rfl (Nat.le_of_ble_eq_true rfl) dX7_ofLorry_120 ⟨Nat.le_refl _, Nat.le_refl _⟩) ?_
      exact zR_i hx hb hr hlocks dX7_ofLorry_123 h
    refine o_sw h (fun q6 h => ?_) (fun q6 h => ?_)
    · refine lv_tableIn (off := (114 : Int)) (tgt := 124) hx hb dX7_ofLorry_10 (by rw [q6]; decide) (by rw [q6]; decide) (by rw [q6]; decide) (by decide) ?_
      refine lv_aload_n hx hb dX7_ofLorry_124 rfl (lv_at hl 0 rfl) ?_
      refine z_get (C := RX7) (T := TX7) (N := 6) (ci := 6) hx hb hts zin_X7 hown hK.1 hP 0 0 rfl rfl (by decide) tw133 rfl rfl dX7_ofLorry_125 ?_
      refine lv_iload_n hx hb dX7_ofLorry_128 rfl (lv_at hl 1 rfl) ?_
      refine lv_iconst (v := (2 : Int32)) hx hb dX7_ofLorry_129 (by decide) ?_
      obtain ⟨v10, hc, h⟩ := zb1_s h
      refine zE_i (zrV (C := RX5) (As := [.int p1, .int (2 : Int32)]) (rest := []) hx hb hml hown hts tw536 mv_X5_lorryCell ⟨Nat.le_of_ble_eq_true rfl, Nat.le_of_ble_eq_true rfl⟩ rfl rfl (ct_X5_lorryCell l D ct a f p1 (2 : Int32) k v10 hc) (z_pv hK hP [3, 4] rfl 3 rfl rfl) hl.1 rfl rfl (Nat.le_of_ble_eq_true rfl) dX7_ofLorry_130 ⟨Nat.le_refl _, Nat.le_refl _⟩) ?_
      exact zR_i hx hb hr hlocks dX7_ofLorry_133 h
    refine o_sw h (fun q7 h => ?_) (fun q7 h => ?_)
    · refine lv_tableIn (off := (124 : Int)) (tgt := 134) hx hb dX7_ofLorry_10 (by rw [q7]; decide) (by rw [q7]; decide) (by rw [q7]; decide) (by decide) ?_
      refine lv_aload_n hx hb dX7_ofLorry_134 rfl (lv_at hl 0 rfl) ?_
      refine z_get (C := RX7) (T := TX7) (N := 6) (ci := 6) hx hb hts zin_X7 hown hK.1 hP 0 0 rfl rfl (by decide) tw133 rfl rfl dX7_ofLorry_135 ?_
      refine lv_iload_n hx hb dX7_ofLorry_138 rfl (lv_at hl 1 rfl) ?_
      refine lv_iconst (v := (3 : Int32)) hx hb dX7_ofLorry_139 (by decide) ?_
      obtain ⟨v11, hc, h⟩ := zb1_s h
      refine zE_i (zrV (C := RX5) (As := [.int p1, .int (3 : Int32)]) (rest := []) hx hb hml hown hts tw536 mv_X5_lorryCell ⟨Nat.le_of_ble_eq_true rfl, Nat.le_of_ble_eq_true rfl⟩ rfl rfl (ct_X5_lorryCell l D ct a f p1 (3 : Int32) k v11 hc) (z_pv hK hP [3, 4] rfl 3 rfl rfl) hl.1 rfl rfl (Nat.le_of_ble_eq_true rfl) dX7_ofLorry_140 ⟨Nat.le_refl _, Nat.le_refl _⟩) ?_
      exact zR_i hx hb hr hlocks dX7_ofLorry_143 h
    · refine lv_tableOut (tgt := 144) hx hb dX7_ofLorry_10 (by have w0 := lv_neT (a := 0) q0 rfl; have w1 := lv_neT (a := 1) q1 rfl; have w2 := lv_neT (a := 2) q2 rfl; have w3 := lv_neT (a := 3) q3 rfl; have w4 := lv_neT (a := 4) q4 rfl; have w5 := lv_neT (a := 5) q5 rfl; have w6 := lv_neT (a := 6) q6 rfl; have w7 := lv_neT (a := 7) q7 rfl; omega) (by decide) ?_
      refine lv_bipush (v := (-2 : Int32)) hx hb dX7_ofLorry_144 (by decide) ?_
      exact zR_i hx hb hr hlocks dX7_ofLorry_146 h
  · refine lv_iconst (v := (-1 : Int32)) hx hb dX7_ofLorry_7 (by decide) ?_
    exact zR_i hx hb hr hlocks dX7_ofLorry_8 h

