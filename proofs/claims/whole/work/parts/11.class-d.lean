/-! written by wip/whole/gen.py: each method as a function, and its contract -/
def f_X3_readPart (k : Nat) (sg : Nat → Int32) (pl : Int32) (pa : Int32) (pn : Nat → Int32) (pf : Int32) (pg : Int32) (p1 : Int32) : Option (Int32 × Int32 × (Nat → Int32) × Int32 × Int32) :=
  if p1 = (45 : Int32) then
    zb2 (f_X3_take k sg pl pa (45 : Int32)) fun v1 pa2 =>
    zg (zbo v1) (zl v1 fun pg3 =>
    some ((1 : Int32), pa2, pn, pf, pg3))
  else
  if p1 = (68 : Int32) then
    zb4 (f_X3_readNumber k sg pl pa pn pf pg (1 : Int32)) fun v4 pa5 pn6 pf7 =>
    zg (zbo v4) (some (v4, pa5, pn6, pf7, pg))
  else
  if p1 = (78 : Int32) then
    zb4 (f_X3_readNumber k sg pl pa pn pf pg (3 : Int32)) fun v8 pa9 pn10 pf11 =>
    zg (zbo v8) (some (v8, pa9, pn10, pf11, pg))
  else
    zb2 (f_X3_take k sg pl pa p1) fun v12 pa13 =>
    zg (zbo v12) (some (v12, pa13, pn, pf, pg))
set_option maxRecDepth 100000 in
set_option maxHeartbeats 4000000 in
theorem ct_X3_readPart (l : Launch) (D : va_G) (ct a : Nat → Nat) (sg : Nat → Int32) (pl : Int32) (pa : Int32) (pk : Int32) (pn : Nat → Int32) (pf : Int32) (pg : Int32) (sz : Nat) (p1 : Int32) (k : Nat) (r : Int32) (pa' : Int32) (pn' : Nat → Int32) (pf' : Int32) (pg' : Int32) (h : f_X3_readPart k sg pl pa pn pf pg p1 = some (r, pa', pn', pf', pg')) : Met l yX3_readPart (Cond.code yX3_readPart cX3_readPart 2 (some .boolean) :: zT) ({ frames := 2, cells := 0, slots := 0, locals := 43 } : Room) (va_Pc [.ref (a 10), .int p1] (zPW D (zTys ct) (wX3 ct a sg pl pa pk pn pf pg) sz)) (va_Qi (fun r' (_ : Unit) => r' = r) (zQW D (wX3 ct a sg pl pa pk pn pf pg) sz (wX3 ct a sg pl pa' pk pn' pf' pg')) (va_A (wX3 ct a sg pl pa pk pn pf pg) sz)) 0 0 (va_A (wX3 ct a sg pl pa pk pn pf pg) sz) := by
  refine zMet (cc := cX3_readPart) (maxL := 2) (ret := (some .boolean)) (av := [.ref (a 10), .int p1]) (by decide) (Nat.le_of_ble_eq_true rfl) (fun p e s m below meth c ls hx hb hr hml hts hown hlocks hin hB hl => ?_)
  have hl : lv_has ls 2 [(0, .ref (a 10)), (1, .int p1)] := hl
  have hown : s.vm.findClass RX3 = some m.cls := hown
  obtain ⟨hsz, hP, hK, hD0⟩ := hB
  subst hsz
  have hD := hD0.self (sz := s.heap.size)
  obtain ⟨A, hAe⟩ : ∃ A, A = va_A (wX3 ct a sg pl pa pk pn pf pg) s.heap.size := ⟨_, rfl⟩
  rw [← hAe] at hD
  have hA : ∀ q : Nat, s.heap.size ≤ q → A q := fun q h => by rw [hAe]; exact Or.inr h
  have hS : va_S A s.heap s.heap [] := va_S.rf
  rw [f_X3_readPart] at h
  refine lv_iload_n hx hb dX3_readPart_0 rfl (lv_at hl 1 rfl) ?_
  refine o_sw h (fun q0 h => ?_) (fun q0 h => ?_)
  · refine lv_lookup (off := (47 : Int)) (tgt := 48) hx hb dX3_readPart_1 (by decide) (by rw [q0]; decide) (by decide) ?_
    refine lv_aload_n hx hb dX3_readPart_48 rfl (lv_at hl 0 rfl) ?_
    refine lv_aload_n hx hb dX3_readPart_49 rfl (lv_at hl 0 rfl) ?_
    refine lv_bipush (v := (45 : Int32)) hx hb dX3_readPart_50 (by decide) ?_
    obtain ⟨v1, pa2, hc, h⟩ := zb2_s h
    refine zG_i (w1 := wX3 ct a sg pl pa2 pk pn pf pg) (ws' := wX3 ct a sg pl pa2 pk pn pf pg) hP hD hS hA [0, 1, 2] [] [0, 1, 2] rfl rfl (by decide) (by decide) rfl (by decide) (zrV (C := RX3) (As := [.int (45 : Int32)]) (rest := [.ref (a 10)]) hx hb hml hown hts tw654 mv_X3_take ⟨Nat.le_of_ble_eq_true rfl, Nat.le_of_ble_eq_true rfl⟩ rfl rfl (ct_X3_take l D ct a sg pl pa pk pn pf pg _ (45 : Int32) k v1 pa2 hc) (z_wv hK hP hD [0, 1, 2] (by decide) rfl 0 rfl rfl) hl.1 rfl rfl (Nat.le_of_ble_eq_true rfl) dX3_readPart_52 ⟨Nat.le_refl _, Nat.le_refl _⟩) (fun H locs hP hD hS => ?_)
    refine z_putz (C := RX3) (T := TX3) (N := 7) (ci := 2) hx hb hts zin_X3 tyX3 tyX3_ok nmX3 hown hK.1 hP hD hS 0 6 rfl rfl (by decide) tw171 rfl rfl (by decide +kernel) (Nat.le_of_ble_eq_true rfl) h dX3_readPart_55 (fun pg3 H locs h hP hD hS => ?_)
    have hP : va_P D vwCl (wX3 ct a sg pl pa2 pk pn pf pg3) H := hP
    have hD : va_D A (wX3 ct a sg pl pa2 pk pn pf pg3) := hD
    refine lv_iconst (v := (1 : Int32)) hx hb dX3_readPart_58 (by decide) ?_
    cases h
    exact zX_z hx hb hr hlocks hP hD hS hAe dX3_readPart_59 (by decide) rfl
  refine o_sw h (fun q1 h => ?_) (fun q1 h => ?_)
  · refine lv_lookup (off := (41 : Int)) (tgt := 42) hx hb dX3_readPart_1 (by decide) (by rw [q1]; decide) (by decide) ?_
    refine lv_aload_n hx hb dX3_readPart_42 rfl (lv_at hl 0 rfl) ?_
    refine lv_iconst (v := (1 : Int32)) hx hb dX3_readPart_43 (by decide) ?_
    obtain ⟨v4, pa5, pn6, pf7, hc, h⟩ := zb4_s h
    refine zG_i (w1 := wX3 ct a sg pl pa5 pk pn6 pf7 pg) (ws' := wX3 ct a sg pl pa5 pk pn6 pf7 pg) hP hD hS hA [0, 1, 2] [] [0, 1, 2] rfl rfl (by decide) (by decide) rfl (by decide) (zrV (C := RX3) (As := [.int (1 : Int32)]) (rest := []) hx hb hml hown hts tw729 mv_X3_readNumber ⟨Nat.le_of_ble_eq_true rfl, Nat.le_of_ble_eq_true rfl⟩ rfl rfl (ct_X3_readNumber l D ct a sg pl pa pk pn pf pg _ (1 : Int32) k v4 pa5 pn6 pf7 hc) (z_wv hK hP hD [0, 1, 2] (by decide) rfl 0 rfl rfl) hl.1 rfl rfl (Nat.le_of_ble_eq_true rfl) dX3_readPart_44 ⟨Nat.le_refl _, Nat.le_refl _⟩) (fun H locs hP hD hS => ?_)
    obtain ⟨hz, h⟩ := zg_s h
    cases h
    exact zX_z hx hb hr hlocks hP hD hS hAe dX3_readPart_47 hz rfl
  refine o_sw h (fun q2 h => ?_) (fun q2 h => ?_)
  · refine lv_lookup (off := (35 : Int)) (tgt := 36) hx hb dX3_readPart_1 (by decide) (by rw [q2]; decide) (by decide) ?_
    refine lv_aload_n hx hb dX3_readPart_36 rfl (lv_at hl 0 rfl) ?_
    refine lv_iconst (v := (3 : Int32)) hx hb dX3_readPart_37 (by decide) ?_
    obtain ⟨v8, pa9, pn10, pf11, hc, h⟩ := zb4_s h
    refine zG_i (w1 := wX3 ct a sg pl pa9 pk pn10 pf11 pg) (ws' := wX3 ct a sg pl pa9 pk pn10 pf11 pg) hP hD hS hA [0, 1, 2] [] [0, 1, 2] rfl rfl (by decide) (by decide) rfl (by decide) (zrV (C := RX3) (As := [.int (3 : Int32)]) (rest := []) hx hb hml hown hts tw729 mv_X3_readNumber ⟨Nat.le_of_ble_eq_true rfl, Nat.le_of_ble_eq_true rfl⟩ rfl rfl (ct_X3_readNumber l D ct a sg pl pa pk pn pf pg _ (3 : Int32) k v8 pa9 pn10 pf11 hc) (z_wv hK hP hD [0, 1, 2] (by decide) rfl 0 rfl rfl) hl.1 rfl rfl (Nat.le_of_ble_eq_true rfl) dX3_readPart_38 ⟨Nat.le_refl _, Nat.le_refl _⟩) (fun H locs hP hD hS => ?_)
    obtain ⟨hz, h⟩ := zg_s h
    cases h
    exact zX_z hx hb hr hlocks hP hD hS hAe dX3_readPart_41 hz rfl
  · refine lv_lookup (off := (59 : Int)) (tgt := 60) hx hb dX3_readPart_1 (by decide) (by show Op.lookupswitch.offset [(45, 47), (68, 41), (78, 35)] (59 : Int) _ = _; rw [lv_osw (a := 45) q0 rfl, lv_osw (a := 68) q1 rfl, lv_osw (a := 78) q2 rfl]; rfl) (by decide) ?_
    refine lv_aload_n hx hb dX3_readPart_60 rfl (lv_at hl 0 rfl) ?_
    refine lv_iload_n hx hb dX3_readPart_61 rfl (lv_at hl 1 rfl) ?_
    obtain ⟨v12, pa13, hc, h⟩ := zb2_s h
    refine zG_i (w1 := wX3 ct a sg pl pa13 pk pn pf pg) (ws' := wX3 ct a sg pl pa13 pk pn pf pg) hP hD hS hA [0, 1, 2] [] [0, 1, 2] rfl rfl (by decide) (by decide) rfl (by decide) (zrV (C := RX3) (As := [.int p1]) (rest := []) hx hb hml hown hts tw654 mv_X3_take ⟨Nat.le_of_ble_eq_true rfl, Nat.le_of_ble_eq_true rfl⟩ rfl rfl (ct_X3_take l D ct a sg pl pa pk pn pf pg _ p1 k v12 pa13 hc) (z_wv hK hP hD [0, 1, 2] (by decide) rfl 0 rfl rfl) hl.1 rfl rfl (Nat.le_of_ble_eq_true rfl) dX3_readPart_62 ⟨Nat.le_refl _, Nat.le_refl _⟩) (fun H locs hP hD hS => ?_)
    obtain ⟨hz, h⟩ := zg_s h
    cases h
    exact zX_z hx hb hr hlocks hP hD hS hAe dX3_readPart_65 hz rfl

def f_X3_kind (k : Nat) (pk : Int32) : Option (Int32) :=
  some pk
set_option maxRecDepth 100000 in
set_option maxHeartbeats 4000000 in
theorem ct_X3_kind (l : Launch) (D : va_G) (ct a : Nat → Nat) (sg : Nat → Int32) (pl : Int32) (pa : Int32) (pk : Int32) (pn : Nat → Int32) (pf : Int32) (pg : Int32) (k : Nat) (r : Int32) (h : f_X3_kind k pk = some r) : Met l yX3_kind (Cond.code yX3_kind cX3_kind 1 (some .int) :: zT) ({ frames := 0, cells := 0, slots := 0, locals := 0 } : Room) (va_Pc [.ref (a 10)] (zPR D (zTys ct) (wX3 ct a sg pl pa pk pn pf pg))) (vp_Si (fun r' => r' = r)) 0 0 (fun _ => False) := by
  refine zMet (cc := cX3_kind) (maxL := 1) (ret := (some .int)) (av := [.ref (a 10)]) (by decide) (Nat.le_of_ble_eq_true rfl) (fun p e s m below meth c ls hx hb hr hml hts hown hlocks hin hB hl => ?_)
  have hl : lv_has ls 1 [(0, .ref (a 10))] := hl
  have hown : s.vm.findClass RX3 = some m.cls := hown
  obtain ⟨hP, hK⟩ := hB
  rw [f_X3_kind] at h
  refine lv_aload_n hx hb dX3_kind_0 rfl (lv_at hl 0 rfl) ?_
  refine z_get (C := RX3) (T := TX3) (N := 7) (ci := 2) hx hb hts zin_X3 hown hK.1 hP 0 3 rfl rfl (by decide) tw168 rfl rfl dX3_kind_1 ?_
  exact zR_i hx hb hr hlocks dX3_kind_4 h

def f_X3_number (k : Nat) (pn : Nat → Int32) (pf : Int32) (p1 : Int32) : Option (Int32) :=
  if p1 < 0 then
    some (0 : Int32)
  else
    if pf ≤ p1 then
      some (0 : Int32)
    else
      if (4 : Int32) ≤ p1 then
        some (0 : Int32)
      else
        zg (zin p1 4) (zl (pn p1.toNatClampNeg) fun v1 =>
        some v1)
set_option maxRecDepth 100000 in
set_option maxHeartbeats 4000000 in
theorem ct_X3_number (l : Launch) (D : va_G) (ct a : Nat → Nat) (sg : Nat → Int32) (pl : Int32) (pa : Int32) (pk : Int32) (pn : Nat → Int32) (pf : Int32) (pg : Int32) (p1 : Int32) (k : Nat) (r : Int32) (h : f_X3_number k pn pf p1 = some r) : Met l yX3_number (Cond.code yX3_number cX3_number 2 (some .int) :: zT) ({ frames := 0, cells := 0, slots := 0, locals := 0 } : Room) (va_Pc [.ref (a 10), .int p1] (zPR D (zTys ct) (wX3 ct a sg pl pa pk pn pf pg))) (vp_Si (fun r' => r' = r)) 0 0 (fun _ => False) := by
  refine zMet (cc := cX3_number) (maxL := 2) (ret := (some .int)) (av := [.ref (a 10), .int p1]) (by decide) (Nat.le_of_ble_eq_true rfl) (fun p e s m below meth c ls hx hb hr hml hts hown hlocks hin hB hl => ?_)
  have hl : lv_has ls 2 [(0, .ref (a 10)), (1, .int p1)] := hl
  have hown : s.vm.findClass RX3 = some m.cls := hown
  obtain ⟨hP, hK⟩ := hB
  rw [f_X3_number] at h
  refine lv_iload_n hx hb dX3_number_0 rfl (lv_at hl 1 rfl) ?_
  refine zi_lt (tgt := 30) hx hb dX3_number_1 (by decide) h (fun h => ?_) (fun h => ?_)
  · refine lv_iconst (v := (0 : Int32)) hx hb dX3_number_30 (by decide) ?_
    exact zR_i hx hb hr hlocks dX3_number_31 h
  · refine lv_iload_n hx hb dX3_number_4 rfl (lv_at hl 1 rfl) ?_
    refine lv_aload_n hx hb dX3_number_5 rfl (lv_at hl 0 rfl) ?_
    refine z_get (C := RX3) (T := TX3) (N := 7) (ci := 2) hx hb hts zin_X3 hown hK.1 hP 0 5 rfl rfl (by decide) tw170 rfl rfl dX3_number_6 ?_
    refine zc_ge (tgt := 30) hx hb dX3_number_9 (by decide) h (fun h => ?_) (fun h => ?_)
    · refine lv_iconst (v := (0 : Int32)) hx hb dX3_number_30 (by decide) ?_
      exact zR_i hx hb hr hlocks dX3_number_31 h
    · refine lv_iload_n hx hb dX3_number_12 rfl (lv_at hl 1 rfl) ?_
      refine lv_aload_n hx hb dX3_number_13 rfl (lv_at hl 0 rfl) ?_
      refine z_get (C := RX3) (T := TX3) (N := 7) (ci := 2) hx hb hts zin_X3 hown hK.1 hP 0 4 rfl rfl (by decide) tw169 rfl rfl dX3_number_14 ?_
      refine y_alen (v := (4 : Int32)) hx hb hK hP 2 0 rfl rfl rfl dX3_number_17 ?_
      refine zc_ge (tgt := 30) hx hb dX3_number_18 (by decide) h (fun h => ?_) (fun h => ?_)
      · refine lv_iconst (v := (0 : Int32)) hx hb dX3_number_30 (by decide) ?_
        exact zR_i hx hb hr hlocks dX3_number_31 h
      · refine lv_aload_n hx hb dX3_number_21 rfl (lv_at hl 0 rfl) ?_
        refine z_get (C := RX3) (T := TX3) (N := 7) (ci := 2) hx hb hts zin_X3 hown hK.1 hP 0 4 rfl rfl (by decide) tw169 rfl rfl dX3_number_22 ?_
        refine lv_iload_n hx hb dX3_number_25 rfl (lv_at hl 1 rfl) ?_
        refine y_iald hx hb hK hP 2 0 rfl rfl h dX3_number_26 (fun v1 h => ?_)
        refine lv_goto (tgt := 31) hx hb dX3_number_27 (by decide) ?_
        exact zR_i hx hb hr hlocks dX3_number_31 h

def f_X7_carryOrder (k : Nat) (f : Nat → Int32) (pk : Int32) (pn : Nat → Int32) (pf : Int32) : Option (Int32 × (Nat → Int32)) :=
  zb1 (f_X3_kind k pk) fun v1 =>
  if v1 = (99 : Int32) then
    zb1 (f_X3_number k pn pf (0 : Int32)) fun v2 =>
    zb1 (f_X3_number k pn pf (1 : Int32)) fun v3 =>
    zb1 (f_X3_number k pn pf (2 : Int32)) fun v4 =>
    zb2 (f_X6_cutBlock k f v2 v3 v4) fun v5 f6 =>
    some (v5, f6)
  else
  if v1 = (100 : Int32) then
    zb1 (f_X3_number k pn pf (0 : Int32)) fun v7 =>
    zb2 (f_X6_sendLorry k f v7) fun v8 f9 =>
    some (v8, f9)
  else
  if v1 = (101 : Int32) then
    some ((-3 : Int32), f)
  else
  if v1 = (102 : Int32) then
    some ((-3 : Int32), f)
  else
  if v1 = (103 : Int32) then
    zb1 (f_X3_number k pn pf (0 : Int32)) fun v10 =>
    zb1 (f_X3_number k pn pf (1 : Int32)) fun v11 =>
    zb2 (f_X6_giveBlock k f v10 v11) fun v12 f13 =>
    some (v12, f13)
  else
  if v1 = (104 : Int32) then
    some ((-3 : Int32), f)
  else
  if v1 = (105 : Int32) then
    some ((-3 : Int32), f)
  else
  if v1 = (106 : Int32) then
    some ((-3 : Int32), f)
  else
  if v1 = (107 : Int32) then
    some ((-3 : Int32), f)
  else
  if v1 = (108 : Int32) then
    zb1 (f_X3_number k pn pf (0 : Int32)) fun v14 =>
    zb1 (f_X3_number k pn pf (1 : Int32)) fun v15 =>
    zb1 (f_X3_number k pn pf (2 : Int32)) fun v16 =>
    zb2 (f_X6_loadBlock k f v14 v15 v16) fun v17 f18 =>
    some (v17, f18)
  else
  if v1 = (109 : Int32) then
    some ((-3 : Int32), f)
  else
  if v1 = (110 : Int32) then
    zb1 (f_X3_number k pn pf (0 : Int32)) fun v19 =>
    zb2 (f_X6_passNight k f v19) fun v20 f21 =>
    some (v20, f21)
  else
  if v1 = (111 : Int32) then
    zb1 (f_X3_number k pn pf (0 : Int32)) fun v22 =>
    zb1 (f_X3_number k pn pf (1 : Int32)) fun v23 =>
    zb1 (f_X3_number k pn pf (2 : Int32)) fun v24 =>
    zb2 (f_X6_takeOrder k f v22 v23 v24) fun v25 f26 =>
    some (v25, f26)
  else
  if v1 = (112 : Int32) then
    some ((-3 : Int32), f)
  else
  if v1 = (113 : Int32) then
    zb1 (f_X3_number k pn pf (0 : Int32)) fun v27 =>
    zb1 (f_X3_number k pn pf (1 : Int32)) fun v28 =>
    zb1 (f_X3_number k pn pf (2 : Int32)) fun v29 =>
    zb1 (f_X3_number k pn pf (3 : Int32)) fun v30 =>
    zb2 (f_X6_quarryBlock k f v27 v28 v29 v30) fun v31 f32 =>
    some (v31, f32)
  else
    some ((-3 : Int32), f)
set_option maxRecDepth 100000 in
set_option maxHeartbeats 4000000 in
theorem ct_X7_carryOrder (l : Launch) (D : va_G) (ct a : Nat → Nat) (f : Nat → Int32) (g : Nat → Nat → Int32) (nx : Int32) (hz : Int32) (sw : Nat → Nat → Int32) (fl : Nat → Int32) (sg : Nat → Int32) (pl : Int32) (pa : Int32) (pk : Int32) (pn : Nat → Int32) (pf : Int32) (pg : Int32) (sz : Nat) (k : Nat) (r : Int32) (f' : Nat → Int32) (h : f_X7_carryOrder k f pk pn pf = some (r, f')) : Met l yX7_carryOrder (Cond.code yX7_carryOrder cX7_carryOrder 1 (some .int) :: zT) ({ frames := 6, cells := 0, slots := 0, locals := 139 } : Room) (va_Pc [.ref (a 0)] (zPW D (zTys ct) (wX7 ct a f g nx hz sw fl sg pl pa pk pn pf pg) sz)) (va_Qi (fun r' (_ : Unit) => r' = r) (zQW D (wX7 ct a f g nx hz sw fl sg pl pa pk pn pf pg) sz (wX7 ct a f' g nx hz sw fl sg pl pa pk pn pf pg)) (va_A (wX7 ct a f g nx hz sw fl sg pl pa pk pn pf pg) sz)) 0 0 (va_A (wX7 ct a f g nx hz sw fl sg pl pa pk pn pf pg) sz) := by
  refine zMet (cc := cX7_carryOrder) (maxL := 1) (ret := (some .int)) (av := [.ref (a 0)]) (by decide) (Nat.le_of_ble_eq_true rfl) (fun p e s m below meth c ls hx hb hr hml hts hown hlocks hin hB hl => ?_)
  have hl : lv_has ls 1 [(0, .ref (a 0))] := hl
  have hown : s.vm.findClass RX7 = some m.cls := hown
  obtain ⟨hsz, hP, hK, hD0⟩ := hB
  subst hsz
  have hD := hD0.self (sz := s.heap.size)
  obtain ⟨A, hAe⟩ : ∃ A, A = va_A (wX7 ct a f g nx hz sw fl sg pl pa pk pn pf pg) s.heap.size := ⟨_, rfl⟩
  rw [← hAe] at hD
  have hA : ∀ q : Nat, s.heap.size ≤ q → A q := fun q h => by rw [hAe]; exact Or.inr h
  have hS : va_S A s.heap s.heap [] := va_S.rf
  rw [f_X7_carryOrder] at h
  refine lv_aload_n hx hb dX7_carryOrder_0 rfl (lv_at hl 0 rfl) ?_
  refine z_get (C := RX7) (T := TX7) (N := 6) (ci := 6) hx hb hts zin_X7 hown hK.1 hP 0 5 rfl rfl (by decide) tw193 rfl rfl dX7_carryOrder_1 ?_
  obtain ⟨v1, hc, h⟩ := zb1_s h
  refine zE_i (zrV (C := RX3) (As := []) (rest := []) hx hb hml hown hts tw744 mv_X3_kind ⟨Nat.le_of_ble_eq_true rfl, Nat.le_of_ble_eq_true rfl⟩ rfl rfl (ct_X3_kind l D ct a sg pl pa pk pn pf pg k v1 hc) (z_pv hK hP [19, 20, 21] rfl 19 rfl rfl) hl.1 rfl rfl (Nat.le_of_ble_eq_true rfl) dX7_carryOrder_4 ⟨Nat.le_refl _, Nat.le_refl _⟩) ?_
  refine o_sw h (fun q0 h => ?_) (fun q0 h => ?_)
  · refine lv_tableIn (off := (113 : Int)) (tgt := 120) hx hb dX7_carryOrder_7 (by rw [q0]; decide) (by rw [q0]; decide) (by rw [q0]; decide) (by decide) ?_
    refine lv_aload_n hx hb dX7_carryOrder_120 rfl (lv_at hl 0 rfl) ?_
    refine z_get (C := RX7) (T := TX7) (N := 6) (ci := 6) hx hb hts zin_X7 hown hK.1 hP 0 2 rfl rfl (by decide) tw190 rfl rfl dX7_carryOrder_121 ?_
    refine lv_aload_n hx hb dX7_carryOrder_124 rfl (lv_at hl 0 rfl) ?_
    refine z_get (C := RX7) (T := TX7) (N := 6) (ci := 6) hx hb hts zin_X7 hown hK.1 hP 0 5 rfl rfl (by decide) tw193 rfl rfl dX7_carryOrder_125 ?_
    refine lv_iconst (v := (0 : Int32)) hx hb dX7_carryOrder_128 (by decide) ?_
    obtain ⟨v2, hc, h⟩ := zb1_s h
    refine zE_i (zrV (C := RX3) (As := [.int (0 : Int32)]) (rest := [.ref (a 1)]) hx hb hml hown hts tw748 mv_X3_number ⟨Nat.le_of_ble_eq_true rfl, Nat.le_of_ble_eq_true rfl⟩ rfl rfl (ct_X3_number l D ct a sg pl pa pk pn pf pg (0 : Int32) k v2 hc) (z_pv hK hP [19, 20, 21] rfl 19 rfl rfl) hl.1 rfl rfl (Nat.le_of_ble_eq_true rfl) dX7_carryOrder_129 ⟨Nat.le_refl _, Nat.le_refl _⟩) ?_
    refine lv_aload_n hx hb dX7_carryOrder_132 rfl (lv_at hl 0 rfl) ?_
    refine z_get (C := RX7) (T := TX7) (N := 6) (ci := 6) hx hb hts zin_X7 hown hK.1 hP 0 5 rfl rfl (by decide) tw193 rfl rfl dX7_carryOrder_133 ?_
    refine lv_iconst (v := (1 : Int32)) hx hb dX7_carryOrder_136 (by decide) ?_
    obtain ⟨v3, hc, h⟩ := zb1_s h
    refine zE_i (zrV (C := RX3) (As := [.int (1 : Int32)]) (rest := [.int v2, .ref (a 1)]) hx hb hml hown hts tw748 mv_X3_number ⟨Nat.le_of_ble_eq_true rfl, Nat.le_of_ble_eq_true rfl⟩ rfl rfl (ct_X3_number l D ct a sg pl pa pk pn pf pg (1 : Int32) k v3 hc) (z_pv hK hP [19, 20, 21] rfl 19 rfl rfl) hl.1 rfl rfl (Nat.le_of_ble_eq_true rfl) dX7_carryOrder_137 ⟨Nat.le_refl _, Nat.le_refl _⟩) ?_
    refine lv_aload_n hx hb dX7_carryOrder_140 rfl (lv_at hl 0 rfl) ?_
    refine z_get (C := RX7) (T := TX7) (N := 6) (ci := 6) hx hb hts zin_X7 hown hK.1 hP 0 5 rfl rfl (by decide) tw193 rfl rfl dX7_carryOrder_141 ?_
    refine lv_iconst (v := (2 : Int32)) hx hb dX7_carryOrder_144 (by decide) ?_
    obtain ⟨v4, hc, h⟩ := zb1_s h
    refine zE_i (zrV (C := RX3) (As := [.int (2 : Int32)]) (rest := [.int v3, .int v2, .ref (a 1)]) hx hb hml hown hts tw748 mv_X3_number ⟨Nat.le_of_ble_eq_true rfl, Nat.le_of_ble_eq_true rfl⟩ rfl rfl (ct_X3_number l D ct a sg pl pa pk pn pf pg (2 : Int32) k v4 hc) (z_pv hK hP [19, 20, 21] rfl 19 rfl rfl) hl.1 rfl rfl (Nat.le_of_ble_eq_true rfl) dX7_carryOrder_145 ⟨Nat.le_refl _, Nat.le_refl _⟩) ?_
    obtain ⟨v5, f6, hc, h⟩ := zb2_s h
    refine zG_i (w1 := wX6 ct a f6) (ws' := wX7 ct a f6 g nx hz sw fl sg pl pa pk pn pf pg) hP hD hS hA [1, 2, 3, 4] [0, 5, 6, 7, 8, 9, 10, 11, 12, 13, 14, 15, 16, 17, 18, 19, 20, 21] [0, 18, 19, 20, 21, 1, 2, 3, 4, 5, 6, 7, 8, 9, 10, 11, 12, 13, 14, 15, 16, 17] rfl rfl (by decide) (by decide) rfl (by decide) (zrV (C := RX6) (As := [.int v2, .int v3, .int v4]) (rest := []) hx hb hml hown hts tw272 mv_X6_cutBlock ⟨Nat.le_of_ble_eq_true rfl, Nat.le_of_ble_eq_true rfl⟩ rfl rfl (ct_X6_cutBlock l D ct a f _ v2 v3 v4 k v5 f6 hc) (z_wv hK hP hD [1, 2, 3, 4] (by decide) rfl 1 rfl rfl) hl.1 rfl rfl (Nat.le_of_ble_eq_true rfl) dX7_carryOrder_148 ⟨Nat.le_refl _, Nat.le_refl _⟩) (fun H locs hP hD hS => ?_)
    cases h
    exact zX_i hx hb hr hlocks hP hD hS hAe dX7_carryOrder_151 rfl
  refine o_sw h (fun q1 h => ?_) (fun q1 h => ?_)
  · refine lv_tableIn (off := (249 : Int)) (tgt := 256) hx hb dX7_carryOrder_7 (by rw [q1]; decide) (by rw [q1]; decide) (by rw [q1]; decide) (by decide) ?_
    refine lv_aload_n hx hb dX7_carryOrder_256 rfl (lv_at hl 0 rfl) ?_
    refine z_get (C := RX7) (T := TX7) (N := 6) (ci := 6) hx hb hts zin_X7 hown hK.1 hP 0 2 rfl rfl (by decide) tw190 rfl rfl dX7_carryOrder_257 ?_
    refine lv_aload_n hx hb dX7_carryOrder_260 rfl (lv_at hl 0 rfl) ?_
    refine z_get (C := RX7) (T := TX7) (N := 6) (ci := 6) hx hb hts zin_X7 hown hK.1 hP 0 5 rfl rfl (by decide) tw193 rfl rfl dX7_carryOrder_261 ?_
    refine lv_iconst (v := (0 : Int32)) hx hb dX7_carryOrder_264 (by decide) ?_
    obtain ⟨v7, hc, h⟩ := zb1_s h
    refine zE_i (zrV (C := RX3) (As := [.int (0 : Int32)]) (rest := [.ref (a 1)]) hx hb hml hown hts tw748 mv_X3_number ⟨Nat.le_of_ble_eq_true rfl, Nat.le_of_ble_eq_true rfl⟩ rfl rfl (ct_X3_number l D ct a sg pl pa pk pn pf pg (0 : Int32) k v7 hc) (z_pv hK hP [19, 20, 21] rfl 19 rfl rfl) hl.1 rfl rfl (Nat.le_of_ble_eq_true rfl) dX7_carryOrder_265 ⟨Nat.le_refl _, Nat.le_refl _⟩) ?_
    obtain ⟨v8, f9, hc, h⟩ := zb2_s h
    refine zG_i (w1 := wX6 ct a f9) (ws' := wX7 ct a f9 g nx hz sw fl sg pl pa pk pn pf pg) hP hD hS hA [1, 2, 3, 4] [0, 5, 6, 7, 8, 9, 10, 11, 12, 13, 14, 15, 16, 17, 18, 19, 20, 21] [0, 18, 19, 20, 21, 1, 2, 3, 4, 5, 6, 7, 8, 9, 10, 11, 12, 13, 14, 15, 16, 17] rfl rfl (by decide) (by decide) rfl (by decide) (zrV (C := RX6) (As := [.int v7]) (rest := []) hx hb hml hown hts tw441 mv_X6_sendLorry ⟨Nat.le_of_ble_eq_true rfl, Nat.le_of_ble_eq_true rfl⟩ rfl rfl (ct_X6_sendLorry l D ct a f _ v7 k v8 f9 hc) (z_wv hK hP hD [1, 2, 3, 4] (by decide) rfl 1 rfl rfl) hl.1 rfl rfl (Nat.le_of_ble_eq_true rfl) dX7_carryOrder_268 ⟨Nat.le_refl _, Nat.le_refl _⟩) (fun H locs hP hD hS => ?_)
    cases h
    exact zX_i hx hb hr hlocks hP hD hS hAe dX7_carryOrder_271 rfl
  refine o_sw h (fun q2 h => ?_) (fun q2 h => ?_)
  · refine lv_tableIn (off := (265 : Int)) (tgt := 272) hx hb dX7_carryOrder_7 (by rw [q2]; decide) (by rw [q2]; decide) (by rw [q2]; decide) (by decide) ?_
    refine lv_bipush (v := (-3 : Int32)) hx hb dX7_carryOrder_272 (by decide) ?_
    cases h
    exact zX_i hx hb hr hlocks hP hD hS hAe dX7_carryOrder_274 rfl
  refine o_sw h (fun q3 h => ?_) (fun q3 h => ?_)
  · refine lv_tableIn (off := (265 : Int)) (tgt := 272) hx hb dX7_carryOrder_7 (by rw [q3]; decide) (by rw [q3]; decide) (by rw [q3]; decide) (by decide) ?_
    refine lv_bipush (v := (-3 : Int32)) hx hb dX7_carryOrder_272 (by decide) ?_
    cases h
    exact zX_i hx hb hr hlocks hP hD hS hAe dX7_carryOrder_274 rfl
  refine o_sw h (fun q4 h => ?_) (fun q4 h => ?_)
  · refine lv_tableIn (off := (177 : Int)) (tgt := 184) hx hb dX7_carryOrder_7 (by rw [q4]; decide) (by rw [q4]; decide) (by rw [q4]; decide) (by decide) ?_
    refine lv_aload_n hx hb dX7_carryOrder_184 rfl (lv_at hl 0 rfl) ?_
    refine z_get (C := RX7) (T := TX7) (N := 6) (ci := 6) hx hb hts zin_X7 hown hK.1 hP 0 2 rfl rfl (by decide) tw190 rfl rfl dX7_carryOrder_185 ?_
    refine lv_aload_n hx hb dX7_carryOrder_188 rfl (lv_at hl 0 rfl) ?_
    refine z_get (C := RX7) (T := TX7) (N := 6) (ci := 6) hx hb hts zin_X7 hown hK.1 hP 0 5 rfl rfl (by decide) tw193 rfl rfl dX7_carryOrder_189 ?_
    refine lv_iconst (v := (0 : Int32)) hx hb dX7_carryOrder_192 (by decide) ?_
    obtain ⟨v10, hc, h⟩ := zb1_s h
    refine zE_i (zrV (C := RX3) (As := [.int (0 : Int32)]) (rest := [.ref (a 1)]) hx hb hml hown hts tw748 mv_X3_number ⟨Nat.le_of_ble_eq_true rfl, Nat.le_of_ble_eq_true rfl⟩ rfl rfl (ct_X3_number l D ct a sg pl pa pk pn pf pg (0 : Int32) k v10 hc) (z_pv hK hP [19, 20, 21] rfl 19 rfl rfl) hl.1 rfl rfl (Nat.le_of_ble_eq_true rfl) dX7_carryOrder_193 ⟨Nat.le_refl _, Nat.le_refl _⟩) ?_
    refine lv_aload_n hx hb dX7_carryOrder_196 rfl (lv_at hl 0 rfl) ?_
    refine z_get (C := RX7) (T := TX7) (N := 6) (ci := 6) hx hb hts zin_X7 hown hK.1 hP 0 5 rfl rfl (by decide) tw193 rfl rfl dX7_carryOrder_197 ?_
    refine lv_iconst (v := (1 : Int32)) hx hb dX7_carryOrder_200 (by decide) ?_
    obtain ⟨v11, hc, h⟩ := zb1_s h
    refine zE_i (zrV (C := RX3) (As := [.int (1 : Int32)]) (rest := [.int v10, .ref (a 1)]) hx hb hml hown hts tw748 mv_X3_number ⟨Nat.le_of_ble_eq_true rfl, Nat.le_of_ble_eq_true rfl⟩ rfl rfl (ct_X3_number l D ct a sg pl pa pk pn pf pg (1 : Int32) k v11 hc) (z_pv hK hP [19, 20, 21] rfl 19 rfl rfl) hl.1 rfl rfl (Nat.le_of_ble_eq_true rfl) dX7_carryOrder_201 ⟨Nat.le_refl _, Nat.le_refl _⟩) ?_
    obtain ⟨v12, f13, hc, h⟩ := zb2_s h
    refine zG_i (w1 := wX6 ct a f13) (ws' := wX7 ct a f13 g nx hz sw fl sg pl pa pk pn pf pg) hP hD hS hA [1, 2, 3, 4] [0, 5, 6, 7, 8, 9, 10, 11, 12, 13, 14, 15, 16, 17, 18, 19, 20, 21] [0, 18, 19, 20, 21, 1, 2, 3, 4, 5, 6, 7, 8, 9, 10, 11, 12, 13, 14, 15, 16, 17] rfl rfl (by decide) (by decide) rfl (by decide) (zrV (C := RX6) (As := [.int v10, .int v11]) (rest := []) hx hb hml hown hts tw354 mv_X6_giveBlock ⟨Nat.le_of_ble_eq_true rfl, Nat.le_of_ble_eq_true rfl⟩ rfl rfl (ct_X6_giveBlock l D ct a f _ v10 v11 k v12 f13 hc) (z_wv hK hP hD [1, 2, 3, 4] (by decide) rfl 1 rfl rfl) hl.1 rfl rfl (Nat.le_of_ble_eq_true rfl) dX7_carryOrder_204 ⟨Nat.le_refl _, Nat.le_refl _⟩) (fun H locs hP hD hS => ?_)
    cases h
    exact zX_i hx hb hr hlocks hP hD hS hAe dX7_carryOrder_207 rfl
  refine o_sw h (fun q5 h => ?_) (fun q5 h => ?_)
  · refine lv_tableIn (off := (265 : Int)) (tgt := 272) hx hb dX7_carryOrder_7 (by rw [q5]; decide) (by rw [q5]; decide) (by rw [q5]; decide) (by decide) ?_
    refine lv_bipush (v := (-3 : Int32)) hx hb dX7_carryOrder_272 (by decide) ?_
    cases h
    exact zX_i hx hb hr hlocks hP hD hS hAe dX7_carryOrder_274 rfl
  refine o_sw h (fun q6 h => ?_) (fun q6 h => ?_)
  · refine lv_tableIn (off := (265 : Int)) (tgt := 272) hx hb dX7_carryOrder_7 (by rw [q6]; decide) (by rw [q6]; decide) (by rw [q6]; decide) (by decide) ?_
    refine lv_bipush (v := (-3 : Int32)) hx hb dX7_carryOrder_272 (by decide) ?_
    cases h
    exact zX_i hx hb hr hlocks hP hD hS hAe dX7_carryOrder_274 rfl
  refine o_sw h (fun q7 h => ?_) (fun q7 h => ?_)
  · refine lv_tableIn (off := (265 : Int)) (tgt := 272) hx hb dX7_carryOrder_7 (by rw [q7]; decide) (by rw [q7]; decide) (by rw [q7]; decide) (by decide) ?_
    refine lv_bipush (v := (-3 : Int32)) hx hb dX7_carryOrder_272 (by decide) ?_
    cases h
    exact zX_i hx hb hr hlocks hP hD hS hAe dX7_carryOrder_274 rfl
  refine o_sw h (fun q8 h => ?_) (fun q8 h => ?_)
  · refine lv_tableIn (off := (265 : Int)) (tgt := 272) hx hb dX7_carryOrder_7 (by rw [q8]; decide) (by rw [q8]; decide) (by rw [q8]; decide) (by decide) ?_
    refine lv_bipush (v := (-3 : Int32)) hx hb dX7_carryOrder_272 (by decide) ?_
    cases h
    exact zX_i hx hb hr hlocks hP hD hS hAe dX7_carryOrder_274 rfl
  refine o_sw h (fun q9 h => ?_) (fun q9 h => ?_)
  · refine lv_tableIn (off := (201 : Int)) (tgt := 208) hx hb dX7_carryOrder_7 (by rw [q9]; decide) (by rw [q9]; decide) (by rw [q9]; decide) (by decide) ?_
    refine lv_aload_n hx hb dX7_carryOrder_208 rfl (lv_at hl 0 rfl) ?_
    refine z_get (C := RX7) (T := TX7) (N := 6) (ci := 6) hx hb hts zin_X7 hown hK.1 hP 0 2 rfl rfl (by decide) tw190 rfl rfl dX7_carryOrder_209 ?_
    refine lv_aload_n hx hb dX7_carryOrder_212 rfl (lv_at hl 0 rfl) ?_
    refine z_get (C := RX7) (T := TX7) (N := 6) (ci := 6) hx hb hts zin_X7 hown hK.1 hP 0 5 rfl rfl (by decide) tw193 rfl rfl dX7_carryOrder_213 ?_
    refine lv_iconst (v := (0 : Int32)) hx hb dX7_carryOrder_216 (by decide) ?_
    obtain ⟨v14, hc, h⟩ := zb1_s h
    refine zE_i (zrV (C := RX3) (As := [.int (0 : Int32)]) (rest := [.ref (a 1)]) hx hb hml hown hts tw748 mv_X3_number ⟨Nat.le_of_ble_eq_true rfl, Nat.le_of_ble_eq_true rfl⟩ rfl rfl (ct_X3_number l D ct a sg pl pa pk pn pf pg (0 : Int32) k v14 hc) (z_pv hK hP [19, 20, 21] rfl 19 rfl rfl) hl.1 rfl rfl (Nat.le_of_ble_eq_true rfl) dX7_carryOrder_217 ⟨Nat.le_refl _, Nat.le_refl _⟩) ?_
    refine lv_aload_n hx hb dX7_carryOrder_220 rfl (lv_at hl 0 rfl) ?_
    refine z_get (C := RX7) (T := TX7) (N := 6) (ci := 6) hx hb hts zin_X7 hown hK.1 hP 0 5 rfl rfl (by decide) tw193 rfl rfl dX7_carryOrder_221 ?_
    refine lv_iconst (v := (1 : Int32)) hx hb dX7_carryOrder_224 (by decide) ?_
    obtain ⟨v15, hc, h⟩ := zb1_s h
    refine zE_i (zrV (C := RX3) (As := [.int (1 : Int32)]) (rest := [.int v14, .ref (a 1)]) hx hb hml hown hts tw748 mv_X3_number ⟨Nat.le_of_ble_eq_true rfl, Nat.le_of_ble_eq_true rfl⟩ rfl rfl (ct_X3_number l D ct a sg pl pa pk pn pf pg (1 : Int32) k v15 hc) (z_pv hK hP [19, 20, 21] rfl 19 rfl rfl) hl.1 rfl rfl (Nat.le_of_ble_eq_true rfl) dX7_carryOrder_225 ⟨Nat.le_refl _, Nat.le_refl _⟩) ?_
    refine lv_aload_n hx hb dX7_carryOrder_228 rfl (lv_at hl 0 rfl) ?_
    refine z_get (C := RX7) (T := TX7) (N := 6) (ci := 6) hx hb hts zin_X7 hown hK.1 hP 0 5 rfl rfl (by decide) tw193 rfl rfl dX7_carryOrder_229 ?_
    refine lv_iconst (v := (2 : Int32)) hx hb dX7_carryOrder_232 (by decide) ?_
    obtain ⟨v16, hc, h⟩ := zb1_s h
    refine zE_i (zrV (C := RX3) (As := [.int (2 : Int32)]) (rest := [.int v15, .int v14, .ref (a 1)]) hx hb hml hown hts tw748 mv_X3_number ⟨Nat.le_of_ble_eq_true rfl, Nat.le_of_ble_eq_true rfl⟩ rfl rfl (ct_X3_number l D ct a sg pl pa pk pn pf pg (2 : Int32) k v16 hc) (z_pv hK hP [19, 20, 21] rfl 19 rfl rfl) hl.1 rfl rfl (Nat.le_of_ble_eq_true rfl) dX7_carryOrder_233 ⟨Nat.le_refl _, Nat.le_refl _⟩) ?_
    obtain ⟨v17, f18, hc, h⟩ := zb2_s h
    refine zG_i (w1 := wX6 ct a f18) (ws' := wX7 ct a f18 g nx hz sw fl sg pl pa pk pn pf pg) hP hD hS hA [1, 2, 3, 4] [0, 5, 6, 7, 8, 9, 10, 11, 12, 13, 14, 15, 16, 17, 18, 19, 20, 21] [0, 18, 19, 20, 21, 1, 2, 3, 4, 5, 6, 7, 8, 9, 10, 11, 12, 13, 14, 15, 16, 17] rfl rfl (by decide) (by decide) rfl (by decide) (zrV (C := RX6) (As := [.int v14, .int v15, .int v16]) (rest := []) hx hb hml hown hts tw409 mv_X6_loadBlock ⟨Nat.le_of_ble_eq_true rfl, Nat.le_of_ble_eq_true rfl⟩ rfl rfl (ct_X6_loadBlock l D ct a f _ v14 v15 v16 k v17 f18 hc) (z_wv hK hP hD [1, 2, 3, 4] (by decide) rfl 1 rfl rfl) hl.1 rfl rfl (Nat.le_of_ble_eq_true rfl) dX7_carryOrder_236 ⟨Nat.le_refl _, Nat.le_refl _⟩) (fun H locs hP hD hS => ?_)
    cases h
    exact zX_i hx hb hr hlocks hP hD hS hAe dX7_carryOrder_239 rfl
  refine o_sw h (fun q10 h => ?_) (fun q10 h => ?_)
  · refine lv_tableIn (off := (265 : Int)) (tgt := 272) hx hb dX7_carryOrder_7 (by rw [q10]; decide) (by rw [q10]; decide) (by rw [q10]; decide) (by decide) ?_
    refine lv_bipush (v := (-3 : Int32)) hx hb dX7_carryOrder_272 (by decide) ?_
    cases h
    exact zX_i hx hb hr hlocks hP hD hS hAe dX7_carryOrder_274 rfl
  refine o_sw h (fun q11 h => ?_) (fun q11 h => ?_)
  · refine lv_tableIn (off := (233 : Int)) (tgt := 240) hx hb dX7_carryOrder_7 (by rw [q11]; decide) (by rw [q11]; decide) (by rw [q11]; decide) (by decide) ?_
    refine lv_aload_n hx hb dX7_carryOrder_240 rfl (lv_at hl 0 rfl) ?_
    refine z_get (C := RX7) (T := TX7) (N := 6) (ci := 6) hx hb hts zin_X7 hown hK.1 hP 0 2 rfl rfl (by decide) tw190 rfl rfl dX7_carryOrder_241 ?_
    refine lv_aload_n hx hb dX7_carryOrder_244 rfl (lv_at hl 0 rfl) ?_
    refine z_get (C := RX7) (T := TX7) (N := 6) (ci := 6) hx hb hts zin_X7 hown hK.1 hP 0 5 rfl rfl (by decide) tw193 rfl rfl dX7_carryOrder_245 ?_
    refine lv_iconst (v := (0 : Int32)) hx hb dX7_carryOrder_248 (by decide) ?_
    obtain ⟨v19, hc, h⟩ := zb1_s h
    refine zE_i (zrV (C := RX3) (As := [.int (0 : Int32)]) (rest := [.ref (a 1)]) hx hb hml hown hts tw748 mv_X3_number ⟨Nat.le_of_ble_eq_true rfl, Nat.le_of_ble_eq_true rfl⟩ rfl rfl (ct_X3_number l D ct a sg pl pa pk pn pf pg (0 : Int32) k v19 hc) (z_pv hK hP [19, 20, 21] rfl 19 rfl rfl) hl.1 rfl rfl (Nat.le_of_ble_eq_true rfl) dX7_carryOrder_249 ⟨Nat.le_refl _, Nat.le_refl _⟩) ?_
    obtain ⟨v20, f21, hc, h⟩ := zb2_s h
    refine zG_i (w1 := wX6 ct a f21) (ws' := wX7 ct a f21 g nx hz sw fl sg pl pa pk pn pf pg) hP hD hS hA [1, 2, 3, 4] [0, 5, 6, 7, 8, 9, 10, 11, 12, 13, 14, 15, 16, 17, 18, 19, 20, 21] [0, 18, 19, 20, 21, 1, 2, 3, 4, 5, 6, 7, 8, 9, 10, 11, 12, 13, 14, 15, 16, 17] rfl rfl (by decide) (by decide) rfl (by decide) (zrV (C := RX6) (As := [.int v19]) (rest := []) hx hb hml hown hts tw476 mv_X6_passNight ⟨Nat.le_of_ble_eq_true rfl, Nat.le_of_ble_eq_true rfl⟩ rfl rfl (ct_X6_passNight l D ct a f _ v19 k v20 f21 hc) (z_wv hK hP hD [1, 2, 3, 4] (by decide) rfl 1 rfl rfl) hl.1 rfl rfl (Nat.le_of_ble_eq_true rfl) dX7_carryOrder_252 ⟨Nat.le_refl _, Nat.le_refl _⟩) (fun H locs hP hD hS => ?_)
    cases h
    exact zX_i hx hb hr hlocks hP hD hS hAe dX7_carryOrder_255 rfl
  refine o_sw h (fun q12 h => ?_) (fun q12 h => ?_)
  · refine lv_tableIn (off := (145 : Int)) (tgt := 152) hx hb dX7_carryOrder_7 (by rw [q12]; decide) (by rw [q12]; decide) (by rw [q12]; decide) (by decide) ?_
    refine lv_aload_n hx hb dX7_carryOrder_152 rfl (lv_at hl 0 rfl) ?_
    refine z_get (C := RX7) (T := TX7) (N := 6) (ci := 6) hx hb hts zin_X7 hown hK.1 hP 0 2 rfl rfl (by decide) tw190 rfl rfl dX7_carryOrder_153 ?_
    refine lv_aload_n hx hb dX7_carryOrder_156 rfl (lv_at hl 0 rfl) ?_
    refine z_get (C := RX7) (T := TX7) (N := 6) (ci := 6) hx hb hts zin_X7 hown hK.1 hP 0 5 rfl rfl (by decide) tw193 rfl rfl dX7_carryOrder_157 ?_
    refine lv_iconst (v := (0 : Int32)) hx hb dX7_carryOrder_160 (by decide) ?_
    obtain ⟨v22, hc, h⟩ := zb1_s h
    refine zE_i (zrV (C := RX3) (As := [.int (0 : Int32)]) (rest := [.ref (a 1)]) hx hb hml hown hts tw748 mv_X3_number ⟨Nat.le_of_ble_eq_true rfl, Nat.le_of_ble_eq_true rfl⟩ rfl rfl (ct_X3_number l D ct a sg pl pa pk pn pf pg (0 : Int32) k v22 hc) (z_pv hK hP [19, 20, 21] rfl 19 rfl rfl) hl.1 rfl rfl (Nat.le_of_ble_eq_true rfl) dX7_carryOrder_161 ⟨Nat.le_refl _, Nat.le_refl _⟩) ?_
    refine lv_aload_n hx hb dX7_carryOrder_164 rfl (lv_at hl 0 rfl) ?_
    refine z_get (C := RX7) (T := TX7) (N := 6) (ci := 6) hx hb hts zin_X7 hown hK.1 hP 0 5 rfl rfl (by decide) tw193 rfl rfl dX7_carryOrder_165 ?_
    refine lv_iconst (v := (1 : Int32)) hx hb dX7_carryOrder_168 (by decide) ?_
    obtain ⟨v23, hc, h⟩ := zb1_s h
    refine zE_i (zrV (C := RX3) (As := [.int (1 : Int32)]) (rest := [.int v22, .ref (a 1)]) hx hb hml hown hts tw748 mv_X3_number ⟨Nat.le_of_ble_eq_true rfl, Nat.le_of_ble_eq_true rfl⟩ rfl rfl (ct_X3_number l D ct a sg pl pa pk pn pf pg (1 : Int32) k v23 hc) (z_pv hK hP [19, 20, 21] rfl 19 rfl rfl) hl.1 rfl rfl (Nat.le_of_ble_eq_true rfl) dX7_carryOrder_169 ⟨Nat.le_refl _, Nat.le_refl _⟩) ?_
    refine lv_aload_n hx hb dX7_carryOrder_172 rfl (lv_at hl 0 rfl) ?_
    refine z_get (C := RX7) (T := TX7) (N := 6) (ci := 6) hx hb hts zin_X7 hown hK.1 hP 0 5 rfl rfl (by decide) tw193 rfl rfl dX7_carryOrder_173 ?_
    refine lv_iconst (v := (2 : Int32)) hx hb dX7_carryOrder_176 (by decide) ?_
    obtain ⟨v24, hc, h⟩ := zb1_s h
    refine zE_i (zrV (C := RX3) (As := [.int (2 : Int32)]) (rest := [.int v23, .int v22, .ref (a 1)]) hx hb hml hown hts tw748 mv_X3_number ⟨Nat.le_of_ble_eq_true rfl, Nat.le_of_ble_eq_true rfl⟩ rfl rfl (ct_X3_number l D ct a sg pl pa pk pn pf pg (2 : Int32) k v24 hc) (z_pv hK hP [19, 20, 21] rfl 19 rfl rfl) hl.1 rfl rfl (Nat.le_of_ble_eq_true rfl) dX7_carryOrder_177 ⟨Nat.le_refl _, Nat.le_refl _⟩) ?_
    obtain ⟨v25, f26, hc, h⟩ := zb2_s h
    refine zG_i (w1 := wX6 ct a f26) (ws' := wX7 ct a f26 g nx hz sw fl sg pl pa pk pn pf pg) hP hD hS hA [1, 2, 3, 4] [0, 5, 6, 7, 8, 9, 10, 11, 12, 13, 14, 15, 16, 17, 18, 19, 20, 21] [0, 18, 19, 20, 21, 1, 2, 3, 4, 5, 6, 7, 8, 9, 10, 11, 12, 13, 14, 15, 16, 17] rfl rfl (by decide) (by decide) rfl (by decide) (zrV (C := RX6) (As := [.int v22, .int v23, .int v24]) (rest := []) hx hb hml hown hts tw327 mv_X6_takeOrder ⟨Nat.le_of_ble_eq_true rfl, Nat.le_of_ble_eq_true rfl⟩ rfl rfl (ct_X6_takeOrder l D ct a f _ v22 v23 v24 k v25 f26 hc) (z_wv hK hP hD [1, 2, 3, 4] (by decide) rfl 1 rfl rfl) hl.1 rfl rfl (Nat.le_of_ble_eq_true rfl) dX7_carryOrder_180 ⟨Nat.le_refl _, Nat.le_refl _⟩) (fun H locs hP hD hS => ?_)
    cases h
    exact zX_i hx hb hr hlocks hP hD hS hAe dX7_carryOrder_183 rfl
  refine o_sw h (fun q13 h => ?_) (fun q13 h => ?_)
  · refine lv_tableIn (off := (265 : Int)) (tgt := 272) hx hb dX7_carryOrder_7 (by rw [q13]; decide) (by rw [q13]; decide) (by rw [q13]; decide) (by decide) ?_
    refine lv_bipush (v := (-3 : Int32)) hx hb dX7_carryOrder_272 (by decide) ?_
    cases h
    exact zX_i hx hb hr hlocks hP hD hS hAe dX7_carryOrder_274 rfl
  refine o_sw h (fun q14 h => ?_) (fun q14 h => ?_)
  · refine lv_tableIn (off := (73 : Int)) (tgt := 80) hx hb dX7_carryOrder_7 (by rw [q14]; decide) (by rw [q14]; decide) (by rw [q14]; decide) (by decide) ?_
    refine lv_aload_n hx hb dX7_carryOrder_80 rfl (lv_at hl 0 rfl) ?_
    refine z_get (C := RX7) (T := TX7) (N := 6) (ci := 6) hx hb hts zin_X7 hown hK.1 hP 0 2 rfl rfl (by decide) tw190 rfl rfl dX7_carryOrder_81 ?_
    refine lv_aload_n hx hb dX7_carryOrder_84 rfl (lv_at hl 0 rfl) ?_
    refine z_get (C := RX7) (T := TX7) (N := 6) (ci := 6) hx hb hts zin_X7 hown hK.1 hP 0 5 rfl rfl (by decide) tw193 rfl rfl dX7_carryOrder_85 ?_
    refine lv_iconst (v := (0 : Int32)) hx hb dX7_carryOrder_88 (by decide) ?_
    obtain ⟨v27, hc, h⟩ := zb1_s h
    refine zE_i (zrV (C := RX3) (As := [.int (0 : Int32)]) (rest := [.ref (a 1)]) hx hb hml hown hts tw748 mv_X3_number ⟨Nat.le_of_ble_eq_true rfl, Nat.le_of_ble_eq_true rfl⟩ rfl rfl (ct_X3_number l D ct a sg pl pa pk pn pf pg (0 : Int32) k v27 hc) (z_pv hK hP [19, 20, 21] rfl 19 rfl rfl) hl.1 rfl rfl (Nat.le_of_ble_eq_true rfl) dX7_carryOrder_89 ⟨Nat.le_refl _, Nat.le_refl _⟩) ?_
    refine lv_aload_n hx hb dX7_carryOrder_92 rfl (lv_at hl 0 rfl) ?_
    refine z_get (C := RX7) (T := TX7) (N := 6) (ci := 6) hx hb hts zin_X7 hown hK.1 hP 0 5 rfl rfl (by decide) tw193 rfl rfl dX7_carryOrder_93 ?_
    refine lv_iconst (v := (1 : Int32)) hx hb dX7_carryOrder_96 (by decide) ?_
    obtain ⟨v28, hc, h⟩ := zb1_s h
    refine zE_i (zrV (C := RX3) (As := [.int (1 : Int32)]) (rest := [.int v27, .ref (a 1)]) hx hb hml hown hts tw748 mv_X3_number ⟨Nat.le_of_ble_eq_true rfl, Nat.le_of_ble_eq_true rfl⟩ rfl rfl (ct_X3_number l D ct a sg pl pa pk pn pf pg (1 : Int32) k v28 hc) (z_pv hK hP [19, 20, 21] rfl 19 rfl rfl) hl.1 rfl rfl (Nat.le_of_ble_eq_true rfl) dX7_carryOrder_97 ⟨Nat.le_refl _, Nat.le_refl _⟩) ?_
    refine lv_aload_n hx hb dX7_carryOrder_100 rfl (lv_at hl 0 rfl) ?_
    refine z_get (C := RX7) (T := TX7) (N := 6) (ci := 6) hx hb hts zin_X7 hown hK.1 hP 0 5 rfl rfl (by decide) tw193 rfl rfl dX7_carryOrder_101 ?_
    refine lv_iconst (v := (2 : Int32)) hx hb dX7_carryOrder_104 (by decide) ?_
    obtain ⟨v29, hc, h⟩ := zb1_s h
    refine zE_i (zrV (C := RX3) (As := [.int (2 : Int32)]) (rest := [.int v28, .int v27, .ref (a 1)]) hx hb hml hown hts tw748 mv_X3_number ⟨Nat.le_of_ble_eq_true rfl, Nat.le_of_ble_eq_true rfl⟩ rfl rfl (ct_X3_number l D ct a sg pl pa pk pn pf pg (2 : Int32) k v29 hc) (z_pv hK hP [19, 20, 21] rfl 19 rfl rfl) hl.1 rfl rfl (Nat.le_of_ble_eq_true rfl) dX7_carryOrder_105 ⟨Nat.le_refl _, Nat.le_refl _⟩) ?_
    refine lv_aload_n hx hb dX7_carryOrder_108 rfl (lv_at hl 0 rfl) ?_
    refine z_get (C := RX7) (T := TX7) (N := 6) (ci := 6) hx hb hts zin_X7 hown hK.1 hP 0 5 rfl rfl (by decide) tw193 rfl rfl dX7_carryOrder_109 ?_
    refine lv_iconst (v := (3 : Int32)) hx hb dX7_carryOrder_112 (by decide) ?_
    obtain ⟨v30, hc, h⟩ := zb1_s h
    refine zE_i (zrV (C := RX3) (As := [.int (3 : Int32)]) (rest := [.int v29, .int v28, .int v27, .ref (a 1)]) hx hb hml hown hts tw748 mv_X3_number ⟨Nat.le_of_ble_eq_true rfl, Nat.le_of_ble_eq_true rfl⟩ rfl rfl (ct_X3_number l D ct a sg pl pa pk pn pf pg (3 : Int32) k v30 hc) (z_pv hK hP [19, 20, 21] rfl 19 rfl rfl) hl.1 rfl rfl (Nat.le_of_ble_eq_true rfl) dX7_carryOrder_113 ⟨Nat.le_refl _, Nat.le_refl _⟩) ?_
    obtain ⟨v31, f32, hc, h⟩ := zb2_s h
    refine zG_i (w1 := wX6 ct a f32) (ws' := wX7 ct a f32 g nx hz sw fl sg pl pa pk pn pf pg) hP hD hS hA [1, 2, 3, 4] [0, 5, 6, 7, 8, 9, 10, 11, 12, 13, 14, 15, 16, 17, 18, 19, 20, 21] [0, 18, 19, 20, 21, 1, 2, 3, 4, 5, 6, 7, 8, 9, 10, 11, 12, 13, 14, 15, 16, 17] rfl rfl (by decide) (by decide) rfl (by decide) (zrV (C := RX6) (As := [.int v27, .int v28, .int v29, .int v30]) (rest := []) hx hb hml hown hts tw253 mv_X6_quarryBlock ⟨Nat.le_of_ble_eq_true rfl, Nat.le_of_ble_eq_true rfl⟩ rfl rfl (ct_X6_quarryBlock l D ct a f _ v27 v28 v29 v30 k v31 f32 hc) (z_wv hK hP hD [1, 2, 3, 4] (by decide) rfl 1 rfl rfl) hl.1 rfl rfl (Nat.le_of_ble_eq_true rfl) dX7_carryOrder_116 ⟨Nat.le_refl _, Nat.le_refl _⟩) (fun H locs hP hD hS => ?_)
    cases h
    exact zX_i hx hb hr hlocks hP hD hS hAe dX7_carryOrder_119 rfl
  · refine lv_tableOut (tgt := 272) hx hb dX7_carryOrder_7 (by have w0 := lv_neT (a := 99) q0 rfl; have w1 := lv_neT (a := 100) q1 rfl; have w2 := lv_neT (a := 101) q2 rfl; have w3 := lv_neT (a := 102) q3 rfl; have w4 := lv_neT (a := 103) q4 rfl; have w5 := lv_neT (a := 104) q5 rfl; have w6 := lv_neT (a := 105) q6 rfl; have w7 := lv_neT (a := 106) q7 rfl; have w8 := lv_neT (a := 107) q8 rfl; have w9 := lv_neT (a := 108) q9 rfl; have w10 := lv_neT (a := 109) q10 rfl; have w11 := lv_neT (a := 110) q11 rfl; have w12 := lv_neT (a := 111) q12 rfl; have w13 := lv_neT (a := 112) q13 rfl; have w14 := lv_neT (a := 113) q14 rfl; omega) (by decide) ?_
    refine lv_bipush (v := (-3 : Int32)) hx hb dX7_carryOrder_272 (by decide) ?_
    cases h
    exact zX_i hx hb hr hlocks hP hD hS hAe dX7_carryOrder_274 rfl

def f_X7_isSlot (k : Nat) (p1 : Int32) : Option (Int32) :=
  if p1 < 0 then
    some (0 : Int32)
  else
    if (2 : Int32) ≤ p1 then
      some (0 : Int32)
    else
      some (1 : Int32)
set_option maxRecDepth 100000 in
set_option maxHeartbeats 4000000 in
theorem ct_X7_isSlot (l : Launch) (p1 : Int32) (k : Nat) (r : Int32) (h : f_X7_isSlot k p1 = some r) : Met l yX7_isSlot (Cond.code yX7_isSlot cX7_isSlot 1 (some .boolean) :: zT) ({ frames := 0, cells := 0, slots := 0, locals := 0 } : Room) (va_Pc [.int p1] (fun _ => True)) (vp_Si (fun r' => r' = r)) 0 0 (fun _ => False) := by
  refine zMet (cc := cX7_isSlot) (maxL := 1) (ret := (some .boolean)) (av := [.int p1]) (by decide) (Nat.le_of_ble_eq_true rfl) (fun p e s m below meth c ls hx hb hr hml hts hown hlocks hin hB hl => ?_)
  have hl : lv_has ls 1 [(0, .int p1)] := hl
  have hown : s.vm.findClass RX7 = some m.cls := hown
  rw [f_X7_isSlot] at h
  refine lv_iload_n hx hb dX7_isSlot_0 rfl (lv_at hl 0 rfl) ?_
  refine zi_lt (tgt := 13) hx hb dX7_isSlot_1 (by decide) h (fun h => ?_) (fun h => ?_)
  · refine lv_iconst (v := (0 : Int32)) hx hb dX7_isSlot_13 (by decide) ?_
    exact zR_z hx hb hr hlocks dX7_isSlot_14 h
  · refine lv_iload_n hx hb dX7_isSlot_4 rfl (lv_at hl 0 rfl) ?_
    refine lv_iconst (v := (2 : Int32)) hx hb dX7_isSlot_5 (by decide) ?_
    refine zc_ge (tgt := 13) hx hb dX7_isSlot_6 (by decide) h (fun h => ?_) (fun h => ?_)
    · refine lv_iconst (v := (0 : Int32)) hx hb dX7_isSlot_13 (by decide) ?_
      exact zR_z hx hb hr hlocks dX7_isSlot_14 h
    · refine lv_iconst (v := (1 : Int32)) hx hb dX7_isSlot_9 (by decide) ?_
      refine lv_goto (tgt := 14) hx hb dX7_isSlot_10 (by decide) ?_
      exact zR_z hx hb hr hlocks dX7_isSlot_14 h

