/-! written by wip/whole/gen.py: each method as a function, and its contract -/
def f_X8_excessOf (k : Nat) (ms : Nat → Int32) (so : Nat → Int32) (p1 : Int32) (p2 : Int32) : Option (Int32 × (Nat → Int32)) :=
  zb1 (f_X8_at k p2 (6 : Int32)) fun v1 =>
  zg (zin v1 324) (zl (ms v1.toNatClampNeg) fun v2 =>
  if v2 = (1 : Int32) then
    some ((-6 : Int32), so)
  else
    zb1 (f_X8_at k p2 (0 : Int32)) fun v3 =>
    zg (zin v3 324) (zl (ms v3.toNatClampNeg) fun v4 =>
    zb1 (f_X8_at k p2 (1 : Int32)) fun v5 =>
    zg (zin v5 324) (zl (ms v5.toNatClampNeg) fun v6 =>
    zb1 (f_X8_at k p2 (2 : Int32)) fun v7 =>
    zg (zin v7 324) (zl (ms v7.toNatClampNeg) fun v8 =>
    zb2 (f_X8_excess k ms so p1 v4 v6 v8) fun v9 so10 =>
    some (v9, so10)))))
set_option maxRecDepth 100000 in
set_option maxHeartbeats 4000000 in
theorem ct_X8_excessOf (l : Launch) (D : va_G) (ct a : Nat → Nat) (ms : Nat → Int32) (ah : Nat → Int32) (hi : Nat → Int32) (kp : Int32) (sl : Nat → Int32) (sv : Nat → Int32) (pd : Nat → Int32) (ln : Int32) (so : Nat → Int32) (po : Int32) (wr : Int32) (to : Nat → Int32) (sz : Nat) (p1 : Int32) (p2 : Int32) (k : Nat) (r : Int32) (so' : Nat → Int32) (h : f_X8_excessOf k ms so p1 p2 = some (r, so')) : Met l yX8_excessOf (Cond.code yX8_excessOf cX8_excessOf 3 (some .int) :: zT) ({ frames := 2, cells := 0, slots := 0, locals := 53 } : Room) (va_Pc [.ref (a 30), .int p1, .int p2] (zPW D (zTys ct) (wX8 ct a ms ah hi kp sl sv pd ln so po wr to) sz)) (va_Qi (fun r' (_ : Unit) => r' = r) (zQW D (wX8 ct a ms ah hi kp sl sv pd ln so po wr to) sz (wX8 ct a ms ah hi kp sl sv pd ln so' po wr to)) (va_A (wX8 ct a ms ah hi kp sl sv pd ln so po wr to) sz)) 0 0 (va_A (wX8 ct a ms ah hi kp sl sv pd ln so po wr to) sz) := by
  refine zMet (cc := cX8_excessOf) (maxL := 3) (ret := (some .int)) (av := [.ref (a 30), .int p1, .int p2]) (by decide) (Nat.le_of_ble_eq_true rfl) (fun p e s m below meth c ls hx hb hr hml hts hown hlocks hin hB hl => ?_)
  have hl : lv_has ls 3 [(0, .ref (a 30)), (1, .int p1), (2, .int p2)] := hl
  have hown : s.vm.findClass RX8 = some m.cls := hown
  obtain ⟨hsz, hP, hK, hD0⟩ := hB
  subst hsz
  have hD := hD0.self (sz := s.heap.size)
  obtain ⟨A, hAe⟩ : ∃ A, A = va_A (wX8 ct a ms ah hi kp sl sv pd ln so po wr to) s.heap.size := ⟨_, rfl⟩
  rw [← hAe] at hD
  have hA : ∀ q : Nat, s.heap.size ≤ q → A q := fun q h => by rw [hAe]; exact Or.inr h
  have hS : va_S A s.heap s.heap [] := va_S.rf
  rw [f_X8_excessOf] at h
  refine lv_aload_n hx hb dX8_excessOf_0 rfl (lv_at hl 0 rfl) ?_
  refine z_get (C := RX8) (T := TX8) (N := 12) (ci := 7) hx hb hts zin_X8 hown hK.1 hP 0 0 rfl rfl (by decide) tw795 rfl rfl dX8_excessOf_1 ?_
  refine lv_iload_n hx hb dX8_excessOf_4 rfl (lv_at hl 2 rfl) ?_
  refine lv_bipush (v := (6 : Int32)) hx hb dX8_excessOf_5 (by decide) ?_
  obtain ⟨v1, hc, h⟩ := zb1_s h
  refine zE_i (zrS (As := [.int p2, .int (6 : Int32)]) (rest := [.ref (a 31)]) hx hb hml hown hts tw874 ms_X8_at ⟨Nat.le_of_ble_eq_true rfl, Nat.le_of_ble_eq_true rfl⟩ rfl rfl (ct_X8_at l p2 (6 : Int32) k v1 hc) z_p0 hl.1 rfl rfl (Nat.le_of_ble_eq_true rfl) dX8_excessOf_7 ⟨Nat.le_refl _, Nat.le_refl _⟩) ?_
  refine y_iald hx hb hK hP 1 0 rfl rfl h dX8_excessOf_10 (fun v2 h => ?_)
  refine lv_iconst (v := (1 : Int32)) hx hb dX8_excessOf_11 (by decide) ?_
  refine zc_ne (tgt := 20) hx hb dX8_excessOf_12 (by decide) h (fun h => ?_) (fun h => ?_)
  · refine lv_aload_n hx hb dX8_excessOf_20 rfl (lv_at hl 0 rfl) ?_
    refine lv_iload_n hx hb dX8_excessOf_21 rfl (lv_at hl 1 rfl) ?_
    refine lv_aload_n hx hb dX8_excessOf_22 rfl (lv_at hl 0 rfl) ?_
    refine z_get (C := RX8) (T := TX8) (N := 12) (ci := 7) hx hb hts zin_X8 hown hK.1 hP 0 0 rfl rfl (by decide) tw795 rfl rfl dX8_excessOf_23 ?_
    refine lv_iload_n hx hb dX8_excessOf_26 rfl (lv_at hl 2 rfl) ?_
    refine lv_iconst (v := (0 : Int32)) hx hb dX8_excessOf_27 (by decide) ?_
    obtain ⟨v3, hc, h⟩ := zb1_s h
    refine zE_i (zrS (As := [.int p2, .int (0 : Int32)]) (rest := [.ref (a 31), .int p1, .ref (a 30)]) hx hb hml hown hts tw874 ms_X8_at ⟨Nat.le_of_ble_eq_true rfl, Nat.le_of_ble_eq_true rfl⟩ rfl rfl (ct_X8_at l p2 (0 : Int32) k v3 hc) z_p0 hl.1 rfl rfl (Nat.le_of_ble_eq_true rfl) dX8_excessOf_28 ⟨Nat.le_refl _, Nat.le_refl _⟩) ?_
    refine y_iald hx hb hK hP 1 0 rfl rfl h dX8_excessOf_31 (fun v4 h => ?_)
    refine lv_aload_n hx hb dX8_excessOf_32 rfl (lv_at hl 0 rfl) ?_
    refine z_get (C := RX8) (T := TX8) (N := 12) (ci := 7) hx hb hts zin_X8 hown hK.1 hP 0 0 rfl rfl (by decide) tw795 rfl rfl dX8_excessOf_33 ?_
    refine lv_iload_n hx hb dX8_excessOf_36 rfl (lv_at hl 2 rfl) ?_
    refine lv_iconst (v := (1 : Int32)) hx hb dX8_excessOf_37 (by decide) ?_
    obtain ⟨v5, hc, h⟩ := zb1_s h
    refine zE_i (zrS (As := [.int p2, .int (1 : Int32)]) (rest := [.ref (a 31), .int v4, .int p1, .ref (a 30)]) hx hb hml hown hts tw874 ms_X8_at ⟨Nat.le_of_ble_eq_true rfl, Nat.le_of_ble_eq_true rfl⟩ rfl rfl (ct_X8_at l p2 (1 : Int32) k v5 hc) z_p0 hl.1 rfl rfl (Nat.le_of_ble_eq_true rfl) dX8_excessOf_38 ⟨Nat.le_refl _, Nat.le_refl _⟩) ?_
    refine y_iald hx hb hK hP 1 0 rfl rfl h dX8_excessOf_41 (fun v6 h => ?_)
    refine lv_aload_n hx hb dX8_excessOf_42 rfl (lv_at hl 0 rfl) ?_
    refine z_get (C := RX8) (T := TX8) (N := 12) (ci := 7) hx hb hts zin_X8 hown hK.1 hP 0 0 rfl rfl (by decide) tw795 rfl rfl dX8_excessOf_43 ?_
    refine lv_iload_n hx hb dX8_excessOf_46 rfl (lv_at hl 2 rfl) ?_
    refine lv_iconst (v := (2 : Int32)) hx hb dX8_excessOf_47 (by decide) ?_
    obtain ⟨v7, hc, h⟩ := zb1_s h
    refine zE_i (zrS (As := [.int p2, .int (2 : Int32)]) (rest := [.ref (a 31), .int v6, .int v4, .int p1, .ref (a 30)]) hx hb hml hown hts tw874 ms_X8_at ⟨Nat.le_of_ble_eq_true rfl, Nat.le_of_ble_eq_true rfl⟩ rfl rfl (ct_X8_at l p2 (2 : Int32) k v7 hc) z_p0 hl.1 rfl rfl (Nat.le_of_ble_eq_true rfl) dX8_excessOf_48 ⟨Nat.le_refl _, Nat.le_refl _⟩) ?_
    refine y_iald hx hb hK hP 1 0 rfl rfl h dX8_excessOf_51 (fun v8 h => ?_)
    obtain ⟨v9, so10, hc, h⟩ := zb2_s h
    refine zG_i (w1 := wX8 ct a ms ah hi kp sl sv pd ln so10 po wr to) (ws' := wX8 ct a ms ah hi kp sl sv pd ln so10 po wr to) hP hD hS hA [0, 1, 2, 3, 4, 5, 6, 7, 8] [] [0, 1, 2, 3, 4, 5, 6, 7, 8] rfl rfl (by decide) (by decide) rfl (by decide) (zrV (C := RX8) (As := [.int p1, .int v4, .int v6, .int v8]) (rest := []) hx hb hml hown hts tw936 mv_X8_excess ⟨Nat.le_of_ble_eq_true rfl, Nat.le_of_ble_eq_true rfl⟩ rfl rfl (ct_X8_excess l D ct a ms ah hi kp sl sv pd ln so po wr to _ p1 v4 v6 v8 k v9 so10 hc) (z_wv hK hP hD [0, 1, 2, 3, 4, 5, 6, 7, 8] (by decide) rfl 0 rfl rfl) hl.1 rfl rfl (Nat.le_of_ble_eq_true rfl) dX8_excessOf_52 ⟨Nat.le_refl _, Nat.le_refl _⟩) (fun H locs hP hD hS => ?_)
    cases h
    exact zX_i hx hb hr hlocks hP hD hS hAe dX8_excessOf_55 rfl
  · refine lv_bipush (v := (-6 : Int32)) hx hb dX8_excessOf_15 (by decide) ?_
    refine lv_goto (tgt := 55) hx hb dX8_excessOf_17 (by decide) ?_
    cases h
    exact zX_i hx hb hr hlocks hP hD hS hAe dX8_excessOf_55 rfl

def f_X8_canGive_b39 (k : Nat) (ms : Nat → Int32) (p1 : Int32) (p2 : Int32)  (so_ : Nat → Int32) (y0 : Int32) : Option (Int32 × (Nat → Int32)) :=
  zb1 (f_X8_ofOrderAt k p1 (3 : Int32)) fun v3 =>
  zg (zin v3 324) (zl (ms v3.toNatClampNeg) fun v4 =>
  if v4 = 0 then
    if y0 = 0 then
      some ((0 : Int32), so_)
    else
      zb2 (f_X8_excessOf k ms so_ p1 p2) fun v5 so6 =>
      if v5 = (-6 : Int32) then
        some ((0 : Int32), so6)
      else
        some ((1 : Int32), so6)
  else
    some ((0 : Int32), so_))
def f_X8_canGive (k : Nat) (ms : Nat → Int32) (so : Nat → Int32) (p1 : Int32) (p2 : Int32) : Option (Int32 × (Nat → Int32)) :=
  zb1 (f_X8_at k p2 (7 : Int32)) fun v1 =>
  zg (zin v1 324) (zl (ms v1.toNatClampNeg) fun v2 =>
  if v2 = (-6 : Int32) then
    zb1 (f_X8_isAt k ms p2 (3 : Int32)) fun v7 =>
    if v7 = 0 then
      zb1 (f_X8_isAt k ms p2 (4 : Int32)) fun v8 =>
      if v8 = 0 then
        f_X8_canGive_b39 k ms p1 p2 so (1 : Int32)
      else
        f_X8_canGive_b39 k ms p1 p2 so (0 : Int32)
    else
      f_X8_canGive_b39 k ms p1 p2 so (0 : Int32)
  else
    f_X8_canGive_b39 k ms p1 p2 so (0 : Int32))
set_option maxRecDepth 100000 in
set_option maxHeartbeats 4000000 in
theorem ct_X8_canGive (l : Launch) (D : va_G) (ct a : Nat → Nat) (ms : Nat → Int32) (ah : Nat → Int32) (hi : Nat → Int32) (kp : Int32) (sl : Nat → Int32) (sv : Nat → Int32) (pd : Nat → Int32) (ln : Int32) (so : Nat → Int32) (po : Int32) (wr : Int32) (to : Nat → Int32) (sz : Nat) (p1 : Int32) (p2 : Int32) (k : Nat) (r : Int32) (so' : Nat → Int32) (h : f_X8_canGive k ms so p1 p2 = some (r, so')) : Met l yX8_canGive (Cond.code yX8_canGive cX8_canGive 4 (some .boolean) :: zT) ({ frames := 3, cells := 0, slots := 0, locals := 75 } : Room) (va_Pc [.ref (a 30), .int p1, .int p2] (zPW D (zTys ct) (wX8 ct a ms ah hi kp sl sv pd ln so po wr to) sz)) (va_Qi (fun r' (_ : Unit) => r' = r) (zQW D (wX8 ct a ms ah hi kp sl sv pd ln so po wr to) sz (wX8 ct a ms ah hi kp sl sv pd ln so' po wr to)) (va_A (wX8 ct a ms ah hi kp sl sv pd ln so po wr to) sz)) 0 0 (va_A (wX8 ct a ms ah hi kp sl sv pd ln so po wr to) sz) := by
  refine zMet (cc := cX8_canGive) (maxL := 4) (ret := (some .boolean)) (av := [.ref (a 30), .int p1, .int p2]) (by decide) (Nat.le_of_ble_eq_true rfl) (fun p e s m below meth c ls hx hb hr hml hts hown hlocks hin hB hl => ?_)
  have hl : lv_has ls 4 [(0, .ref (a 30)), (1, .int p1), (2, .int p2)] := hl
  have hown : s.vm.findClass RX8 = some m.cls := hown
  obtain ⟨hsz, hP, hK, hD0⟩ := hB
  subst hsz
  have hD := hD0.self (sz := s.heap.size)
  obtain ⟨A, hAe⟩ : ∃ A, A = va_A (wX8 ct a ms ah hi kp sl sv pd ln so po wr to) s.heap.size := ⟨_, rfl⟩
  rw [← hAe] at hD
  have hA : ∀ q : Nat, s.heap.size ≤ q → A q := fun q h => by rw [hAe]; exact Or.inr h
  have hS : va_S A s.heap s.heap [] := va_S.rf
  have B39 : ∀ (so_ : Nat → Int32) (y0 : Int32), f_X8_canGive_b39 k ms p1 p2 so_ y0 = some (r, so') → ∀ (H : Heap) (locs : List Loc), va_P D vwCl (wX8 ct a ms ah hi kp sl sv pd ln so_ po wr to) H → va_D A (wX8 ct a ms ah hi kp sl sv pd ln so_ po wr to) → va_S A s.heap H locs → ∀ (ls : Array Slot), lv_has ls 4 [(0, .ref (a 30)), (1, .int p1), (2, .int p2)] → W p l e ({ frames := 3, cells := 0, slots := 0, locals := 75 } : Room) s m ([.ref (a 30), .int p1, .int p2] : List Value).toArray below meth c H locs 0 0 (MQ below (va_Qi (fun r' (_ : Unit) => r' = r) (zQW D (wX8 ct a ms ah hi kp sl sv pd ln so po wr to) s.heap.size (wX8 ct a ms ah hi kp sl sv pd ln so' po wr to)) (va_A (wX8 ct a ms ah hi kp sl sv pd ln so po wr to) s.heap.size)) ([.ref (a 30), .int p1, .int p2] : List Value).toArray s 0 0 (va_A (wX8 ct a ms ah hi kp sl sv pd ln so po wr to) s.heap.size)) (F0 m 39 ls [.int y0]) := by
    intro so_ y0 h H locs hP hD hS ls hl
    rw [f_X8_canGive_b39] at h
    refine lv_istore_n (lv' := [(3, .int y0), (0, .ref (a 30)), (1, .int p1), (2, .int p2)]) hx hb dX8_canGive_39 rfl hl (by decide) rfl (fun ls hl => ?_)
    refine lv_aload_n hx hb dX8_canGive_40 rfl (lv_at hl 1 rfl) ?_
    refine z_get (C := RX8) (T := TX8) (N := 12) (ci := 7) hx hb hts zin_X8 hown hK.1 hP 0 0 rfl rfl (by decide) tw795 rfl rfl dX8_canGive_41 ?_
    refine lv_iload_n hx hb dX8_canGive_44 rfl (lv_at hl 2 rfl) ?_
    refine lv_iconst (v := (3 : Int32)) hx hb dX8_canGive_45 (by decide) ?_
    obtain ⟨v3, hc, h⟩ := zb1_s h
    refine zE_i (zrS (As := [.int p1, .int (3 : Int32)]) (rest := [.ref (a 31)]) hx hb hml hown hts tw917 ms_X8_ofOrderAt ⟨Nat.le_of_ble_eq_true rfl, Nat.le_of_ble_eq_true rfl⟩ rfl rfl (ct_X8_ofOrderAt l p1 (3 : Int32) k v3 hc) z_p0 hl.1 rfl rfl (Nat.le_of_ble_eq_true rfl) dX8_canGive_46 ⟨Nat.le_refl _, Nat.le_refl _⟩) ?_
    refine y_iald hx hb hK hP 1 0 rfl rfl h dX8_canGive_49 (fun v4 h => ?_)
    refine zi_ne (tgt := 72) hx hb dX8_canGive_50 (by decide) h (fun h => ?_) (fun h => ?_)
    · refine lv_iconst (v := (0 : Int32)) hx hb dX8_canGive_72 (by decide) ?_
      cases h
      exact zX_z hx hb hr hlocks hP hD hS hAe dX8_canGive_73 (by decide) rfl
    · refine lv_iload_n hx hb dX8_canGive_53 rfl (lv_at hl 0 rfl) ?_
      refine zi_eq (tgt := 72) hx hb dX8_canGive_54 (by decide) h (fun h => ?_) (fun h => ?_)
      · refine lv_iconst (v := (0 : Int32)) hx hb dX8_canGive_72 (by decide) ?_
        cases h
        exact zX_z hx hb hr hlocks hP hD hS hAe dX8_canGive_73 (by decide) rfl
      · refine lv_aload_n hx hb dX8_canGive_57 rfl (lv_at hl 1 rfl) ?_
        refine lv_iload_n hx hb dX8_canGive_58 rfl (lv_at hl 2 rfl) ?_
        refine lv_iload_n hx hb dX8_canGive_59 rfl (lv_at hl 3 rfl) ?_
        obtain ⟨v5, so6, hc, h⟩ := zb2_s h
        refine zG_i (w1 := wX8 ct a ms ah hi kp sl sv pd ln so6 po wr to) (ws' := wX8 ct a ms ah hi kp sl sv pd ln so6 po wr to) hP hD hS hA [0, 1, 2, 3, 4, 5, 6, 7, 8] [] [0, 1, 2, 3, 4, 5, 6, 7, 8] rfl rfl (by decide) (by decide) rfl (by decide) (zrV (C := RX8) (As := [.int p1, .int p2]) (rest := []) hx hb hml hown hts tw932 mv_X8_excessOf ⟨Nat.le_of_ble_eq_true rfl, Nat.le_of_ble_eq_true rfl⟩ rfl rfl (ct_X8_excessOf l D ct a ms ah hi kp sl sv pd ln so_ po wr to _ p1 p2 k v5 so6 hc) (z_wv hK hP hD [0, 1, 2, 3, 4, 5, 6, 7, 8] (by decide) rfl 0 rfl rfl) hl.1 rfl rfl (Nat.le_of_ble_eq_true rfl) dX8_canGive_60 ⟨Nat.le_refl _, Nat.le_refl _⟩) (fun H locs hP hD hS => ?_)
        refine lv_bipush (v := (-6 : Int32)) hx hb dX8_canGive_63 (by decide) ?_
        refine zc_eq (tgt := 72) hx hb dX8_canGive_65 (by decide) h (fun h => ?_) (fun h => ?_)
        · refine lv_iconst (v := (0 : Int32)) hx hb dX8_canGive_72 (by decide) ?_
          cases h
          exact zX_z hx hb hr hlocks hP hD hS hAe dX8_canGive_73 (by decide) rfl
        · refine lv_iconst (v := (1 : Int32)) hx hb dX8_canGive_68 (by decide) ?_
          refine lv_goto (tgt := 73) hx hb dX8_canGive_69 (by decide) ?_
          cases h
          exact zX_z hx hb hr hlocks hP hD hS hAe dX8_canGive_73 (by decide) rfl
  rw [f_X8_canGive] at h
  refine lv_aload_n hx hb dX8_canGive_0 rfl (lv_at hl 0 rfl) ?_
  refine z_get (C := RX8) (T := TX8) (N := 12) (ci := 7) hx hb hts zin_X8 hown hK.1 hP 0 0 rfl rfl (by decide) tw795 rfl rfl dX8_canGive_1 ?_
  refine lv_iload_n hx hb dX8_canGive_4 rfl (lv_at hl 2 rfl) ?_
  refine lv_bipush (v := (7 : Int32)) hx hb dX8_canGive_5 (by decide) ?_
  obtain ⟨v1, hc, h⟩ := zb1_s h
  refine zE_i (zrS (As := [.int p2, .int (7 : Int32)]) (rest := [.ref (a 31)]) hx hb hml hown hts tw874 ms_X8_at ⟨Nat.le_of_ble_eq_true rfl, Nat.le_of_ble_eq_true rfl⟩ rfl rfl (ct_X8_at l p2 (7 : Int32) k v1 hc) z_p0 hl.1 rfl rfl (Nat.le_of_ble_eq_true rfl) dX8_canGive_7 ⟨Nat.le_refl _, Nat.le_refl _⟩) ?_
  refine y_iald hx hb hK hP 1 0 rfl rfl h dX8_canGive_10 (fun v2 h => ?_)
  refine lv_bipush (v := (-6 : Int32)) hx hb dX8_canGive_11 (by decide) ?_
  refine zc_ne (tgt := 38) hx hb dX8_canGive_13 (by decide) h (fun h => ?_) (fun h => ?_)
  · refine lv_iconst (v := (0 : Int32)) hx hb dX8_canGive_38 (by decide) ?_
    exact B39 so (0 : Int32) h _ _ hP hD hS ls (lv_sub hl [0, 1, 2] rfl)
  · refine lv_aload_n hx hb dX8_canGive_16 rfl (lv_at hl 0 rfl) ?_
    refine lv_iload_n hx hb dX8_canGive_17 rfl (lv_at hl 2 rfl) ?_
    refine lv_iconst (v := (3 : Int32)) hx hb dX8_canGive_18 (by decide) ?_
    obtain ⟨v7, hc, h⟩ := zb1_s h
    refine zE_i (zrV (C := RX8) (As := [.int p2, .int (3 : Int32)]) (rest := []) hx hb hml hown hts tw897 mv_X8_isAt ⟨Nat.le_of_ble_eq_true rfl, Nat.le_of_ble_eq_true rfl⟩ rfl rfl (ct_X8_isAt l D ct a ms ah hi kp sl sv pd ln so po wr to p2 (3 : Int32) k v7 hc) (z_pv hK hP [0, 1, 2, 3, 4, 5, 6, 7, 8] rfl 0 rfl rfl) hl.1 rfl rfl (Nat.le_of_ble_eq_true rfl) dX8_canGive_19 ⟨Nat.le_refl _, Nat.le_refl _⟩) ?_
    refine zi_ne (tgt := 38) hx hb dX8_canGive_22 (by decide) h (fun h => ?_) (fun h => ?_)
    · refine lv_iconst (v := (0 : Int32)) hx hb dX8_canGive_38 (by decide) ?_
      exact B39 so (0 : Int32) h _ _ hP hD hS ls (lv_sub hl [0, 1, 2] rfl)
    · refine lv_aload_n hx hb dX8_canGive_25 rfl (lv_at hl 0 rfl) ?_
      refine lv_iload_n hx hb dX8_canGive_26 rfl (lv_at hl 2 rfl) ?_
      refine lv_iconst (v := (4 : Int32)) hx hb dX8_canGive_27 (by decide) ?_
      obtain ⟨v8, hc, h⟩ := zb1_s h
      refine zE_i (zrV (C := RX8) (As := [.int p2, .int (4 : Int32)]) (rest := []) hx hb hml hown hts tw897 mv_X8_isAt ⟨Nat.le_of_ble_eq_true rfl, Nat.le_of_ble_eq_true rfl⟩ rfl rfl (ct_X8_isAt l D ct a ms ah hi kp sl sv pd ln so po wr to p2 (4 : Int32) k v8 hc) (z_pv hK hP [0, 1, 2, 3, 4, 5, 6, 7, 8] rfl 0 rfl rfl) hl.1 rfl rfl (Nat.le_of_ble_eq_true rfl) dX8_canGive_28 ⟨Nat.le_refl _, Nat.le_refl _⟩) ?_
      refine zi_ne (tgt := 38) hx hb dX8_canGive_31 (by decide) h (fun h => ?_) (fun h => ?_)
      · refine lv_iconst (v := (0 : Int32)) hx hb dX8_canGive_38 (by decide) ?_
        exact B39 so (0 : Int32) h _ _ hP hD hS ls (lv_sub hl [0, 1, 2] rfl)
      · refine lv_iconst (v := (1 : Int32)) hx hb dX8_canGive_34 (by decide) ?_
        refine lv_goto (tgt := 39) hx hb dX8_canGive_35 (by decide) ?_
        exact B39 so (1 : Int32) h _ _ hP hD hS ls (lv_sub hl [0, 1, 2] rfl)

def f_X8_gives (k : Nat) (ms : Nat → Int32) (so : Nat → Int32) (p1 : Int32) (p2 : Int32) : Option (Int32 × (Nat → Int32) × (Nat → Int32)) :=
  zb1 (f_X8_isOrder k ms p1) fun v1 =>
  if v1 = 0 then
    some ((-1 : Int32), ms, so)
  else
    zb1 (f_X8_isBlock k ms p2) fun v2 =>
    if v2 = 0 then
      some ((-1 : Int32), ms, so)
    else
      zb2 (f_X8_canGive k ms so p1 p2) fun v3 so4 =>
      if v3 = 0 then
        some ((-5 : Int32), ms, so4)
      else
        zb1 (f_X8_ofOrderAt k p1 (3 : Int32)) fun v5 =>
        zg (zin v5 324) (zl (upd ms v5.toNatClampNeg (1 : Int32)) fun ms6 =>
        zb1 (f_X8_ofOrderAt k p1 (4 : Int32)) fun v7 =>
        zg (zin v7 324) (zl (upd ms6 v7.toNatClampNeg p2) fun ms8 =>
        zb1 (f_X8_at k p2 (7 : Int32)) fun v9 =>
        zg (zin v9 324) (zl (upd ms8 v9.toNatClampNeg p1) fun ms10 =>
        zb2 (f_X8_excessOf k ms10 so4 p1 p2) fun v11 so12 =>
        some (v11, ms10, so12))))
set_option maxRecDepth 100000 in
set_option maxHeartbeats 4000000 in
theorem ct_X8_gives (l : Launch) (D : va_G) (ct a : Nat → Nat) (ms : Nat → Int32) (ah : Nat → Int32) (hi : Nat → Int32) (kp : Int32) (sl : Nat → Int32) (sv : Nat → Int32) (pd : Nat → Int32) (ln : Int32) (so : Nat → Int32) (po : Int32) (wr : Int32) (to : Nat → Int32) (sz : Nat) (p1 : Int32) (p2 : Int32) (k : Nat) (r : Int32) (ms' : Nat → Int32) (so' : Nat → Int32) (h : f_X8_gives k ms so p1 p2 = some (r, ms', so')) : Met l yX8_gives (Cond.code yX8_gives cX8_gives 3 (some .int) :: zT) ({ frames := 4, cells := 0, slots := 0, locals := 98 } : Room) (va_Pc [.ref (a 30), .int p1, .int p2] (zPW D (zTys ct) (wX8 ct a ms ah hi kp sl sv pd ln so po wr to) sz)) (va_Qi (fun r' (_ : Unit) => r' = r) (zQW D (wX8 ct a ms ah hi kp sl sv pd ln so po wr to) sz (wX8 ct a ms' ah hi kp sl sv pd ln so' po wr to)) (va_A (wX8 ct a ms ah hi kp sl sv pd ln so po wr to) sz)) 0 0 (va_A (wX8 ct a ms ah hi kp sl sv pd ln so po wr to) sz) := by
  refine zMet (cc := cX8_gives) (maxL := 3) (ret := (some .int)) (av := [.ref (a 30), .int p1, .int p2]) (by decide) (Nat.le_of_ble_eq_true rfl) (fun p e s m below meth c ls hx hb hr hml hts hown hlocks hin hB hl => ?_)
  have hl : lv_has ls 3 [(0, .ref (a 30)), (1, .int p1), (2, .int p2)] := hl
  have hown : s.vm.findClass RX8 = some m.cls := hown
  obtain ⟨hsz, hP, hK, hD0⟩ := hB
  subst hsz
  have hD := hD0.self (sz := s.heap.size)
  obtain ⟨A, hAe⟩ : ∃ A, A = va_A (wX8 ct a ms ah hi kp sl sv pd ln so po wr to) s.heap.size := ⟨_, rfl⟩
  rw [← hAe] at hD
  have hA : ∀ q : Nat, s.heap.size ≤ q → A q := fun q h => by rw [hAe]; exact Or.inr h
  have hS : va_S A s.heap s.heap [] := va_S.rf
  rw [f_X8_gives] at h
  refine lv_aload_n hx hb dX8_gives_0 rfl (lv_at hl 0 rfl) ?_
  refine lv_iload_n hx hb dX8_gives_1 rfl (lv_at hl 1 rfl) ?_
  obtain ⟨v1, hc, h⟩ := zb1_s h
  refine zE_i (zrV (C := RX8) (As := [.int p1]) (rest := []) hx hb hml hown hts tw924 mv_X8_isOrder ⟨Nat.le_of_ble_eq_true rfl, Nat.le_of_ble_eq_true rfl⟩ rfl rfl (ct_X8_isOrder l D ct a ms ah hi kp sl sv pd ln so po wr to p1 k v1 hc) (z_pv hK hP [0, 1, 2, 3, 4, 5, 6, 7, 8] rfl 0 rfl rfl) hl.1 rfl rfl (Nat.le_of_ble_eq_true rfl) dX8_gives_2 ⟨Nat.le_refl _, Nat.le_refl _⟩) ?_
  refine zi_eq (tgt := 16) hx hb dX8_gives_5 (by decide) h (fun h => ?_) (fun h => ?_)
  · refine lv_iconst (v := (-1 : Int32)) hx hb dX8_gives_16 (by decide) ?_
    cases h
    exact zX_i hx hb hr hlocks hP hD hS hAe dX8_gives_17 rfl
  · refine lv_aload_n hx hb dX8_gives_8 rfl (lv_at hl 0 rfl) ?_
    refine lv_iload_n hx hb dX8_gives_9 rfl (lv_at hl 2 rfl) ?_
    obtain ⟨v2, hc, h⟩ := zb1_s h
    refine zE_i (zrV (C := RX8) (As := [.int p2]) (rest := []) hx hb hml hown hts tw885 mv_X8_isBlock ⟨Nat.le_of_ble_eq_true rfl, Nat.le_of_ble_eq_true rfl⟩ rfl rfl (ct_X8_isBlock l D ct a ms ah hi kp sl sv pd ln so po wr to p2 k v2 hc) (z_pv hK hP [0, 1, 2, 3, 4, 5, 6, 7, 8] rfl 0 rfl rfl) hl.1 rfl rfl (Nat.le_of_ble_eq_true rfl) dX8_gives_10 ⟨Nat.le_refl _, Nat.le_refl _⟩) ?_
    refine zi_ne (tgt := 18) hx hb dX8_gives_13 (by decide) h (fun h => ?_) (fun h => ?_)
    · refine lv_aload_n hx hb dX8_gives_18 rfl (lv_at hl 0 rfl) ?_
      refine lv_iload_n hx hb dX8_gives_19 rfl (lv_at hl 1 rfl) ?_
      refine lv_iload_n hx hb dX8_gives_20 rfl (lv_at hl 2 rfl) ?_
      obtain ⟨v3, so4, hc, h⟩ := zb2_s h
      refine zG_i (w1 := wX8 ct a ms ah hi kp sl sv pd ln so4 po wr to) (ws' := wX8 ct a ms ah hi kp sl sv pd ln so4 po wr to) hP hD hS hA [0, 1, 2, 3, 4, 5, 6, 7, 8] [] [0, 1, 2, 3, 4, 5, 6, 7, 8] rfl rfl (by decide) (by decide) rfl (by decide) (zrV (C := RX8) (As := [.int p1, .int p2]) (rest := []) hx hb hml hown hts tw928 mv_X8_canGive ⟨Nat.le_of_ble_eq_true rfl, Nat.le_of_ble_eq_true rfl⟩ rfl rfl (ct_X8_canGive l D ct a ms ah hi kp sl sv pd ln so po wr to _ p1 p2 k v3 so4 hc) (z_wv hK hP hD [0, 1, 2, 3, 4, 5, 6, 7, 8] (by decide) rfl 0 rfl rfl) hl.1 rfl rfl (Nat.le_of_ble_eq_true rfl) dX8_gives_21 ⟨Nat.le_refl _, Nat.le_refl _⟩) (fun H locs hP hD hS => ?_)
      refine zi_ne (tgt := 30) hx hb dX8_gives_24 (by decide) h (fun h => ?_) (fun h => ?_)
      · refine lv_aload_n hx hb dX8_gives_30 rfl (lv_at hl 0 rfl) ?_
        refine z_get (C := RX8) (T := TX8) (N := 12) (ci := 7) hx hb hts zin_X8 hown hK.1 hP 0 0 rfl rfl (by decide) tw795 rfl rfl dX8_gives_31 ?_
        refine lv_iload_n hx hb dX8_gives_34 rfl (lv_at hl 1 rfl) ?_
        refine lv_iconst (v := (3 : Int32)) hx hb dX8_gives_35 (by decide) ?_
        obtain ⟨v5, hc, h⟩ := zb1_s h
        refine zE_i (zrS (As := [.int p1, .int (3 : Int32)]) (rest := [.ref (a 31)]) hx hb hml hown hts tw917 ms_X8_ofOrderAt ⟨Nat.le_of_ble_eq_true rfl, Nat.le_of_ble_eq_true rfl⟩ rfl rfl (ct_X8_ofOrderAt l p1 (3 : Int32) k v5 hc) z_p0 hl.1 rfl rfl (Nat.le_of_ble_eq_true rfl) dX8_gives_36 ⟨Nat.le_refl _, Nat.le_refl _⟩) ?_
        refine lv_iconst (v := (1 : Int32)) hx hb dX8_gives_39 (by decide) ?_
        refine z_iast hx hb hK.1 hP hD hS 1 0 rfl rfl h dX8_gives_40 (fun ms6 H locs h hP hD hS => ?_)
        have hP : va_P D vwCl (wX8 ct a ms6 ah hi kp sl sv pd ln so4 po wr to) H := hP
        have hD : va_D A (wX8 ct a ms6 ah hi kp sl sv pd ln so4 po wr to) := hD
        refine lv_aload_n hx hb dX8_gives_41 rfl (lv_at hl 0 rfl) ?_
        refine z_get (C := RX8) (T := TX8) (N := 12) (ci := 7) hx hb hts zin_X8 hown hK.1 hP 0 0 rfl rfl (by decide) tw795 rfl rfl dX8_gives_42 ?_
        refine lv_iload_n hx hb dX8_gives_45 rfl (lv_at hl 1 rfl) ?_
        refine lv_iconst (v := (4 : Int32)) hx hb dX8_gives_46 (by decide) ?_
        obtain ⟨v7, hc, h⟩ := zb1_s h
        refine zE_i (zrS (As := [.int p1, .int (4 : Int32)]) (rest := [.ref (a 31)]) hx hb hml hown hts tw917 ms_X8_ofOrderAt ⟨Nat.le_of_ble_eq_true rfl, Nat.le_of_ble_eq_true rfl⟩ rfl rfl (ct_X8_ofOrderAt l p1 (4 : Int32) k v7 hc) z_p0 hl.1 rfl rfl (Nat.le_of_ble_eq_true rfl) dX8_gives_47 ⟨Nat.le_refl _, Nat.le_refl _⟩) ?_
        refine lv_iload_n hx hb dX8_gives_50 rfl (lv_at hl 2 rfl) ?_
        refine z_iast hx hb hK.1 hP hD hS 1 0 rfl rfl h dX8_gives_51 (fun ms8 H locs h hP hD hS => ?_)
        have hP : va_P D vwCl (wX8 ct a ms8 ah hi kp sl sv pd ln so4 po wr to) H := hP
        have hD : va_D A (wX8 ct a ms8 ah hi kp sl sv pd ln so4 po wr to) := hD
        refine lv_aload_n hx hb dX8_gives_52 rfl (lv_at hl 0 rfl) ?_
        refine z_get (C := RX8) (T := TX8) (N := 12) (ci := 7) hx hb hts zin_X8 hown hK.1 hP 0 0 rfl rfl (by decide) tw795 rfl rfl dX8_gives_53 ?_
        refine lv_iload_n hx hb dX8_gives_56 rfl (lv_at hl 2 rfl) ?_
        refine lv_bipush (v := (7 : Int32)) hx hb dX8_gives_57 (by decide) ?_
        obtain ⟨v9, hc, h⟩ := zb1_s h
        refine zE_i (zrS (As := [.int p2, .int (7 : Int32)]) (rest := [.ref (a 31)]) hx hb hml hown hts tw874 ms_X8_at ⟨Nat.le_of_ble_eq_true rfl, Nat.le_of_ble_eq_true rfl⟩ rfl rfl (ct_X8_at l p2 (7 : Int32) k v9 hc) z_p0 hl.1 rfl rfl (Nat.le_of_ble_eq_true rfl) dX8_gives_59 ⟨Nat.le_refl _, Nat.le_refl _⟩) ?_
        refine lv_iload_n hx hb dX8_gives_62 rfl (lv_at hl 1 rfl) ?_
        refine z_iast hx hb hK.1 hP hD hS 1 0 rfl rfl h dX8_gives_63 (fun ms10 H locs h hP hD hS => ?_)
        have hP : va_P D vwCl (wX8 ct a ms10 ah hi kp sl sv pd ln so4 po wr to) H := hP
        have hD : va_D A (wX8 ct a ms10 ah hi kp sl sv pd ln so4 po wr to) := hD
        refine lv_aload_n hx hb dX8_gives_64 rfl (lv_at hl 0 rfl) ?_
        refine lv_iload_n hx hb dX8_gives_65 rfl (lv_at hl 1 rfl) ?_
        refine lv_iload_n hx hb dX8_gives_66 rfl (lv_at hl 2 rfl) ?_
        obtain ⟨v11, so12, hc, h⟩ := zb2_s h
        refine zG_i (w1 := wX8 ct a ms10 ah hi kp sl sv pd ln so12 po wr to) (ws' := wX8 ct a ms10 ah hi kp sl sv pd ln so12 po wr to) hP hD hS hA [0, 1, 2, 3, 4, 5, 6, 7, 8] [] [0, 1, 2, 3, 4, 5, 6, 7, 8] rfl rfl (by decide) (by decide) rfl (by decide) (zrV (C := RX8) (As := [.int p1, .int p2]) (rest := []) hx hb hml hown hts tw932 mv_X8_excessOf ⟨Nat.le_of_ble_eq_true rfl, Nat.le_of_ble_eq_true rfl⟩ rfl rfl (ct_X8_excessOf l D ct a ms10 ah hi kp sl sv pd ln so4 po wr to _ p1 p2 k v11 so12 hc) (z_wv hK hP hD [0, 1, 2, 3, 4, 5, 6, 7, 8] (by decide) rfl 0 rfl rfl) hl.1 rfl rfl (Nat.le_of_ble_eq_true rfl) dX8_gives_67 ⟨Nat.le_refl _, Nat.le_refl _⟩) (fun H locs hP hD hS => ?_)
        cases h
        exact zX_i hx hb hr hlocks hP hD hS hAe dX8_gives_70 rfl
      · refine lv_bipush (v := (-5 : Int32)) hx hb dX8_gives_27 (by decide) ?_
        cases h
        exact zX_i hx hb hr hlocks hP hD hS hAe dX8_gives_29 rfl
    · refine lv_iconst (v := (-1 : Int32)) hx hb dX8_gives_16 (by decide) ?_
      cases h
      exact zX_i hx hb hr hlocks hP hD hS hAe dX8_gives_17 rfl

def f_X8_isLorry (k : Nat) (p1 : Int32) : Option (Int32) :=
  zb1 (f_X8_in k p1 (0 : Int32) (2 : Int32)) fun v1 =>
  zg (zbo v1) (some v1)
set_option maxRecDepth 100000 in
set_option maxHeartbeats 4000000 in
theorem ct_X8_isLorry (l : Launch) (p1 : Int32) (k : Nat) (r : Int32) (h : f_X8_isLorry k p1 = some r) : Met l yX8_isLorry (Cond.code yX8_isLorry cX8_isLorry 1 (some .boolean) :: zT) ({ frames := 1, cells := 0, slots := 0, locals := 22 } : Room) (va_Pc [.int p1] (fun _ => True)) (vp_Si (fun r' => r' = r)) 0 0 (fun _ => False) := by
  refine zMet (cc := cX8_isLorry) (maxL := 1) (ret := (some .boolean)) (av := [.int p1]) (by decide) (Nat.le_of_ble_eq_true rfl) (fun p e s m below meth c ls hx hb hr hml hts hown hlocks hin hB hl => ?_)
  have hl : lv_has ls 1 [(0, .int p1)] := hl
  have hown : s.vm.findClass RX8 = some m.cls := hown
  rw [f_X8_isLorry] at h
  refine lv_iload_n hx hb dX8_isLorry_0 rfl (lv_at hl 0 rfl) ?_
  refine lv_iconst (v := (0 : Int32)) hx hb dX8_isLorry_1 (by decide) ?_
  refine lv_iconst (v := (2 : Int32)) hx hb dX8_isLorry_2 (by decide) ?_
  obtain ⟨v1, hc, h⟩ := zb1_s h
  refine zE_i (zrS (As := [.int p1, .int (0 : Int32), .int (2 : Int32)]) (rest := []) hx hb hml hown hts tw836 ms_X8_in ⟨Nat.le_of_ble_eq_true rfl, Nat.le_of_ble_eq_true rfl⟩ rfl rfl (ct_X8_in l p1 (0 : Int32) (2 : Int32) k v1 hc) z_p0 hl.1 rfl rfl (Nat.le_of_ble_eq_true rfl) dX8_isLorry_3 ⟨Nat.le_refl _, Nat.le_refl _⟩) ?_
  exact zR_z hx hb hr hlocks dX8_isLorry_6 h

def f_X8_blockAt_b6 (k : Nat) (ms : Nat → Int32) (p1 : Int32) (p2 : Int32)  : Nat → Int32 → Int32 → Option (Int32)
  | 0, _, _ => none
  | n + 1, x3, x4 =>
    zl (ms 5) fun v1 =>
    if v1 ≤ x4 then
      some x3
    else
      zb1 (f_X8_at k x4 (8 : Int32)) fun v2 =>
      zg (zin v2 324) (zl (ms v2.toNatClampNeg) fun v3 =>
      zl ((5 : Int32) * p1) fun v4 =>
      zl (v4 + p2) fun v5 =>
      if v3 = v5 then
        zl (x4 + (1 : Int32)) fun v7 =>
        f_X8_blockAt_b6 k ms p1 p2 n x4 v7
      else
        zl (x4 + (1 : Int32)) fun v6 =>
        f_X8_blockAt_b6 k ms p1 p2 n x3 v6)
def f_X8_blockAt (k : Nat) (ms : Nat → Int32) (p1 : Int32) (p2 : Int32) : Option (Int32) :=
  f_X8_blockAt_b6 k ms p1 p2 k (-6 : Int32) (0 : Int32)
set_option maxRecDepth 100000 in
set_option maxHeartbeats 4000000 in
theorem ct_X8_blockAt (l : Launch) (D : va_G) (ct a : Nat → Nat) (ms : Nat → Int32) (ah : Nat → Int32) (hi : Nat → Int32) (kp : Int32) (sl : Nat → Int32) (sv : Nat → Int32) (pd : Nat → Int32) (ln : Int32) (so : Nat → Int32) (po : Int32) (wr : Int32) (to : Nat → Int32) (p1 : Int32) (p2 : Int32) (k : Nat) (r : Int32) (h : f_X8_blockAt k ms p1 p2 = some r) : Met l yX8_blockAt (Cond.code yX8_blockAt cX8_blockAt 5 (some .int) :: zT) ({ frames := 1, cells := 0, slots := 0, locals := 21 } : Room) (va_Pc [.ref (a 30), .int p1, .int p2] (zPR D (zTys ct) (wX8 ct a ms ah hi kp sl sv pd ln so po wr to))) (vp_Si (fun r' => r' = r)) 0 0 (fun _ => False) := by
  refine zMet (cc := cX8_blockAt) (maxL := 5) (ret := (some .int)) (av := [.ref (a 30), .int p1, .int p2]) (by decide) (Nat.le_of_ble_eq_true rfl) (fun p e s m below meth c ls hx hb hr hml hts hown hlocks hin hB hl => ?_)
  have hl : lv_has ls 5 [(0, .ref (a 30)), (1, .int p1), (2, .int p2)] := hl
  have hown : s.vm.findClass RX8 = some m.cls := hown
  obtain ⟨hP, hK⟩ := hB
  have B6 : ∀ (n : Nat), ∀ (x3 : Int32) (x4 : Int32), f_X8_blockAt_b6 k ms p1 p2 n x3 x4 = some r → ∀ (ls : Array Slot), lv_has ls 5 [(0, .ref (a 30)), (1, .int p1), (2, .int p2), (3, .int x3), (4, .int x4)] → W p l e ({ frames := 1, cells := 0, slots := 0, locals := 21 } : Room) s m ([.ref (a 30), .int p1, .int p2] : List Value).toArray below meth c s.heap [] 0 0 (MQ below (vp_Si (fun r' => r' = r)) ([.ref (a 30), .int p1, .int p2] : List Value).toArray s 0 0 (fun _ => False)) (F0 m 6 ls []) := by
    intro n
    induction n with
    | zero => intro x3 x4 h; exact absurd h (by rw [f_X8_blockAt_b6]; exact fun q => nomatch q)
    | succ n ih6 =>
      intro x3 x4 h ls hl
      rw [f_X8_blockAt_b6] at h
      refine lv_iload hx hb dX8_blockAt_6 (lv_at hl 4 rfl) ?_
      refine lv_aload_n hx hb dX8_blockAt_8 rfl (lv_at hl 0 rfl) ?_
      refine z_get (C := RX8) (T := TX8) (N := 12) (ci := 7) hx hb hts zin_X8 hown hK.1 hP 0 0 rfl rfl (by decide) tw795 rfl rfl dX8_blockAt_9 ?_
      refine lv_iconst (v := (5 : Int32)) hx hb dX8_blockAt_12 (by decide) ?_
      refine y_ialdc hx hb hK hP 1 0 5 rfl rfl (by decide) (by decide) h dX8_blockAt_13 (fun v1 h => ?_)
      refine zc_ge (tgt := 50) hx hb dX8_blockAt_14 (by decide) h (fun h => ?_) (fun h => ?_)
      · refine lv_iload_n hx hb dX8_blockAt_50 rfl (lv_at hl 3 rfl) ?_
        exact zR_i hx hb hr hlocks dX8_blockAt_51 h
      · refine lv_aload_n hx hb dX8_blockAt_17 rfl (lv_at hl 0 rfl) ?_
        refine z_get (C := RX8) (T := TX8) (N := 12) (ci := 7) hx hb hts zin_X8 hown hK.1 hP 0 0 rfl rfl (by decide) tw795 rfl rfl dX8_blockAt_18 ?_
        refine lv_iload hx hb dX8_blockAt_21 (lv_at hl 4 rfl) ?_
        refine lv_bipush (v := (8 : Int32)) hx hb dX8_blockAt_23 (by decide) ?_
        obtain ⟨v2, hc, h⟩ := zb1_s h
        refine zE_i (zrS (As := [.int x4, .int (8 : Int32)]) (rest := [.ref (a 31)]) hx hb hml hown hts tw874 ms_X8_at ⟨Nat.le_of_ble_eq_true rfl, Nat.le_of_ble_eq_true rfl⟩ rfl rfl (ct_X8_at l x4 (8 : Int32) k v2 hc) z_p0 hl.1 rfl rfl (Nat.le_of_ble_eq_true rfl) dX8_blockAt_25 ⟨Nat.le_refl _, Nat.le_refl _⟩) ?_
        refine y_iald hx hb hK hP 1 0 rfl rfl h dX8_blockAt_28 (fun v3 h => ?_)
        refine lv_iconst (v := (5 : Int32)) hx hb dX8_blockAt_29 (by decide) ?_
        refine lv_iload_n hx hb dX8_blockAt_30 rfl (lv_at hl 1 rfl) ?_
        refine o_imul hx hb dX8_blockAt_31 h (fun v4 h => ?_)
        refine lv_iload_n hx hb dX8_blockAt_32 rfl (lv_at hl 2 rfl) ?_
        refine o_iadd hx hb dX8_blockAt_33 h (fun v5 h => ?_)
        refine zc_ne (tgt := 42) hx hb dX8_blockAt_34 (by decide) h (fun h => ?_) (fun h => ?_)
        · refine lv_iload_n hx hb dX8_blockAt_42 rfl (lv_at hl 3 rfl) ?_
          refine lv_istore_n (lv' := [(3, .int x3), (0, .ref (a 30)), (1, .int p1), (2, .int p2), (4, .int x4)]) hx hb dX8_blockAt_43 rfl hl (by decide) rfl (fun ls hl => ?_)
          refine o_nm h (fun v6 ey h => ?_)
          refine lv_iinc (v := v6) (lv' := [(4, .int v6), (3, .int x3), (0, .ref (a 30)), (1, .int p1), (2, .int p2)]) hx hb dX8_blockAt_44 hl (k := 4) rfl (Eq.trans rfl ey) (by decide) rfl (fun ls hl => ?_)
          refine lv_goto (tgt := 6) hx hb dX8_blockAt_47 (by decide) ?_
          exact ih6 x3 v6 h ls (lv_sub hl [2, 3, 4, 1, 0] rfl)
        · refine lv_iload hx hb dX8_blockAt_37 (lv_at hl 4 rfl) ?_
          refine lv_goto (tgt := 43) hx hb dX8_blockAt_39 (by decide) ?_
          refine lv_istore_n (lv' := [(3, .int x4), (0, .ref (a 30)), (1, .int p1), (2, .int p2), (4, .int x4)]) hx hb dX8_blockAt_43 rfl hl (by decide) rfl (fun ls hl => ?_)
          refine o_nm h (fun v7 ey h => ?_)
          refine lv_iinc (v := v7) (lv' := [(4, .int v7), (3, .int x4), (0, .ref (a 30)), (1, .int p1), (2, .int p2)]) hx hb dX8_blockAt_44 hl (k := 4) rfl (Eq.trans rfl ey) (by decide) rfl (fun ls hl => ?_)
          refine lv_goto (tgt := 6) hx hb dX8_blockAt_47 (by decide) ?_
          exact ih6 x4 v7 h ls (lv_sub hl [2, 3, 4, 1, 0] rfl)
  rw [f_X8_blockAt] at h
  refine lv_bipush (v := (-6 : Int32)) hx hb dX8_blockAt_0 (by decide) ?_
  refine lv_istore_n (lv' := [(3, .int (-6 : Int32)), (0, .ref (a 30)), (1, .int p1), (2, .int p2)]) hx hb dX8_blockAt_2 rfl hl (by decide) rfl (fun ls hl => ?_)
  refine lv_iconst (v := (0 : Int32)) hx hb dX8_blockAt_3 (by decide) ?_
  refine lv_istore (lv' := [(4, .int (0 : Int32)), (3, .int (-6 : Int32)), (0, .ref (a 30)), (1, .int p1), (2, .int p2)]) hx hb dX8_blockAt_4 hl (by decide) rfl (fun ls hl => ?_)
  exact B6 k (-6 : Int32) (0 : Int32) h ls (lv_sub hl [2, 3, 4, 1, 0] rfl)

def f_X8_loadOf_b35 (k : Nat) (ms : Nat → Int32) (p1 : Int32) (k4 : Int32 → Int32 → Option (Int32)) (x3 : Int32) (y0 : Int32) (y1 : Int32) : Option (Int32) :=
  zl (y1 + y0) fun v4 =>
  zl (x3 + (1 : Int32)) fun v5 =>
  k4 v4 v5
def f_X8_loadOf_b4 (k : Nat) (ms : Nat → Int32) (p1 : Int32)  : Nat → Int32 → Int32 → Option (Int32)
  | 0, _, _ => none
  | n + 1, x2, x3 =>
    if (5 : Int32) ≤ x3 then
      some x2
    else
      zb1 (f_X8_blockAt k ms p1 x3) fun v1 =>
      if v1 = (-6 : Int32) then
        f_X8_loadOf_b35 k ms p1 (f_X8_loadOf_b4 k ms p1 n) x3 (0 : Int32) x2
      else
        zb1 (f_X8_blockAt k ms p1 x3) fun v2 =>
        zb1 (f_X8_weight k ms v2) fun v3 =>
        f_X8_loadOf_b35 k ms p1 (f_X8_loadOf_b4 k ms p1 n) x3 v3 x2
def f_X8_loadOf (k : Nat) (ms : Nat → Int32) (p1 : Int32) : Option (Int32) :=
  f_X8_loadOf_b4 k ms p1 k (0 : Int32) (0 : Int32)
set_option maxRecDepth 100000 in
set_option maxHeartbeats 4000000 in
theorem ct_X8_loadOf (l : Launch) (D : va_G) (ct a : Nat → Nat) (ms : Nat → Int32) (ah : Nat → Int32) (hi : Nat → Int32) (kp : Int32) (sl : Nat → Int32) (sv : Nat → Int32) (pd : Nat → Int32) (ln : Int32) (so : Nat → Int32) (po : Int32) (wr : Int32) (to : Nat → Int32) (p1 : Int32) (k : Nat) (r : Int32) (h : f_X8_loadOf k ms p1 = some r) : Met l yX8_loadOf (Cond.code yX8_loadOf cX8_loadOf 4 (some .int) :: zT) ({ frames := 2, cells := 0, slots := 0, locals := 45 } : Room) (va_Pc [.ref (a 30), .int p1] (zPR D (zTys ct) (wX8 ct a ms ah hi kp sl sv pd ln so po wr to))) (vp_Si (fun r' => r' = r)) 0 0 (fun _ => False) := by
  refine zMet (cc := cX8_loadOf) (maxL := 4) (ret := (some .int)) (av := [.ref (a 30), .int p1]) (by decide) (Nat.le_of_ble_eq_true rfl) (fun p e s m below meth c ls hx hb hr hml hts hown hlocks hin hB hl => ?_)
  have hl : lv_has ls 4 [(0, .ref (a 30)), (1, .int p1)] := hl
  have hown : s.vm.findClass RX8 = some m.cls := hown
  obtain ⟨hP, hK⟩ := hB
  have B35 : ∀ (k4 : Int32 → Int32 → Option (Int32)) (hk4 : ∀ (x2 : Int32) (x3 : Int32), k4 x2 x3 = some r → ∀ (ls : Array Slot), lv_has ls 4 [(0, .ref (a 30)), (1, .int p1), (2, .int x2), (3, .int x3)] → W p l e ({ frames := 2, cells := 0, slots := 0, locals := 45 } : Room) s m ([.ref (a 30), .int p1] : List Value).toArray below meth c s.heap [] 0 0 (MQ below (vp_Si (fun r' => r' = r)) ([.ref (a 30), .int p1] : List Value).toArray s 0 0 (fun _ => False)) (F0 m 4 ls [])), ∀ (x3 : Int32) (y0 : Int32) (y1 : Int32), f_X8_loadOf_b35 k ms p1 k4 x3 y0 y1 = some r → ∀ (ls : Array Slot), lv_has ls 4 [(0, .ref (a 30)), (1, .int p1), (3, .int x3)] → W p l e ({ frames := 2, cells := 0, slots := 0, locals := 45 } : Room) s m ([.ref (a 30), .int p1] : List Value).toArray below meth c s.heap [] 0 0 (MQ below (vp_Si (fun r' => r' = r)) ([.ref (a 30), .int p1] : List Value).toArray s 0 0 (fun _ => False)) (F0 m 35 ls [.int y0, .int y1]) := by
    intro k4 hk4
    intro x3 y0 y1 h ls hl
    rw [f_X8_loadOf_b35] at h
    refine o_iadd hx hb dX8_loadOf_35 h (fun v4 h => ?_)
    refine lv_istore_n (lv' := [(2, .int v4), (0, .ref (a 30)), (1, .int p1), (3, .int x3)]) hx hb dX8_loadOf_36 rfl hl (by decide) rfl (fun ls hl => ?_)
    refine o_nm h (fun v5 ey h => ?_)
    refine lv_iinc (v := v5) (lv' := [(3, .int v5), (2, .int v4), (0, .ref (a 30)), (1, .int p1)]) hx hb dX8_loadOf_37 hl (k := 3) rfl (Eq.trans rfl ey) (by decide) rfl (fun ls hl => ?_)
    refine lv_goto (tgt := 4) hx hb dX8_loadOf_40 (by decide) ?_
    exact hk4 v4 v5 h ls (lv_sub hl [2, 3, 1, 0] rfl)
  have B4 : ∀ (n : Nat), ∀ (x2 : Int32) (x3 : Int32), f_X8_loadOf_b4 k ms p1 n x2 x3 = some r → ∀ (ls : Array Slot), lv_has ls 4 [(0, .ref (a 30)), (1, .int p1), (2, .int x2), (3, .int x3)] → W p l e ({ frames := 2, cells := 0, slots := 0, locals := 45 } : Room) s m ([.ref (a 30), .int p1] : List Value).toArray below meth c s.heap [] 0 0 (MQ below (vp_Si (fun r' => r' = r)) ([.ref (a 30), .int p1] : List Value).toArray s 0 0 (fun _ => False)) (F0 m 4 ls []) := by
    intro n
    induction n with
    | zero => intro x2 x3 h; exact absurd h (by rw [f_X8_loadOf_b4]; exact fun q => nomatch q)
    | succ n ih4 =>
      intro x2 x3 h ls hl
      rw [f_X8_loadOf_b4] at h
      refine lv_iload_n hx hb dX8_loadOf_4 rfl (lv_at hl 3 rfl) ?_
      refine lv_iconst (v := (5 : Int32)) hx hb dX8_loadOf_5 (by decide) ?_
      refine zc_ge (tgt := 43) hx hb dX8_loadOf_6 (by decide) h (fun h => ?_) (fun h => ?_)
      · refine lv_iload_n hx hb dX8_loadOf_43 rfl (lv_at hl 2 rfl) ?_
        exact zR_i hx hb hr hlocks dX8_loadOf_44 h
      · refine lv_iload_n hx hb dX8_loadOf_9 rfl (lv_at hl 2 rfl) ?_
        refine lv_aload_n hx hb dX8_loadOf_10 rfl (lv_at hl 0 rfl) ?_
        refine lv_iload_n hx hb dX8_loadOf_11 rfl (lv_at hl 1 rfl) ?_
        refine lv_iload_n hx hb dX8_loadOf_12 rfl (lv_at hl 3 rfl) ?_
        obtain ⟨v1, hc, h⟩ := zb1_s h
        refine zE_i (zrV (C := RX8) (As := [.int p1, .int x3]) (rest := [.int x2]) hx hb hml hown hts tw947 mv_X8_blockAt ⟨Nat.le_of_ble_eq_true rfl, Nat.le_of_ble_eq_true rfl⟩ rfl rfl (ct_X8_blockAt l D ct a ms ah hi kp sl sv pd ln so po wr to p1 x3 k v1 hc) (z_pv hK hP [0, 1, 2, 3, 4, 5, 6, 7, 8] rfl 0 rfl rfl) hl.1 rfl rfl (Nat.le_of_ble_eq_true rfl) dX8_loadOf_13 ⟨Nat.le_refl _, Nat.le_refl _⟩) ?_
        refine lv_bipush (v := (-6 : Int32)) hx hb dX8_loadOf_16 (by decide) ?_
        refine zc_ne (tgt := 25) hx hb dX8_loadOf_18 (by decide) h (fun h => ?_) (fun h => ?_)
        · refine lv_aload_n hx hb dX8_loadOf_25 rfl (lv_at hl 0 rfl) ?_
          refine lv_aload_n hx hb dX8_loadOf_26 rfl (lv_at hl 0 rfl) ?_
          refine lv_iload_n hx hb dX8_loadOf_27 rfl (lv_at hl 1 rfl) ?_
          refine lv_iload_n hx hb dX8_loadOf_28 rfl (lv_at hl 3 rfl) ?_
          obtain ⟨v2, hc, h⟩ := zb1_s h
          refine zE_i (zrV (C := RX8) (As := [.int p1, .int x3]) (rest := [.ref (a 30), .int x2]) hx hb hml hown hts tw947 mv_X8_blockAt ⟨Nat.le_of_ble_eq_true rfl, Nat.le_of_ble_eq_true rfl⟩ rfl rfl (ct_X8_blockAt l D ct a ms ah hi kp sl sv pd ln so po wr to p1 x3 k v2 hc) (z_pv hK hP [0, 1, 2, 3, 4, 5, 6, 7, 8] rfl 0 rfl rfl) hl.1 rfl rfl (Nat.le_of_ble_eq_true rfl) dX8_loadOf_29 ⟨Nat.le_refl _, Nat.le_refl _⟩) ?_
          obtain ⟨v3, hc, h⟩ := zb1_s h
          refine zE_i (zrV (C := RX8) (As := [.int v2]) (rest := [.int x2]) hx hb hml hown hts tw877 mv_X8_weight ⟨Nat.le_of_ble_eq_true rfl, Nat.le_of_ble_eq_true rfl⟩ rfl rfl (ct_X8_weight l D ct a ms ah hi kp sl sv pd ln so po wr to v2 k v3 hc) (z_pv hK hP [0, 1, 2, 3, 4, 5, 6, 7, 8] rfl 0 rfl rfl) hl.1 rfl rfl (Nat.le_of_ble_eq_true rfl) dX8_loadOf_32 ⟨Nat.le_refl _, Nat.le_refl _⟩) ?_
          exact B35 (f_X8_loadOf_b4 k ms p1 n) ih4 x3 v3 x2 h ls (lv_sub hl [0, 1, 3] rfl)
        · refine lv_iconst (v := (0 : Int32)) hx hb dX8_loadOf_21 (by decide) ?_
          refine lv_goto (tgt := 35) hx hb dX8_loadOf_22 (by decide) ?_
          exact B35 (f_X8_loadOf_b4 k ms p1 n) ih4 x3 (0 : Int32) x2 h ls (lv_sub hl [0, 1, 3] rfl)
  rw [f_X8_loadOf] at h
  refine lv_iconst (v := (0 : Int32)) hx hb dX8_loadOf_0 (by decide) ?_
  refine lv_istore_n (lv' := [(2, .int (0 : Int32)), (0, .ref (a 30)), (1, .int p1)]) hx hb dX8_loadOf_1 rfl hl (by decide) rfl (fun ls hl => ?_)
  refine lv_iconst (v := (0 : Int32)) hx hb dX8_loadOf_2 (by decide) ?_
  refine lv_istore_n (lv' := [(3, .int (0 : Int32)), (2, .int (0 : Int32)), (0, .ref (a 30)), (1, .int p1)]) hx hb dX8_loadOf_3 rfl hl (by decide) rfl (fun ls hl => ?_)
  exact B4 k (0 : Int32) (0 : Int32) h ls (lv_sub hl [2, 3, 1, 0] rfl)

def f_X8_loads (k : Nat) (ms : Nat → Int32) (p1 : Int32) (p2 : Int32) (p3 : Int32) : Option (Int32 × (Nat → Int32)) :=
  zb1 (f_X8_isBlock k ms p1) fun v1 =>
  if v1 = 0 then
    some ((-1 : Int32), ms)
  else
    zb1 (f_X8_isLorry k p2) fun v2 =>
    if v2 = 0 then
      some ((-1 : Int32), ms)
    else
      zb1 (f_X8_in k p3 (0 : Int32) (4 : Int32)) fun v3 =>
      if v3 = 0 then
        some ((-1 : Int32), ms)
      else
        zb1 (f_X8_isHere k ms p1) fun v4 =>
        if v4 = 0 then
          some ((-5 : Int32), ms)
        else
          zb1 (f_X8_blockAt k ms p2 p3) fun v5 =>
          if v5 = (-6 : Int32) then
            zb1 (f_X8_at k p1 (4 : Int32)) fun v6 =>
            zg (zin v6 324) (zl (upd ms v6.toNatClampNeg (2 : Int32)) fun ms7 =>
            zb1 (f_X8_at k p1 (8 : Int32)) fun v8 =>
            zl ((5 : Int32) * p2) fun v9 =>
            zl (v9 + p3) fun v10 =>
            zg (zin v8 324) (zl (upd ms7 v8.toNatClampNeg v10) fun ms11 =>
            zb1 (f_X8_loadOf k ms11 p2) fun v12 =>
            some (v12, ms11)))
          else
            some ((-5 : Int32), ms)
set_option maxRecDepth 100000 in
set_option maxHeartbeats 4000000 in
theorem ct_X8_loads (l : Launch) (D : va_G) (ct a : Nat → Nat) (ms : Nat → Int32) (ah : Nat → Int32) (hi : Nat → Int32) (kp : Int32) (sl : Nat → Int32) (sv : Nat → Int32) (pd : Nat → Int32) (ln : Int32) (so : Nat → Int32) (po : Int32) (wr : Int32) (to : Nat → Int32) (sz : Nat) (p1 : Int32) (p2 : Int32) (p3 : Int32) (k : Nat) (r : Int32) (ms' : Nat → Int32) (h : f_X8_loads k ms p1 p2 p3 = some (r, ms')) : Met l yX8_loads (Cond.code yX8_loads cX8_loads 4 (some .int) :: zT) ({ frames := 3, cells := 0, slots := 0, locals := 68 } : Room) (va_Pc [.ref (a 30), .int p1, .int p2, .int p3] (zPW D (zTys ct) (wX8 ct a ms ah hi kp sl sv pd ln so po wr to) sz)) (va_Qi (fun r' (_ : Unit) => r' = r) (zQW D (wX8 ct a ms ah hi kp sl sv pd ln so po wr to) sz (wX8 ct a ms' ah hi kp sl sv pd ln so po wr to)) (va_A (wX8 ct a ms ah hi kp sl sv pd ln so po wr to) sz)) 0 0 (va_A (wX8 ct a ms ah hi kp sl sv pd ln so po wr to) sz) := by
  refine zMet (cc := cX8_loads) (maxL := 4) (ret := (some .int)) (av := [.ref (a 30), .int p1, .int p2, .int p3]) (by decide) (Nat.le_of_ble_eq_true rfl) (fun p e s m below meth c ls hx hb hr hml hts hown hlocks hin hB hl => ?_)
  have hl : lv_has ls 4 [(0, .ref (a 30)), (1, .int p1), (2, .int p2), (3, .int p3)] := hl
  have hown : s.vm.findClass RX8 = some m.cls := hown
  obtain ⟨hsz, hP, hK, hD0⟩ := hB
  subst hsz
  have hD := hD0.self (sz := s.heap.size)
  obtain ⟨A, hAe⟩ : ∃ A, A = va_A (wX8 ct a ms ah hi kp sl sv pd ln so po wr to) s.heap.size := ⟨_, rfl⟩
  rw [← hAe] at hD
  have hA : ∀ q : Nat, s.heap.size ≤ q → A q := fun q h => by rw [hAe]; exact Or.inr h
  have hS : va_S A s.heap s.heap [] := va_S.rf
  rw [f_X8_loads] at h
  refine lv_aload_n hx hb dX8_loads_0 rfl (lv_at hl 0 rfl) ?_
  refine lv_iload_n hx hb dX8_loads_1 rfl (lv_at hl 1 rfl) ?_
  obtain ⟨v1, hc, h⟩ := zb1_s h
  refine zE_i (zrV (C := RX8) (As := [.int p1]) (rest := []) hx hb hml hown hts tw885 mv_X8_isBlock ⟨Nat.le_of_ble_eq_true rfl, Nat.le_of_ble_eq_true rfl⟩ rfl rfl (ct_X8_isBlock l D ct a ms ah hi kp sl sv pd ln so po wr to p1 k v1 hc) (z_pv hK hP [0, 1, 2, 3, 4, 5, 6, 7, 8] rfl 0 rfl rfl) hl.1 rfl rfl (Nat.le_of_ble_eq_true rfl) dX8_loads_2 ⟨Nat.le_refl _, Nat.le_refl _⟩) ?_
  refine zi_eq (tgt := 24) hx hb dX8_loads_5 (by decide) h (fun h => ?_) (fun h => ?_)
  · refine lv_iconst (v := (-1 : Int32)) hx hb dX8_loads_24 (by decide) ?_
    cases h
    exact zX_i hx hb hr hlocks hP hD hS hAe dX8_loads_25 rfl
  · refine lv_iload_n hx hb dX8_loads_8 rfl (lv_at hl 2 rfl) ?_
    obtain ⟨v2, hc, h⟩ := zb1_s h
    refine zE_i (zrS (As := [.int p2]) (rest := []) hx hb hml hown hts tw944 ms_X8_isLorry ⟨Nat.le_of_ble_eq_true rfl, Nat.le_of_ble_eq_true rfl⟩ rfl rfl (ct_X8_isLorry l p2 k v2 hc) z_p0 hl.1 rfl rfl (Nat.le_of_ble_eq_true rfl) dX8_loads_9 ⟨Nat.le_refl _, Nat.le_refl _⟩) ?_
    refine zi_eq (tgt := 24) hx hb dX8_loads_12 (by decide) h (fun h => ?_) (fun h => ?_)
    · refine lv_iconst (v := (-1 : Int32)) hx hb dX8_loads_24 (by decide) ?_
      cases h
      exact zX_i hx hb hr hlocks hP hD hS hAe dX8_loads_25 rfl
    · refine lv_iload_n hx hb dX8_loads_15 rfl (lv_at hl 3 rfl) ?_
      refine lv_iconst (v := (0 : Int32)) hx hb dX8_loads_16 (by decide) ?_
      refine lv_iconst (v := (4 : Int32)) hx hb dX8_loads_17 (by decide) ?_
      obtain ⟨v3, hc, h⟩ := zb1_s h
      refine zE_i (zrS (As := [.int p3, .int (0 : Int32), .int (4 : Int32)]) (rest := []) hx hb hml hown hts tw836 ms_X8_in ⟨Nat.le_of_ble_eq_true rfl, Nat.le_of_ble_eq_true rfl⟩ rfl rfl (ct_X8_in l p3 (0 : Int32) (4 : Int32) k v3 hc) z_p0 hl.1 rfl rfl (Nat.le_of_ble_eq_true rfl) dX8_loads_18 ⟨Nat.le_refl _, Nat.le_refl _⟩) ?_
      refine zi_ne (tgt := 26) hx hb dX8_loads_21 (by decide) h (fun h => ?_) (fun h => ?_)
      · refine lv_aload_n hx hb dX8_loads_26 rfl (lv_at hl 0 rfl) ?_
        refine lv_iload_n hx hb dX8_loads_27 rfl (lv_at hl 1 rfl) ?_
        obtain ⟨v4, hc, h⟩ := zb1_s h
        refine zE_i (zrV (C := RX8) (As := [.int p1]) (rest := []) hx hb hml hown hts tw893 mv_X8_isHere ⟨Nat.le_of_ble_eq_true rfl, Nat.le_of_ble_eq_true rfl⟩ rfl rfl (ct_X8_isHere l D ct a ms ah hi kp sl sv pd ln so po wr to p1 k v4 hc) (z_pv hK hP [0, 1, 2, 3, 4, 5, 6, 7, 8] rfl 0 rfl rfl) hl.1 rfl rfl (Nat.le_of_ble_eq_true rfl) dX8_loads_28 ⟨Nat.le_refl _, Nat.le_refl _⟩) ?_
        refine zi_eq (tgt := 45) hx hb dX8_loads_31 (by decide) h (fun h => ?_) (fun h => ?_)
        · refine lv_bipush (v := (-5 : Int32)) hx hb dX8_loads_45 (by decide) ?_
          cases h
          exact zX_i hx hb hr hlocks hP hD hS hAe dX8_loads_47 rfl
        · refine lv_aload_n hx hb dX8_loads_34 rfl (lv_at hl 0 rfl) ?_
          refine lv_iload_n hx hb dX8_loads_35 rfl (lv_at hl 2 rfl) ?_
          refine lv_iload_n hx hb dX8_loads_36 rfl (lv_at hl 3 rfl) ?_
          obtain ⟨v5, hc, h⟩ := zb1_s h
          refine zE_i (zrV (C := RX8) (As := [.int p2, .int p3]) (rest := []) hx hb hml hown hts tw947 mv_X8_blockAt ⟨Nat.le_of_ble_eq_true rfl, Nat.le_of_ble_eq_true rfl⟩ rfl rfl (ct_X8_blockAt l D ct a ms ah hi kp sl sv pd ln so po wr to p2 p3 k v5 hc) (z_pv hK hP [0, 1, 2, 3, 4, 5, 6, 7, 8] rfl 0 rfl rfl) hl.1 rfl rfl (Nat.le_of_ble_eq_true rfl) dX8_loads_37 ⟨Nat.le_refl _, Nat.le_refl _⟩) ?_
          refine lv_bipush (v := (-6 : Int32)) hx hb dX8_loads_40 (by decide) ?_
          refine zc_eq (tgt := 48) hx hb dX8_loads_42 (by decide) h (fun h => ?_) (fun h => ?_)
          · refine lv_aload_n hx hb dX8_loads_48 rfl (lv_at hl 0 rfl) ?_
            refine z_get (C := RX8) (T := TX8) (N := 12) (ci := 7) hx hb hts zin_X8 hown hK.1 hP 0 0 rfl rfl (by decide) tw795 rfl rfl dX8_loads_49 ?_
            refine lv_iload_n hx hb dX8_loads_52 rfl (lv_at hl 1 rfl) ?_
            refine lv_iconst (v := (4 : Int32)) hx hb dX8_loads_53 (by decide) ?_
            obtain ⟨v6, hc, h⟩ := zb1_s h
            refine zE_i (zrS (As := [.int p1, .int (4 : Int32)]) (rest := [.ref (a 31)]) hx hb hml hown hts tw874 ms_X8_at ⟨Nat.le_of_ble_eq_true rfl, Nat.le_of_ble_eq_true rfl⟩ rfl rfl (ct_X8_at l p1 (4 : Int32) k v6 hc) z_p0 hl.1 rfl rfl (Nat.le_of_ble_eq_true rfl) dX8_loads_54 ⟨Nat.le_refl _, Nat.le_refl _⟩) ?_
            refine lv_iconst (v := (2 : Int32)) hx hb dX8_loads_57 (by decide) ?_
            refine z_iast hx hb hK.1 hP hD hS 1 0 rfl rfl h dX8_loads_58 (fun ms7 H locs h hP hD hS => ?_)
            have hP : va_P D vwCl (wX8 ct a ms7 ah hi kp sl sv pd ln so po wr to) H := hP
            have hD : va_D A (wX8 ct a ms7 ah hi kp sl sv pd ln so po wr to) := hD
            refine lv_aload_n hx hb dX8_loads_59 rfl (lv_at hl 0 rfl) ?_
            refine z_get (C := RX8) (T := TX8) (N := 12) (ci := 7) hx hb hts zin_X8 hown hK.1 hP 0 0 rfl rfl (by decide) tw795 rfl rfl dX8_loads_60 ?_
            refine lv_iload_n hx hb dX8_loads_63 rfl (lv_at hl 1 rfl) ?_
            refine lv_bipush (v := (8 : Int32)) hx hb dX8_loads_64 (by decide) ?_
            obtain ⟨v8, hc, h⟩ := zb1_s h
            refine zE_i (zrS (As := [.int p1, .int (8 : Int32)]) (rest := [.ref (a 31)]) hx hb hml hown hts tw874 ms_X8_at ⟨Nat.le_of_ble_eq_true rfl, Nat.le_of_ble_eq_true rfl⟩ rfl rfl (ct_X8_at l p1 (8 : Int32) k v8 hc) z_p0 hl.1 rfl rfl (Nat.le_of_ble_eq_true rfl) dX8_loads_66 ⟨Nat.le_refl _, Nat.le_refl _⟩) ?_
            refine lv_iconst (v := (5 : Int32)) hx hb dX8_loads_69 (by decide) ?_
            refine lv_iload_n hx hb dX8_loads_70 rfl (lv_at hl 2 rfl) ?_
            refine o_imul hx hb dX8_loads_71 h (fun v9 h => ?_)
            refine lv_iload_n hx hb dX8_loads_72 rfl (lv_at hl 3 rfl) ?_
            refine o_iadd hx hb dX8_loads_73 h (fun v10 h => ?_)
            refine z_iast hx hb hK.1 hP hD hS 1 0 rfl rfl h dX8_loads_74 (fun ms11 H locs h hP hD hS => ?_)
            have hP : va_P D vwCl (wX8 ct a ms11 ah hi kp sl sv pd ln so po wr to) H := hP
            have hD : va_D A (wX8 ct a ms11 ah hi kp sl sv pd ln so po wr to) := hD
            refine lv_aload_n hx hb dX8_loads_75 rfl (lv_at hl 0 rfl) ?_
            refine lv_iload_n hx hb dX8_loads_76 rfl (lv_at hl 2 rfl) ?_
            obtain ⟨v12, hc, h⟩ := zb1_s h
            refine zE_i (zrV (C := RX8) (As := [.int p2]) (rest := []) hx hb hml hown hts tw951 mv_X8_loadOf ⟨Nat.le_of_ble_eq_true rfl, Nat.le_of_ble_eq_true rfl⟩ rfl rfl (ct_X8_loadOf l D ct a ms11 ah hi kp sl sv pd ln so po wr to p2 k v12 hc) (z_pv hK hP [0, 1, 2, 3, 4, 5, 6, 7, 8] rfl 0 rfl rfl) hl.1 rfl rfl (Nat.le_of_ble_eq_true rfl) dX8_loads_77 ⟨Nat.le_refl _, Nat.le_refl _⟩) ?_
            cases h
            exact zX_i hx hb hr hlocks hP hD hS hAe dX8_loads_80 rfl
          · refine lv_bipush (v := (-5 : Int32)) hx hb dX8_loads_45 (by decide) ?_
            cases h
            exact zX_i hx hb hr hlocks hP hD hS hAe dX8_loads_47 rfl
      · refine lv_iconst (v := (-1 : Int32)) hx hb dX8_loads_24 (by decide) ?_
        cases h
        exact zX_i hx hb hr hlocks hP hD hS hAe dX8_loads_25 rfl

def f_X8_wouldCrack (k : Nat) (ms : Nat → Int32) (p1 : Int32) : Option (Int32) :=
  zb1 (f_X8_isAt k ms p1 (0 : Int32)) fun v1 =>
  if v1 = 0 then
    some (0 : Int32)
  else
    zb1 (f_X8_at k p1 (5 : Int32)) fun v2 =>
    zg (zin v2 324) (zl (ms v2.toNatClampNeg) fun v3 =>
    if v3 ≤ 0 then
      some (0 : Int32)
    else
      zb1 (f_X8_at k p1 (6 : Int32)) fun v4 =>
      zg (zin v4 324) (zl (ms v4.toNatClampNeg) fun v5 =>
      if v5 = 0 then
        some (1 : Int32)
      else
        some (0 : Int32)))
set_option maxRecDepth 100000 in
set_option maxHeartbeats 4000000 in
theorem ct_X8_wouldCrack (l : Launch) (D : va_G) (ct a : Nat → Nat) (ms : Nat → Int32) (ah : Nat → Int32) (hi : Nat → Int32) (kp : Int32) (sl : Nat → Int32) (sv : Nat → Int32) (pd : Nat → Int32) (ln : Int32) (so : Nat → Int32) (po : Int32) (wr : Int32) (to : Nat → Int32) (p1 : Int32) (k : Nat) (r : Int32) (h : f_X8_wouldCrack k ms p1 = some r) : Met l yX8_wouldCrack (Cond.code yX8_wouldCrack cX8_wouldCrack 2 (some .boolean) :: zT) ({ frames := 2, cells := 0, slots := 0, locals := 43 } : Room) (va_Pc [.ref (a 30), .int p1] (zPR D (zTys ct) (wX8 ct a ms ah hi kp sl sv pd ln so po wr to))) (vp_Si (fun r' => r' = r)) 0 0 (fun _ => False) := by
  refine zMet (cc := cX8_wouldCrack) (maxL := 2) (ret := (some .boolean)) (av := [.ref (a 30), .int p1]) (by decide) (Nat.le_of_ble_eq_true rfl) (fun p e s m below meth c ls hx hb hr hml hts hown hlocks hin hB hl => ?_)
  have hl : lv_has ls 2 [(0, .ref (a 30)), (1, .int p1)] := hl
  have hown : s.vm.findClass RX8 = some m.cls := hown
  obtain ⟨hP, hK⟩ := hB
  rw [f_X8_wouldCrack] at h
  refine lv_aload_n hx hb dX8_wouldCrack_0 rfl (lv_at hl 0 rfl) ?_
  refine lv_iload_n hx hb dX8_wouldCrack_1 rfl (lv_at hl 1 rfl) ?_
  refine lv_iconst (v := (0 : Int32)) hx hb dX8_wouldCrack_2 (by decide) ?_
  obtain ⟨v1, hc, h⟩ := zb1_s h
  refine zE_i (zrV (C := RX8) (As := [.int p1, .int (0 : Int32)]) (rest := []) hx hb hml hown hts tw897 mv_X8_isAt ⟨Nat.le_of_ble_eq_true rfl, Nat.le_of_ble_eq_true rfl⟩ rfl rfl (ct_X8_isAt l D ct a ms ah hi kp sl sv pd ln so po wr to p1 (0 : Int32) k v1 hc) (z_pv hK hP [0, 1, 2, 3, 4, 5, 6, 7, 8] rfl 0 rfl rfl) hl.1 rfl rfl (Nat.le_of_ble_eq_true rfl) dX8_wouldCrack_3 ⟨Nat.le_refl _, Nat.le_refl _⟩) ?_
  refine zi_eq (tgt := 40) hx hb dX8_wouldCrack_6 (by decide) h (fun h => ?_) (fun h => ?_)
  · refine lv_iconst (v := (0 : Int32)) hx hb dX8_wouldCrack_40 (by decide) ?_
    exact zR_z hx hb hr hlocks dX8_wouldCrack_41 h
  · refine lv_aload_n hx hb dX8_wouldCrack_9 rfl (lv_at hl 0 rfl) ?_
    refine z_get (C := RX8) (T := TX8) (N := 12) (ci := 7) hx hb hts zin_X8 hown hK.1 hP 0 0 rfl rfl (by decide) tw795 rfl rfl dX8_wouldCrack_10 ?_
    refine lv_iload_n hx hb dX8_wouldCrack_13 rfl (lv_at hl 1 rfl) ?_
    refine lv_iconst (v := (5 : Int32)) hx hb dX8_wouldCrack_14 (by decide) ?_
    obtain ⟨v2, hc, h⟩ := zb1_s h
    refine zE_i (zrS (As := [.int p1, .int (5 : Int32)]) (rest := [.ref (a 31)]) hx hb hml hown hts tw874 ms_X8_at ⟨Nat.le_of_ble_eq_true rfl, Nat.le_of_ble_eq_true rfl⟩ rfl rfl (ct_X8_at l p1 (5 : Int32) k v2 hc) z_p0 hl.1 rfl rfl (Nat.le_of_ble_eq_true rfl) dX8_wouldCrack_15 ⟨Nat.le_refl _, Nat.le_refl _⟩) ?_
    refine y_iald hx hb hK hP 1 0 rfl rfl h dX8_wouldCrack_18 (fun v3 h => ?_)
    refine zi_le (tgt := 40) hx hb dX8_wouldCrack_19 (by decide) h (fun h => ?_) (fun h => ?_)
    · refine lv_iconst (v := (0 : Int32)) hx hb dX8_wouldCrack_40 (by decide) ?_
      exact zR_z hx hb hr hlocks dX8_wouldCrack_41 h
    · refine lv_aload_n hx hb dX8_wouldCrack_22 rfl (lv_at hl 0 rfl) ?_
      refine z_get (C := RX8) (T := TX8) (N := 12) (ci := 7) hx hb hts zin_X8 hown hK.1 hP 0 0 rfl rfl (by decide) tw795 rfl rfl dX8_wouldCrack_23 ?_
      refine lv_iload_n hx hb dX8_wouldCrack_26 rfl (lv_at hl 1 rfl) ?_
      refine lv_bipush (v := (6 : Int32)) hx hb dX8_wouldCrack_27 (by decide) ?_
      obtain ⟨v4, hc, h⟩ := zb1_s h
      refine zE_i (zrS (As := [.int p1, .int (6 : Int32)]) (rest := [.ref (a 31)]) hx hb hml hown hts tw874 ms_X8_at ⟨Nat.le_of_ble_eq_true rfl, Nat.le_of_ble_eq_true rfl⟩ rfl rfl (ct_X8_at l p1 (6 : Int32) k v4 hc) z_p0 hl.1 rfl rfl (Nat.le_of_ble_eq_true rfl) dX8_wouldCrack_29 ⟨Nat.le_refl _, Nat.le_refl _⟩) ?_
      refine y_iald hx hb hK hP 1 0 rfl rfl h dX8_wouldCrack_32 (fun v5 h => ?_)
      refine zi_ne (tgt := 40) hx hb dX8_wouldCrack_33 (by decide) h (fun h => ?_) (fun h => ?_)
      · refine lv_iconst (v := (0 : Int32)) hx hb dX8_wouldCrack_40 (by decide) ?_
        exact zR_z hx hb hr hlocks dX8_wouldCrack_41 h
      · refine lv_iconst (v := (1 : Int32)) hx hb dX8_wouldCrack_36 (by decide) ?_
        refine lv_goto (tgt := 41) hx hb dX8_wouldCrack_37 (by decide) ?_
        exact zR_z hx hb hr hlocks dX8_wouldCrack_41 h

def f_X8_nights_b182 (k : Nat) (p1 : Int32) (k55 : (Nat → Int32) → Int32 → Int32 → Option (Int32 × (Nat → Int32))) (ms_ : Nat → Int32) (x2 : Int32) (x3 : Int32) (y0 : Int32) (y1 : Int32) (y2 : Int32) : Option (Int32 × (Nat → Int32)) :=
  zl (y1 - y0) fun v19 =>
  zg (zin y2 324) (zl (upd ms_ y2.toNatClampNeg v19) fun ms20 =>
  zl (x3 + (1 : Int32)) fun v21 =>
  k55 ms20 x2 v21)
def f_X8_nights_b133 (k : Nat) (p1 : Int32) (k55 : (Nat → Int32) → Int32 → Int32 → Option (Int32 × (Nat → Int32))) (ms_ : Nat → Int32) (x3 : Int32) (y0 : Int32) (y1 : Int32) : Option (Int32 × (Nat → Int32)) :=
  zl (y1 + y0) fun v14 =>
  zb1 (f_X8_at k x3 (5 : Int32)) fun v15 =>
  zg (zin v15 324) (zl (ms_ v15.toNatClampNeg) fun v16 =>
  zb1 (f_X8_at k x3 (5 : Int32)) fun v17 =>
  zg (zin v17 324) (zl (ms_ v17.toNatClampNeg) fun v18 =>
  if v18 ≤ 0 then
    f_X8_nights_b182 k p1 (k55) ms_ v14 x3 (0 : Int32) v16 v15
  else
    zb1 (f_X8_isAt k ms_ x3 (3 : Int32)) fun v22 =>
    if v22 = 0 then
      zb1 (f_X8_isAt k ms_ x3 (4 : Int32)) fun v23 =>
      if v23 = 0 then
        f_X8_nights_b182 k p1 (k55) ms_ v14 x3 (1 : Int32) v16 v15
      else
        f_X8_nights_b182 k p1 (k55) ms_ v14 x3 (0 : Int32) v16 v15
    else
      f_X8_nights_b182 k p1 (k55) ms_ v14 x3 (0 : Int32) v16 v15))
def f_X8_nights_b121 (k : Nat) (p1 : Int32) (k55 : (Nat → Int32) → Int32 → Int32 → Option (Int32 × (Nat → Int32))) (ms_ : Nat → Int32) (x2 : Int32) (x3 : Int32) (x4 : Int32) (y0 : Int32) (y1 : Int32) : Option (Int32 × (Nat → Int32)) :=
  zg (zin y1 324) (zl (upd ms_ y1.toNatClampNeg y0) fun ms13 =>
  if x4 = 0 then
    f_X8_nights_b133 k p1 (k55) ms13 x3 (0 : Int32) x2
  else
    f_X8_nights_b133 k p1 (k55) ms13 x3 (1 : Int32) x2)
def f_X8_nights_b89 (k : Nat) (p1 : Int32) (k55 : (Nat → Int32) → Int32 → Int32 → Option (Int32 × (Nat → Int32))) (ms_ : Nat → Int32) (x2 : Int32) (x3 : Int32) (y0 : Int32) : Option (Int32 × (Nat → Int32)) :=
  zb1 (f_X8_at k x3 (6 : Int32)) fun v10 =>
  if y0 = 0 then
    zb1 (f_X8_at k x3 (6 : Int32)) fun v11 =>
    zg (zin v11 324) (zl (ms_ v11.toNatClampNeg) fun v12 =>
    f_X8_nights_b121 k p1 (k55) ms_ x2 x3 y0 v12 v10)
  else
    f_X8_nights_b121 k p1 (k55) ms_ x2 x3 y0 (1 : Int32) v10
def f_X8_nights_b55 (k : Nat) (p1 : Int32)  : Nat → (Nat → Int32) → Int32 → Int32 → Option (Int32 × (Nat → Int32))
  | 0, _, _, _ => none
  | n + 1, ms_, x2, x3 =>
    zl (ms_ 5) fun v5 =>
    if v5 ≤ x3 then
      zl (ms_ 4) fun v6 =>
      zl (v6 + (1 : Int32)) fun v7 =>
      zl (upd ms_ 4 v7) fun ms8 =>
      some (x2, ms8)
    else
      zl (ms_ 7) fun v9 =>
      if v9 = (1 : Int32) then
        zb1 (f_X8_wouldCrack k ms_ x3) fun v24 =>
        if v24 = 0 then
          f_X8_nights_b89 k p1 (f_X8_nights_b55 k p1 n) ms_ x2 x3 (0 : Int32)
        else
          f_X8_nights_b89 k p1 (f_X8_nights_b55 k p1 n) ms_ x2 x3 (1 : Int32)
      else
        f_X8_nights_b89 k p1 (f_X8_nights_b55 k p1 n) ms_ x2 x3 (0 : Int32)
def f_X8_nights_b50 (k : Nat) (p1 : Int32)  (ms_ : Nat → Int32) (y0 : Int32) (y1 : Int32) : Option (Int32 × (Nat → Int32)) :=
  zg (zin y1 324) (zl (upd ms_ y1.toNatClampNeg y0) fun ms4 =>
  f_X8_nights_b55 k p1 k ms4 (0 : Int32) (0 : Int32))
def f_X8_nights (k : Nat) (ms : Nat → Int32) (p1 : Int32) : Option (Int32 × (Nat → Int32)) :=
  zb1 (f_X8_in k p1 (-40 : Int32) (40 : Int32)) fun v1 =>
  if v1 = 0 then
    some ((-2 : Int32), ms)
  else
    zl (ms 4) fun v2 =>
    if v2 = (999 : Int32) then
      some ((-5 : Int32), ms)
    else
      zl (ms 2) fun v3 =>
      if v3 < p1 then
        f_X8_nights_b50 k p1 ms (0 : Int32) (7 : Int32)
      else
        f_X8_nights_b50 k p1 ms (1 : Int32) (7 : Int32)
set_option maxRecDepth 100000 in
set_option maxHeartbeats 4000000 in
theorem ct_X8_nights (l : Launch) (D : va_G) (ct a : Nat → Nat) (ms : Nat → Int32) (ah : Nat → Int32) (hi : Nat → Int32) (kp : Int32) (sl : Nat → Int32) (sv : Nat → Int32) (pd : Nat → Int32) (ln : Int32) (so : Nat → Int32) (po : Int32) (wr : Int32) (to : Nat → Int32) (sz : Nat) (p1 : Int32) (k : Nat) (r : Int32) (ms' : Nat → Int32) (h : f_X8_nights k ms p1 = some (r, ms')) : Met l yX8_nights (Cond.code yX8_nights cX8_nights 5 (some .int) :: zT) ({ frames := 3, cells := 0, slots := 0, locals := 64 } : Room) (va_Pc [.ref (a 30), .int p1] (zPW D (zTys ct) (wX8 ct a ms ah hi kp sl sv pd ln so po wr to) sz)) (va_Qi (fun r' (_ : Unit) => r' = r) (zQW D (wX8 ct a ms ah hi kp sl sv pd ln so po wr to) sz (wX8 ct a ms' ah hi kp sl sv pd ln so po wr to)) (va_A (wX8 ct a ms ah hi kp sl sv pd ln so po wr to) sz)) 0 0 (va_A (wX8 ct a ms ah hi kp sl sv pd ln so po wr to) sz) := by
  refine zMet (cc := cX8_nights) (maxL := 5) (ret := (some .int)) (av := [.ref (a 30), .int p1]) (by decide) (Nat.le_of_ble_eq_true rfl) (fun p e s m below meth c ls hx hb hr hml hts hown hlocks hin hB hl => ?_)
  have hl : lv_has ls 5 [(0, .ref (a 30)), (1, .int p1)] := hl
  have hown : s.vm.findClass RX8 = some m.cls := hown
  obtain ⟨hsz, hP, hK, hD0⟩ := hB
  subst hsz
  have hD := hD0.self (sz := s.heap.size)
  obtain ⟨A, hAe⟩ : ∃ A, A = va_A (wX8 ct a ms ah hi kp sl sv pd ln so po wr to) s.heap.size := ⟨_, rfl⟩
  rw [← hAe] at hD
  have hA : ∀ q : Nat, s.heap.size ≤ q → A q := fun q h => by rw [hAe]; exact Or.inr h
  have hS : va_S A s.heap s.heap [] := va_S.rf
  have B182 : ∀ (k55 : (Nat → Int32) → Int32 → Int32 → Option (Int32 × (Nat → Int32))) (hk55 : ∀ (ms_ : Nat → Int32) (x2 : Int32) (x3 : Int32), k55 ms_ x2 x3 = some (r, ms') → ∀ (H : Heap) (locs : List Loc), va_P D vwCl (wX8 ct a ms_ ah hi kp sl sv pd ln so po wr to) H → va_D A (wX8 ct a ms_ ah hi kp sl sv pd ln so po wr to) → va_S A s.heap H locs → ∀ (ls : Array Slot), lv_has ls 5 [(0, .ref (a 30)), (2, .int x2), (3, .int x3)] → W p l e ({ frames := 3, cells := 0, slots := 0, locals := 64 } : Room) s m ([.ref (a 30), .int p1] : List Value).toArray below meth c H locs 0 0 (MQ below (va_Qi (fun r' (_ : Unit) => r' = r) (zQW D (wX8 ct a ms ah hi kp sl sv pd ln so po wr to) s.heap.size (wX8 ct a ms' ah hi kp sl sv pd ln so po wr to)) (va_A (wX8 ct a ms ah hi kp sl sv pd ln so po wr to) s.heap.size)) ([.ref (a 30), .int p1] : List Value).toArray s 0 0 (va_A (wX8 ct a ms ah hi kp sl sv pd ln so po wr to) s.heap.size)) (F0 m 55 ls [])), ∀ (ms_ : Nat → Int32) (x2 : Int32) (x3 : Int32) (y0 : Int32) (y1 : Int32) (y2 : Int32), f_X8_nights_b182 k p1 k55 ms_ x2 x3 y0 y1 y2 = some (r, ms') → ∀ (H : Heap) (locs : List Loc), va_P D vwCl (wX8 ct a ms_ ah hi kp sl sv pd ln so po wr to) H → va_D A (wX8 ct a ms_ ah hi kp sl sv pd ln so po wr to) → va_S A s.heap H locs → ∀ (ls : Array Slot), lv_has ls 5 [(0, .ref (a 30)), (2, .int x2), (3, .int x3)] → W p l e ({ frames := 3, cells := 0, slots := 0, locals := 64 } : Room) s m ([.ref (a 30), .int p1] : List Value).toArray below meth c H locs 0 0 (MQ below (va_Qi (fun r' (_ : Unit) => r' = r) (zQW D (wX8 ct a ms ah hi kp sl sv pd ln so po wr to) s.heap.size (wX8 ct a ms' ah hi kp sl sv pd ln so po wr to)) (va_A (wX8 ct a ms ah hi kp sl sv pd ln so po wr to) s.heap.size)) ([.ref (a 30), .int p1] : List Value).toArray s 0 0 (va_A (wX8 ct a ms ah hi kp sl sv pd ln so po wr to) s.heap.size)) (F0 m 182 ls [.int y0, .int y1, .int y2, .ref (a 31)]) := by
    intro k55 hk55
    intro ms_ x2 x3 y0 y1 y2 h H locs hP hD hS ls hl
    rw [f_X8_nights_b182] at h
    refine o_isub hx hb dX8_nights_182 h (fun v19 h => ?_)
    refine z_iast hx hb hK.1 hP hD hS 1 0 rfl rfl h dX8_nights_183 (fun ms20 H locs h hP hD hS => ?_)
    have hP : va_P D vwCl (wX8 ct a ms20 ah hi kp sl sv pd ln so po wr to) H := hP
    have hD : va_D A (wX8 ct a ms20 ah hi kp sl sv pd ln so po wr to) := hD
    refine o_nm h (fun v21 ey h => ?_)
    refine lv_iinc (v := v21) (lv' := [(3, .int v21), (0, .ref (a 30)), (2, .int x2)]) hx hb dX8_nights_184 hl (k := 2) rfl (Eq.trans rfl ey) (by decide) rfl (fun ls hl => ?_)
    refine lv_goto (tgt := 55) hx hb dX8_nights_187 (by decide) ?_
    exact hk55 ms20 x2 v21 h _ _ hP hD hS ls (lv_sub hl [1, 2, 0] rfl)
  have B133 : ∀ (k55 : (Nat → Int32) → Int32 → Int32 → Option (Int32 × (Nat → Int32))) (hk55 : ∀ (ms_ : Nat → Int32) (x2 : Int32) (x3 : Int32), k55 ms_ x2 x3 = some (r, ms') → ∀ (H : Heap) (locs : List Loc), va_P D vwCl (wX8 ct a ms_ ah hi kp sl sv pd ln so po wr to) H → va_D A (wX8 ct a ms_ ah hi kp sl sv pd ln so po wr to) → va_S A s.heap H locs → ∀ (ls : Array Slot), lv_has ls 5 [(0, .ref (a 30)), (2, .int x2), (3, .int x3)] → W p l e ({ frames := 3, cells := 0, slots := 0, locals := 64 } : Room) s m ([.ref (a 30), .int p1] : List Value).toArray below meth c H locs 0 0 (MQ below (va_Qi (fun r' (_ : Unit) => r' = r) (zQW D (wX8 ct a ms ah hi kp sl sv pd ln so po wr to) s.heap.size (wX8 ct a ms' ah hi kp sl sv pd ln so po wr to)) (va_A (wX8 ct a ms ah hi kp sl sv pd ln so po wr to) s.heap.size)) ([.ref (a 30), .int p1] : List Value).toArray s 0 0 (va_A (wX8 ct a ms ah hi kp sl sv pd ln so po wr to) s.heap.size)) (F0 m 55 ls [])), ∀ (ms_ : Nat → Int32) (x3 : Int32) (y0 : Int32) (y1 : Int32), f_X8_nights_b133 k p1 k55 ms_ x3 y0 y1 = some (r, ms') → ∀ (H : Heap) (locs : List Loc), va_P D vwCl (wX8 ct a ms_ ah hi kp sl sv pd ln so po wr to) H → va_D A (wX8 ct a ms_ ah hi kp sl sv pd ln so po wr to) → va_S A s.heap H locs → ∀ (ls : Array Slot), lv_has ls 5 [(0, .ref (a 30)), (3, .int x3)] → W p l e ({ frames := 3, cells := 0, slots := 0, locals := 64 } : Room) s m ([.ref (a 30), .int p1] : List Value).toArray below meth c H locs 0 0 (MQ below (va_Qi (fun r' (_ : Unit) => r' = r) (zQW D (wX8 ct a ms ah hi kp sl sv pd ln so po wr to) s.heap.size (wX8 ct a ms' ah hi kp sl sv pd ln so po wr to)) (va_A (wX8 ct a ms ah hi kp sl sv pd ln so po wr to) s.heap.size)) ([.ref (a 30), .int p1] : List Value).toArray s 0 0 (va_A (wX8 ct a ms ah hi kp sl sv pd ln so po wr to) s.heap.size)) (F0 m 133 ls [.int y0, .int y1]) := by
    intro k55 hk55
    intro ms_ x3 y0 y1 h H locs hP hD hS ls hl
    rw [f_X8_nights_b133] at h
    refine o_iadd hx hb dX8_nights_133 h (fun v14 h => ?_)
    refine lv_istore_n (lv' := [(2, .int v14), (0, .ref (a 30)), (3, .int x3)]) hx hb dX8_nights_134 rfl hl (by decide) rfl (fun ls hl => ?_)
    refine lv_aload_n hx hb dX8_nights_135 rfl (lv_at hl 1 rfl) ?_
    refine z_get (C := RX8) (T := TX8) (N := 12) (ci := 7) hx hb hts zin_X8 hown hK.1 hP 0 0 rfl rfl (by decide) tw795 rfl rfl dX8_nights_136 ?_
    refine lv_iload_n hx hb dX8_nights_139 rfl (lv_at hl 2 rfl) ?_
    refine lv_iconst (v := (5 : Int32)) hx hb dX8_nights_140 (by decide) ?_
    obtain ⟨v15, hc, h⟩ := zb1_s h
    refine zE_i (zrS (As := [.int x3, .int (5 : Int32)]) (rest := [.ref (a 31)]) hx hb hml hown hts tw874 ms_X8_at ⟨Nat.le_of_ble_eq_true rfl, Nat.le_of_ble_eq_true rfl⟩ rfl rfl (ct_X8_at l x3 (5 : Int32) k v15 hc) z_p0 hl.1 rfl rfl (Nat.le_of_ble_eq_true rfl) dX8_nights_141 ⟨Nat.le_refl _, Nat.le_refl _⟩) ?_
    refine lv_dup2_11 hx hb dX8_nights_144 rfl rfl ?_
    refine y_iald hx hb hK hP 1 0 rfl rfl h dX8_nights_145 (fun v16 h => ?_)
    refine lv_aload_n hx hb dX8_nights_146 rfl (lv_at hl 1 rfl) ?_
    refine z_get (C := RX8) (T := TX8) (N := 12) (ci := 7) hx hb hts zin_X8 hown hK.1 hP 0 0 rfl rfl (by decide) tw795 rfl rfl dX8_nights_147 ?_
    refine lv_iload_n hx hb dX8_nights_150 rfl (lv_at hl 2 rfl) ?_
    refine lv_iconst (v := (5 : Int32)) hx hb dX8_nights_151 (by decide) ?_
    obtain ⟨v17, hc, h⟩ := zb1_s h
    refine zE_i (zrS (As := [.int x3, .int (5 : Int32)]) (rest := [.ref (a 31), .int v16, .int v15, .ref (a 31)]) hx hb hml hown hts tw874 ms_X8_at ⟨Nat.le_of_ble_eq_true rfl, Nat.le_of_ble_eq_true rfl⟩ rfl rfl (ct_X8_at l x3 (5 : Int32) k v17 hc) z_p0 hl.1 rfl rfl (Nat.le_of_ble_eq_true rfl) dX8_nights_152 ⟨Nat.le_refl _, Nat.le_refl _⟩) ?_
    refine y_iald hx hb hK hP 1 0 rfl rfl h dX8_nights_155 (fun v18 h => ?_)
    refine zi_le (tgt := 181) hx hb dX8_nights_156 (by decide) h (fun h => ?_) (fun h => ?_)
    · refine lv_iconst (v := (0 : Int32)) hx hb dX8_nights_181 (by decide) ?_
      exact B182 (k55) hk55 ms_ v14 x3 (0 : Int32) v16 v15 h _ _ hP hD hS ls (lv_sub hl [1, 0, 2] rfl)
    · refine lv_aload_n hx hb dX8_nights_159 rfl (lv_at hl 1 rfl) ?_
      refine lv_iload_n hx hb dX8_nights_160 rfl (lv_at hl 2 rfl) ?_
      refine lv_iconst (v := (3 : Int32)) hx hb dX8_nights_161 (by decide) ?_
      obtain ⟨v22, hc, h⟩ := zb1_s h
      refine zE_i (zrV (C := RX8) (As := [.int x3, .int (3 : Int32)]) (rest := [.int v16, .int v15, .ref (a 31)]) hx hb hml hown hts tw897 mv_X8_isAt ⟨Nat.le_of_ble_eq_true rfl, Nat.le_of_ble_eq_true rfl⟩ rfl rfl (ct_X8_isAt l D ct a ms_ ah hi kp sl sv pd ln so po wr to x3 (3 : Int32) k v22 hc) (z_pv hK hP [0, 1, 2, 3, 4, 5, 6, 7, 8] rfl 0 rfl rfl) hl.1 rfl rfl (Nat.le_of_ble_eq_true rfl) dX8_nights_162 ⟨Nat.le_refl _, Nat.le_refl _⟩) ?_
      refine zi_ne (tgt := 181) hx hb dX8_nights_165 (by decide) h (fun h => ?_) (fun h => ?_)
      · refine lv_iconst (v := (0 : Int32)) hx hb dX8_nights_181 (by decide) ?_
        exact B182 (k55) hk55 ms_ v14 x3 (0 : Int32) v16 v15 h _ _ hP hD hS ls (lv_sub hl [1, 0, 2] rfl)
      · refine lv_aload_n hx hb dX8_nights_168 rfl (lv_at hl 1 rfl) ?_
        refine lv_iload_n hx hb dX8_nights_169 rfl (lv_at hl 2 rfl) ?_
        refine lv_iconst (v := (4 : Int32)) hx hb dX8_nights_170 (by decide) ?_
        obtain ⟨v23, hc, h⟩ := zb1_s h
        refine zE_i (zrV (C := RX8) (As := [.int x3, .int (4 : Int32)]) (rest := [.int v16, .int v15, .ref (a 31)]) hx hb hml hown hts tw897 mv_X8_isAt ⟨Nat.le_of_ble_eq_true rfl, Nat.le_of_ble_eq_true rfl⟩ rfl rfl (ct_X8_isAt l D ct a ms_ ah hi kp sl sv pd ln so po wr to x3 (4 : Int32) k v23 hc) (z_pv hK hP [0, 1, 2, 3, 4, 5, 6, 7, 8] rfl 0 rfl rfl) hl.1 rfl rfl (Nat.le_of_ble_eq_true rfl) dX8_nights_171 ⟨Nat.le_refl _, Nat.le_refl _⟩) ?_
        refine zi_ne (tgt := 181) hx hb dX8_nights_174 (by decide) h (fun h => ?_) (fun h => ?_)
        · refine lv_iconst (v := (0 : Int32)) hx hb dX8_nights_181 (by decide) ?_
          exact B182 (k55) hk55 ms_ v14 x3 (0 : Int32) v16 v15 h _ _ hP hD hS ls (lv_sub hl [1, 0, 2] rfl)
        · refine lv_iconst (v := (1 : Int32)) hx hb dX8_nights_177 (by decide) ?_
          refine lv_goto (tgt := 182) hx hb dX8_nights_178 (by decide) ?_
          exact B182 (k55) hk55 ms_ v14 x3 (1 : Int32) v16 v15 h _ _ hP hD hS ls (lv_sub hl [1, 0, 2] rfl)
  have B121 : ∀ (k55 : (Nat → Int32) → Int32 → Int32 → Option (Int32 × (Nat → Int32))) (hk55 : ∀ (ms_ : Nat → Int32) (x2 : Int32) (x3 : Int32), k55 ms_ x2 x3 = some (r, ms') → ∀ (H : Heap) (locs : List Loc), va_P D vwCl (wX8 ct a ms_ ah hi kp sl sv pd ln so po wr to) H → va_D A (wX8 ct a ms_ ah hi kp sl sv pd ln so po wr to) → va_S A s.heap H locs → ∀ (ls : Array Slot), lv_has ls 5 [(0, .ref (a 30)), (2, .int x2), (3, .int x3)] → W p l e ({ frames := 3, cells := 0, slots := 0, locals := 64 } : Room) s m ([.ref (a 30), .int p1] : List Value).toArray below meth c H locs 0 0 (MQ below (va_Qi (fun r' (_ : Unit) => r' = r) (zQW D (wX8 ct a ms ah hi kp sl sv pd ln so po wr to) s.heap.size (wX8 ct a ms' ah hi kp sl sv pd ln so po wr to)) (va_A (wX8 ct a ms ah hi kp sl sv pd ln so po wr to) s.heap.size)) ([.ref (a 30), .int p1] : List Value).toArray s 0 0 (va_A (wX8 ct a ms ah hi kp sl sv pd ln so po wr to) s.heap.size)) (F0 m 55 ls [])), ∀ (ms_ : Nat → Int32) (x2 : Int32) (x3 : Int32) (x4 : Int32) (y0 : Int32) (y1 : Int32), f_X8_nights_b121 k p1 k55 ms_ x2 x3 x4 y0 y1 = some (r, ms') → ∀ (H : Heap) (locs : List Loc), va_P D vwCl (wX8 ct a ms_ ah hi kp sl sv pd ln so po wr to) H → va_D A (wX8 ct a ms_ ah hi kp sl sv pd ln so po wr to) → va_S A s.heap H locs → ∀ (ls : Array Slot), lv_has ls 5 [(0, .ref (a 30)), (2, .int x2), (3, .int x3), (4, .int x4)] → W p l e ({ frames := 3, cells := 0, slots := 0, locals := 64 } : Room) s m ([.ref (a 30), .int p1] : List Value).toArray below meth c H locs 0 0 (MQ below (va_Qi (fun r' (_ : Unit) => r' = r) (zQW D (wX8 ct a ms ah hi kp sl sv pd ln so po wr to) s.heap.size (wX8 ct a ms' ah hi kp sl sv pd ln so po wr to)) (va_A (wX8 ct a ms ah hi kp sl sv pd ln so po wr to) s.heap.size)) ([.ref (a 30), .int p1] : List Value).toArray s 0 0 (va_A (wX8 ct a ms ah hi kp sl sv pd ln so po wr to) s.heap.size)) (F0 m 121 ls [.int y0, .int y1, .ref (a 31)]) := by
    intro k55 hk55
    intro ms_ x2 x3 x4 y0 y1 h H locs hP hD hS ls hl
    rw [f_X8_nights_b121] at h
    refine z_iast hx hb hK.1 hP hD hS 1 0 rfl rfl h dX8_nights_121 (fun ms13 H locs h hP hD hS => ?_)
    have hP : va_P D vwCl (wX8 ct a ms13 ah hi kp sl sv pd ln so po wr to) H := hP
    have hD : va_D A (wX8 ct a ms13 ah hi kp sl sv pd ln so po wr to) := hD
    refine lv_iload_n hx hb dX8_nights_122 rfl (lv_at hl 1 rfl) ?_
    refine lv_iload hx hb dX8_nights_123 (lv_at hl 3 rfl) ?_
    refine zi_eq (tgt := 132) hx hb dX8_nights_125 (by decide) h (fun h => ?_) (fun h => ?_)
    · refine lv_iconst (v := (0 : Int32)) hx hb dX8_nights_132 (by decide) ?_
      exact B133 (k55) hk55 ms13 x3 (0 : Int32) x2 h _ _ hP hD hS ls (lv_sub hl [0, 2] rfl)
    · refine lv_iconst (v := (1 : Int32)) hx hb dX8_nights_128 (by decide) ?_
      refine lv_goto (tgt := 133) hx hb dX8_nights_129 (by decide) ?_
      exact B133 (k55) hk55 ms13 x3 (1 : Int32) x2 h _ _ hP hD hS ls (lv_sub hl [0, 2] rfl)
  have B89 : ∀ (k55 : (Nat → Int32) → Int32 → Int32 → Option (Int32 × (Nat → Int32))) (hk55 : ∀ (ms_ : Nat → Int32) (x2 : Int32) (x3 : Int32), k55 ms_ x2 x3 = some (r, ms') → ∀ (H : Heap) (locs : List Loc), va_P D vwCl (wX8 ct a ms_ ah hi kp sl sv pd ln so po wr to) H → va_D A (wX8 ct a ms_ ah hi kp sl sv pd ln so po wr to) → va_S A s.heap H locs → ∀ (ls : Array Slot), lv_has ls 5 [(0, .ref (a 30)), (2, .int x2), (3, .int x3)] → W p l e ({ frames := 3, cells := 0, slots := 0, locals := 64 } : Room) s m ([.ref (a 30), .int p1] : List Value).toArray below meth c H locs 0 0 (MQ below (va_Qi (fun r' (_ : Unit) => r' = r) (zQW D (wX8 ct a ms ah hi kp sl sv pd ln so po wr to) s.heap.size (wX8 ct a ms' ah hi kp sl sv pd ln so po wr to)) (va_A (wX8 ct a ms ah hi kp sl sv pd ln so po wr to) s.heap.size)) ([.ref (a 30), .int p1] : List Value).toArray s 0 0 (va_A (wX8 ct a ms ah hi kp sl sv pd ln so po wr to) s.heap.size)) (F0 m 55 ls [])), ∀ (ms_ : Nat → Int32) (x2 : Int32) (x3 : Int32) (y0 : Int32), f_X8_nights_b89 k p1 k55 ms_ x2 x3 y0 = some (r, ms') → ∀ (H : Heap) (locs : List Loc), va_P D vwCl (wX8 ct a ms_ ah hi kp sl sv pd ln so po wr to) H → va_D A (wX8 ct a ms_ ah hi kp sl sv pd ln so po wr to) → va_S A s.heap H locs → ∀ (ls : Array Slot), lv_has ls 5 [(0, .ref (a 30)), (2, .int x2), (3, .int x3)] → W p l e ({ frames := 3, cells := 0, slots := 0, locals := 64 } : Room) s m ([.ref (a 30), .int p1] : List Value).toArray below meth c H locs 0 0 (MQ below (va_Qi (fun r' (_ : Unit) => r' = r) (zQW D (wX8 ct a ms ah hi kp sl sv pd ln so po wr to) s.heap.size (wX8 ct a ms' ah hi kp sl sv pd ln so po wr to)) (va_A (wX8 ct a ms ah hi kp sl sv pd ln so po wr to) s.heap.size)) ([.ref (a 30), .int p1] : List Value).toArray s 0 0 (va_A (wX8 ct a ms ah hi kp sl sv pd ln so po wr to) s.heap.size)) (F0 m 89 ls [.int y0]) := by
    intro k55 hk55
    intro ms_ x2 x3 y0 h H locs hP hD hS ls hl
    rw [f_X8_nights_b89] at h
    refine lv_istore (lv' := [(4, .int y0), (0, .ref (a 30)), (2, .int x2), (3, .int x3)]) hx hb dX8_nights_89 hl (by decide) rfl (fun ls hl => ?_)
    refine lv_aload_n hx hb dX8_nights_91 rfl (lv_at hl 1 rfl) ?_
    refine z_get (C := RX8) (T := TX8) (N := 12) (ci := 7) hx hb hts zin_X8 hown hK.1 hP 0 0 rfl rfl (by decide) tw795 rfl rfl dX8_nights_92 ?_
    refine lv_iload_n hx hb dX8_nights_95 rfl (lv_at hl 3 rfl) ?_
    refine lv_bipush (v := (6 : Int32)) hx hb dX8_nights_96 (by decide) ?_
    obtain ⟨v10, hc, h⟩ := zb1_s h
    refine zE_i (zrS (As := [.int x3, .int (6 : Int32)]) (rest := [.ref (a 31)]) hx hb hml hown hts tw874 ms_X8_at ⟨Nat.le_of_ble_eq_true rfl, Nat.le_of_ble_eq_true rfl⟩ rfl rfl (ct_X8_at l x3 (6 : Int32) k v10 hc) z_p0 hl.1 rfl rfl (Nat.le_of_ble_eq_true rfl) dX8_nights_98 ⟨Nat.le_refl _, Nat.le_refl _⟩) ?_
    refine lv_iload hx hb dX8_nights_101 (lv_at hl 0 rfl) ?_
    refine zi_eq (tgt := 110) hx hb dX8_nights_103 (by decide) h (fun h => ?_) (fun h => ?_)
    · refine lv_aload_n hx hb dX8_nights_110 rfl (lv_at hl 1 rfl) ?_
      refine z_get (C := RX8) (T := TX8) (N := 12) (ci := 7) hx hb hts zin_X8 hown hK.1 hP 0 0 rfl rfl (by decide) tw795 rfl rfl dX8_nights_111 ?_
      refine lv_iload_n hx hb dX8_nights_114 rfl (lv_at hl 3 rfl) ?_
      refine lv_bipush (v := (6 : Int32)) hx hb dX8_nights_115 (by decide) ?_
      obtain ⟨v11, hc, h⟩ := zb1_s h
      refine zE_i (zrS (As := [.int x3, .int (6 : Int32)]) (rest := [.ref (a 31), .int v10, .ref (a 31)]) hx hb hml hown hts tw874 ms_X8_at ⟨Nat.le_of_ble_eq_true rfl, Nat.le_of_ble_eq_true rfl⟩ rfl rfl (ct_X8_at l x3 (6 : Int32) k v11 hc) z_p0 hl.1 rfl rfl (Nat.le_of_ble_eq_true rfl) dX8_nights_117 ⟨Nat.le_refl _, Nat.le_refl _⟩) ?_
      refine y_iald hx hb hK hP 1 0 rfl rfl h dX8_nights_120 (fun v12 h => ?_)
      exact B121 (k55) hk55 ms_ x2 x3 y0 v12 v10 h _ _ hP hD hS ls (lv_sub hl [1, 2, 3, 0] rfl)
    · refine lv_iconst (v := (1 : Int32)) hx hb dX8_nights_106 (by decide) ?_
      refine lv_goto (tgt := 121) hx hb dX8_nights_107 (by decide) ?_
      exact B121 (k55) hk55 ms_ x2 x3 y0 (1 : Int32) v10 h _ _ hP hD hS ls (lv_sub hl [1, 2, 3, 0] rfl)
  have B55 : ∀ (n : Nat), ∀ (ms_ : Nat → Int32) (x2 : Int32) (x3 : Int32), f_X8_nights_b55 k p1 n ms_ x2 x3 = some (r, ms') → ∀ (H : Heap) (locs : List Loc), va_P D vwCl (wX8 ct a ms_ ah hi kp sl sv pd ln so po wr to) H → va_D A (wX8 ct a ms_ ah hi kp sl sv pd ln so po wr to) → va_S A s.heap H locs → ∀ (ls : Array Slot), lv_has ls 5 [(0, .ref (a 30)), (2, .int x2), (3, .int x3)] → W p l e ({ frames := 3, cells := 0, slots := 0, locals := 64 } : Room) s m ([.ref (a 30), .int p1] : List Value).toArray below meth c H locs 0 0 (MQ below (va_Qi (fun r' (_ : Unit) => r' = r) (zQW D (wX8 ct a ms ah hi kp sl sv pd ln so po wr to) s.heap.size (wX8 ct a ms' ah hi kp sl sv pd ln so po wr to)) (va_A (wX8 ct a ms ah hi kp sl sv pd ln so po wr to) s.heap.size)) ([.ref (a 30), .int p1] : List Value).toArray s 0 0 (va_A (wX8 ct a ms ah hi kp sl sv pd ln so po wr to) s.heap.size)) (F0 m 55 ls []) := by
    intro n
    induction n with
    | zero => intro ms_ x2 x3 h; exact absurd h (by rw [f_X8_nights_b55]; exact fun q => nomatch q)
    | succ n ih55 =>
      intro ms_ x2 x3 h H locs hP hD hS ls hl
      rw [f_X8_nights_b55] at h
      refine lv_iload_n hx hb dX8_nights_55 rfl (lv_at hl 2 rfl) ?_
      refine lv_aload_n hx hb dX8_nights_56 rfl (lv_at hl 0 rfl) ?_
      refine z_get (C := RX8) (T := TX8) (N := 12) (ci := 7) hx hb hts zin_X8 hown hK.1 hP 0 0 rfl rfl (by decide) tw795 rfl rfl dX8_nights_57 ?_
      refine lv_iconst (v := (5 : Int32)) hx hb dX8_nights_60 (by decide) ?_
      refine y_ialdc hx hb hK hP 1 0 5 rfl rfl (by decide) (by decide) h dX8_nights_61 (fun v5 h => ?_)
      refine zc_ge (tgt := 190) hx hb dX8_nights_62 (by decide) h (fun h => ?_) (fun h => ?_)
      · refine lv_aload_n hx hb dX8_nights_190 rfl (lv_at hl 0 rfl) ?_
        refine z_get (C := RX8) (T := TX8) (N := 12) (ci := 7) hx hb hts zin_X8 hown hK.1 hP 0 0 rfl rfl (by decide) tw795 rfl rfl dX8_nights_191 ?_
        refine lv_iconst (v := (4 : Int32)) hx hb dX8_nights_194 (by decide) ?_
        refine lv_dup2_11 hx hb dX8_nights_195 rfl rfl ?_
        refine y_ialdc hx hb hK hP 1 0 4 rfl rfl (by decide) (by decide) h dX8_nights_196 (fun v6 h => ?_)
        refine lv_iconst (v := (1 : Int32)) hx hb dX8_nights_197 (by decide) ?_
        refine o_iadd hx hb dX8_nights_198 h (fun v7 h => ?_)
        refine z_iastc hx hb hK.1 hP hD hS 1 0 4 rfl rfl (by decide) (by decide) h dX8_nights_199 (fun ms8 H locs h hP hD hS => ?_)
        have hP : va_P D vwCl (wX8 ct a ms8 ah hi kp sl sv pd ln so po wr to) H := hP
        have hD : va_D A (wX8 ct a ms8 ah hi kp sl sv pd ln so po wr to) := hD
        refine lv_iload_n hx hb dX8_nights_200 rfl (lv_at hl 1 rfl) ?_
        cases h
        exact zX_i hx hb hr hlocks hP hD hS hAe dX8_nights_201 rfl
      · refine lv_aload_n hx hb dX8_nights_65 rfl (lv_at hl 0 rfl) ?_
        refine z_get (C := RX8) (T := TX8) (N := 12) (ci := 7) hx hb hts zin_X8 hown hK.1 hP 0 0 rfl rfl (by decide) tw795 rfl rfl dX8_nights_66 ?_
        refine lv_bipush (v := (7 : Int32)) hx hb dX8_nights_69 (by decide) ?_
        refine y_ialdc hx hb hK hP 1 0 7 rfl rfl (by decide) (by decide) h dX8_nights_71 (fun v9 h => ?_)
        refine lv_iconst (v := (1 : Int32)) hx hb dX8_nights_72 (by decide) ?_
        refine zc_ne (tgt := 88) hx hb dX8_nights_73 (by decide) h (fun h => ?_) (fun h => ?_)
        · refine lv_iconst (v := (0 : Int32)) hx hb dX8_nights_88 (by decide) ?_
          exact B89 (f_X8_nights_b55 k p1 n) ih55 ms_ x2 x3 (0 : Int32) h _ _ hP hD hS ls (lv_sub hl [0, 1, 2] rfl)
        · refine lv_aload_n hx hb dX8_nights_76 rfl (lv_at hl 0 rfl) ?_
          refine lv_iload_n hx hb dX8_nights_77 rfl (lv_at hl 2 rfl) ?_
          obtain ⟨v24, hc, h⟩ := zb1_s h
          refine zE_i (zrV (C := RX8) (As := [.int x3]) (rest := []) hx hb hml hown hts tw959 mv_X8_wouldCrack ⟨Nat.le_of_ble_eq_true rfl, Nat.le_of_ble_eq_true rfl⟩ rfl rfl (ct_X8_wouldCrack l D ct a ms_ ah hi kp sl sv pd ln so po wr to x3 k v24 hc) (z_pv hK hP [0, 1, 2, 3, 4, 5, 6, 7, 8] rfl 0 rfl rfl) hl.1 rfl rfl (Nat.le_of_ble_eq_true rfl) dX8_nights_78 ⟨Nat.le_refl _, Nat.le_refl _⟩) ?_
          refine zi_eq (tgt := 88) hx hb dX8_nights_81 (by decide) h (fun h => ?_) (fun h => ?_)
          · refine lv_iconst (v := (0 : Int32)) hx hb dX8_nights_88 (by decide) ?_
            exact B89 (f_X8_nights_b55 k p1 n) ih55 ms_ x2 x3 (0 : Int32) h _ _ hP hD hS ls (lv_sub hl [0, 1, 2] rfl)
          · refine lv_iconst (v := (1 : Int32)) hx hb dX8_nights_84 (by decide) ?_
            refine lv_goto (tgt := 89) hx hb dX8_nights_85 (by decide) ?_
            exact B89 (f_X8_nights_b55 k p1 n) ih55 ms_ x2 x3 (1 : Int32) h _ _ hP hD hS ls (lv_sub hl [0, 1, 2] rfl)
  have B50 : ∀ (ms_ : Nat → Int32) (y0 : Int32) (y1 : Int32), f_X8_nights_b50 k p1 ms_ y0 y1 = some (r, ms') → ∀ (H : Heap) (locs : List Loc), va_P D vwCl (wX8 ct a ms_ ah hi kp sl sv pd ln so po wr to) H → va_D A (wX8 ct a ms_ ah hi kp sl sv pd ln so po wr to) → va_S A s.heap H locs → ∀ (ls : Array Slot), lv_has ls 5 [(0, .ref (a 30))] → W p l e ({ frames := 3, cells := 0, slots := 0, locals := 64 } : Room) s m ([.ref (a 30), .int p1] : List Value).toArray below meth c H locs 0 0 (MQ below (va_Qi (fun r' (_ : Unit) => r' = r) (zQW D (wX8 ct a ms ah hi kp sl sv pd ln so po wr to) s.heap.size (wX8 ct a ms' ah hi kp sl sv pd ln so po wr to)) (va_A (wX8 ct a ms ah hi kp sl sv pd ln so po wr to) s.heap.size)) ([.ref (a 30), .int p1] : List Value).toArray s 0 0 (va_A (wX8 ct a ms ah hi kp sl sv pd ln so po wr to) s.heap.size)) (F0 m 50 ls [.int y0, .int y1, .ref (a 31)]) := by
    intro ms_ y0 y1 h H locs hP hD hS ls hl
    rw [f_X8_nights_b50] at h
    refine z_iast hx hb hK.1 hP hD hS 1 0 rfl rfl h dX8_nights_50 (fun ms4 H locs h hP hD hS => ?_)
    have hP : va_P D vwCl (wX8 ct a ms4 ah hi kp sl sv pd ln so po wr to) H := hP
    have hD : va_D A (wX8 ct a ms4 ah hi kp sl sv pd ln so po wr to) := hD
    refine lv_iconst (v := (0 : Int32)) hx hb dX8_nights_51 (by decide) ?_
    refine lv_istore_n (lv' := [(2, .int (0 : Int32)), (0, .ref (a 30))]) hx hb dX8_nights_52 rfl hl (by decide) rfl (fun ls hl => ?_)
    refine lv_iconst (v := (0 : Int32)) hx hb dX8_nights_53 (by decide) ?_
    refine lv_istore_n (lv' := [(3, .int (0 : Int32)), (2, .int (0 : Int32)), (0, .ref (a 30))]) hx hb dX8_nights_54 rfl hl (by decide) rfl (fun ls hl => ?_)
    exact B55 k ms4 (0 : Int32) (0 : Int32) h _ _ hP hD hS ls (lv_sub hl [2, 1, 0] rfl)
  rw [f_X8_nights] at h
  refine lv_iload_n hx hb dX8_nights_0 rfl (lv_at hl 1 rfl) ?_
  refine lv_bipush (v := (-40 : Int32)) hx hb dX8_nights_1 (by decide) ?_
  refine lv_bipush (v := (40 : Int32)) hx hb dX8_nights_3 (by decide) ?_
  obtain ⟨v1, hc, h⟩ := zb1_s h
  refine zE_i (zrS (As := [.int p1, .int (-40 : Int32), .int (40 : Int32)]) (rest := []) hx hb hml hown hts tw836 ms_X8_in ⟨Nat.le_of_ble_eq_true rfl, Nat.le_of_ble_eq_true rfl⟩ rfl rfl (ct_X8_in l p1 (-40 : Int32) (40 : Int32) k v1 hc) z_p0 hl.1 rfl rfl (Nat.le_of_ble_eq_true rfl) dX8_nights_5 ⟨Nat.le_refl _, Nat.le_refl _⟩) ?_
  refine zi_ne (tgt := 14) hx hb dX8_nights_8 (by decide) h (fun h => ?_) (fun h => ?_)
  · refine lv_aload_n hx hb dX8_nights_14 rfl (lv_at hl 0 rfl) ?_
    refine z_get (C := RX8) (T := TX8) (N := 12) (ci := 7) hx hb hts zin_X8 hown hK.1 hP 0 0 rfl rfl (by decide) tw795 rfl rfl dX8_nights_15 ?_
    refine lv_iconst (v := (4 : Int32)) hx hb dX8_nights_18 (by decide) ?_
    refine y_ialdc hx hb hK hP 1 0 4 rfl rfl (by decide) (by decide) h dX8_nights_19 (fun v2 h => ?_)
    refine lv_sipush (v := (999 : Int32)) hx hb dX8_nights_20 (by decide) ?_
    refine zc_ne (tgt := 29) hx hb dX8_nights_23 (by decide) h (fun h => ?_) (fun h => ?_)
    · refine lv_aload_n hx hb dX8_nights_29 rfl (lv_at hl 0 rfl) ?_
      refine z_get (C := RX8) (T := TX8) (N := 12) (ci := 7) hx hb hts zin_X8 hown hK.1 hP 0 0 rfl rfl (by decide) tw795 rfl rfl dX8_nights_30 ?_
      refine lv_bipush (v := (7 : Int32)) hx hb dX8_nights_33 (by decide) ?_
      refine lv_iload_n hx hb dX8_nights_35 rfl (lv_at hl 1 rfl) ?_
      refine lv_aload_n hx hb dX8_nights_36 rfl (lv_at hl 0 rfl) ?_
      refine z_get (C := RX8) (T := TX8) (N := 12) (ci := 7) hx hb hts zin_X8 hown hK.1 hP 0 0 rfl rfl (by decide) tw795 rfl rfl dX8_nights_37 ?_
      refine lv_iconst (v := (2 : Int32)) hx hb dX8_nights_40 (by decide) ?_
      refine y_ialdc hx hb hK hP 1 0 2 rfl rfl (by decide) (by decide) h dX8_nights_41 (fun v3 h => ?_)
      refine zc_gt (tgt := 49) hx hb dX8_nights_42 (by decide) h (fun h => ?_) (fun h => ?_)
      · refine lv_iconst (v := (0 : Int32)) hx hb dX8_nights_49 (by decide) ?_
        exact B50 ms (0 : Int32) (7 : Int32) h _ _ hP hD hS ls (lv_sub hl [0] rfl)
      · refine lv_iconst (v := (1 : Int32)) hx hb dX8_nights_45 (by decide) ?_
        refine lv_goto (tgt := 50) hx hb dX8_nights_46 (by decide) ?_
        exact B50 ms (1 : Int32) (7 : Int32) h _ _ hP hD hS ls (lv_sub hl [0] rfl)
    · refine lv_bipush (v := (-5 : Int32)) hx hb dX8_nights_26 (by decide) ?_
      cases h
      exact zX_i hx hb hr hlocks hP hD hS hAe dX8_nights_28 rfl
  · refine lv_bipush (v := (-2 : Int32)) hx hb dX8_nights_11 (by decide) ?_
    cases h
    exact zX_i hx hb hr hlocks hP hD hS hAe dX8_nights_13 rfl

def f_X8_blocksOn_b33 (k : Nat) (ms : Nat → Int32) (p1 : Int32) (k4 : Int32 → Int32 → Option (Int32)) (x3 : Int32) (y0 : Int32) (y1 : Int32) : Option (Int32) :=
  zl (y1 ||| y0) fun v4 =>
  zl (x3 + (1 : Int32)) fun v5 =>
  k4 v4 v5
def f_X8_blocksOn_b4 (k : Nat) (ms : Nat → Int32) (p1 : Int32)  : Nat → Int32 → Int32 → Option (Int32)
  | 0, _, _ => none
  | n + 1, x2, x3 =>
    if (5 : Int32) ≤ x3 then
      some x2
    else
      zb1 (f_X8_blockAt k ms p1 x3) fun v1 =>
      if v1 = (-6 : Int32) then
        f_X8_blocksOn_b33 k ms p1 (f_X8_blocksOn_b4 k ms p1 n) x3 (0 : Int32) x2
      else
        zb1 (f_X8_blockAt k ms p1 x3) fun v2 =>
        zl ((1 : Int32) <<< (v2 &&& 31)) fun v3 =>
        f_X8_blocksOn_b33 k ms p1 (f_X8_blocksOn_b4 k ms p1 n) x3 v3 x2
def f_X8_blocksOn (k : Nat) (ms : Nat → Int32) (p1 : Int32) : Option (Int32) :=
  f_X8_blocksOn_b4 k ms p1 k (0 : Int32) (0 : Int32)
set_option maxRecDepth 100000 in
set_option maxHeartbeats 4000000 in
theorem ct_X8_blocksOn (l : Launch) (D : va_G) (ct a : Nat → Nat) (ms : Nat → Int32) (ah : Nat → Int32) (hi : Nat → Int32) (kp : Int32) (sl : Nat → Int32) (sv : Nat → Int32) (pd : Nat → Int32) (ln : Int32) (so : Nat → Int32) (po : Int32) (wr : Int32) (to : Nat → Int32) (p1 : Int32) (k : Nat) (r : Int32) (h : f_X8_blocksOn k ms p1 = some r) : Met l yX8_blocksOn (Cond.code yX8_blocksOn cX8_blocksOn 4 (some .int) :: zT) ({ frames := 2, cells := 0, slots := 0, locals := 45 } : Room) (va_Pc [.ref (a 30), .int p1] (zPR D (zTys ct) (wX8 ct a ms ah hi kp sl sv pd ln so po wr to))) (vp_Si (fun r' => r' = r)) 0 0 (fun _ => False) := by
  refine zMet (cc := cX8_blocksOn) (maxL := 4) (ret := (some .int)) (av := [.ref (a 30), .int p1]) (by decide) (Nat.le_of_ble_eq_true rfl) (fun p e s m below meth c ls hx hb hr hml hts hown hlocks hin hB hl => ?_)
  have hl : lv_has ls 4 [(0, .ref (a 30)), (1, .int p1)] := hl
  have hown : s.vm.findClass RX8 = some m.cls := hown
  obtain ⟨hP, hK⟩ := hB
  have B33 : ∀ (k4 : Int32 → Int32 → Option (Int32)) (hk4 : ∀ (x2 : Int32) (x3 : Int32), k4 x2 x3 = some r → ∀ (ls : Array Slot), lv_has ls 4 [(0, .ref (a 30)), (1, .int p1), (2, .int x2), (3, .int x3)] → W p l e ({ frames := 2, cells := 0, slots := 0, locals := 45 } : Room) s m ([.ref (a 30), .int p1] : List Value).toArray below meth c s.heap [] 0 0 (MQ below (vp_Si (fun r' => r' = r)) ([.ref (a 30), .int p1] : List Value).toArray s 0 0 (fun _ => False)) (F0 m 4 ls [])), ∀ (x3 : Int32) (y0 : Int32) (y1 : Int32), f_X8_blocksOn_b33 k ms p1 k4 x3 y0 y1 = some r → ∀ (ls : Array Slot), lv_has ls 4 [(0, .ref (a 30)), (1, .int p1), (3, .int x3)] → W p l e ({ frames := 2, cells := 0, slots := 0, locals := 45 } : Room) s m ([.ref (a 30), .int p1] : List Value).toArray below meth c s.heap [] 0 0 (MQ below (vp_Si (fun r' => r' = r)) ([.ref (a 30), .int p1] : List Value).toArray s 0 0 (fun _ => False)) (F0 m 33 ls [.int y0, .int y1]) := by
    intro k4 hk4
    intro x3 y0 y1 h ls hl
    rw [f_X8_blocksOn_b33] at h
    refine o_ior hx hb dX8_blocksOn_33 h (fun v4 h => ?_)
    refine lv_istore_n (lv' := [(2, .int v4), (0, .ref (a 30)), (1, .int p1), (3, .int x3)]) hx hb dX8_blocksOn_34 rfl hl (by decide) rfl (fun ls hl => ?_)
    refine o_nm h (fun v5 ey h => ?_)
    refine lv_iinc (v := v5) (lv' := [(3, .int v5), (2, .int v4), (0, .ref (a 30)), (1, .int p1)]) hx hb dX8_blocksOn_35 hl (k := 3) rfl (Eq.trans rfl ey) (by decide) rfl (fun ls hl => ?_)
    refine lv_goto (tgt := 4) hx hb dX8_blocksOn_38 (by decide) ?_
    exact hk4 v4 v5 h ls (lv_sub hl [2, 3, 1, 0] rfl)
  have B4 : ∀ (n : Nat), ∀ (x2 : Int32) (x3 : Int32), f_X8_blocksOn_b4 k ms p1 n x2 x3 = some r → ∀ (ls : Array Slot), lv_has ls 4 [(0, .ref (a 30)), (1, .int p1), (2, .int x2), (3, .int x3)] → W p l e ({ frames := 2, cells := 0, slots := 0, locals := 45 } : Room) s m ([.ref (a 30), .int p1] : List Value).toArray below meth c s.heap [] 0 0 (MQ below (vp_Si (fun r' => r' = r)) ([.ref (a 30), .int p1] : List Value).toArray s 0 0 (fun _ => False)) (F0 m 4 ls []) := by
    intro n
    induction n with
    | zero => intro x2 x3 h; exact absurd h (by rw [f_X8_blocksOn_b4]; exact fun q => nomatch q)
    | succ n ih4 =>
      intro x2 x3 h ls hl
      rw [f_X8_blocksOn_b4] at h
      refine lv_iload_n hx hb dX8_blocksOn_4 rfl (lv_at hl 3 rfl) ?_
      refine lv_iconst (v := (5 : Int32)) hx hb dX8_blocksOn_5 (by decide) ?_
      refine zc_ge (tgt := 41) hx hb dX8_blocksOn_6 (by decide) h (fun h => ?_) (fun h => ?_)
      · refine lv_iload_n hx hb dX8_blocksOn_41 rfl (lv_at hl 2 rfl) ?_
        exact zR_i hx hb hr hlocks dX8_blocksOn_42 h
      · refine lv_iload_n hx hb dX8_blocksOn_9 rfl (lv_at hl 2 rfl) ?_
        refine lv_aload_n hx hb dX8_blocksOn_10 rfl (lv_at hl 0 rfl) ?_
        refine lv_iload_n hx hb dX8_blocksOn_11 rfl (lv_at hl 1 rfl) ?_
        refine lv_iload_n hx hb dX8_blocksOn_12 rfl (lv_at hl 3 rfl) ?_
        obtain ⟨v1, hc, h⟩ := zb1_s h
        refine zE_i (zrV (C := RX8) (As := [.int p1, .int x3]) (rest := [.int x2]) hx hb hml hown hts tw947 mv_X8_blockAt ⟨Nat.le_of_ble_eq_true rfl, Nat.le_of_ble_eq_true rfl⟩ rfl rfl (ct_X8_blockAt l D ct a ms ah hi kp sl sv pd ln so po wr to p1 x3 k v1 hc) (z_pv hK hP [0, 1, 2, 3, 4, 5, 6, 7, 8] rfl 0 rfl rfl) hl.1 rfl rfl (Nat.le_of_ble_eq_true rfl) dX8_blocksOn_13 ⟨Nat.le_refl _, Nat.le_refl _⟩) ?_
        refine lv_bipush (v := (-6 : Int32)) hx hb dX8_blocksOn_16 (by decide) ?_
        refine zc_ne (tgt := 25) hx hb dX8_blocksOn_18 (by decide) h (fun h => ?_) (fun h => ?_)
        · refine lv_iconst (v := (1 : Int32)) hx hb dX8_blocksOn_25 (by decide) ?_
          refine lv_aload_n hx hb dX8_blocksOn_26 rfl (lv_at hl 0 rfl) ?_
          refine lv_iload_n hx hb dX8_blocksOn_27 rfl (lv_at hl 1 rfl) ?_
          refine lv_iload_n hx hb dX8_blocksOn_28 rfl (lv_at hl 3 rfl) ?_
          obtain ⟨v2, hc, h⟩ := zb1_s h
          refine zE_i (zrV (C := RX8) (As := [.int p1, .int x3]) (rest := [.int (1 : Int32), .int x2]) hx hb hml hown hts tw947 mv_X8_blockAt ⟨Nat.le_of_ble_eq_true rfl, Nat.le_of_ble_eq_true rfl⟩ rfl rfl (ct_X8_blockAt l D ct a ms ah hi kp sl sv pd ln so po wr to p1 x3 k v2 hc) (z_pv hK hP [0, 1, 2, 3, 4, 5, 6, 7, 8] rfl 0 rfl rfl) hl.1 rfl rfl (Nat.le_of_ble_eq_true rfl) dX8_blocksOn_29 ⟨Nat.le_refl _, Nat.le_refl _⟩) ?_
          refine o_ishl hx hb dX8_blocksOn_32 h (fun v3 h => ?_)
          exact B33 (f_X8_blocksOn_b4 k ms p1 n) ih4 x3 v3 x2 h ls (lv_sub hl [0, 1, 3] rfl)
        · refine lv_iconst (v := (0 : Int32)) hx hb dX8_blocksOn_21 (by decide) ?_
          refine lv_goto (tgt := 33) hx hb dX8_blocksOn_22 (by decide) ?_
          exact B33 (f_X8_blocksOn_b4 k ms p1 n) ih4 x3 (0 : Int32) x2 h ls (lv_sub hl [0, 1, 3] rfl)
  rw [f_X8_blocksOn] at h
  refine lv_iconst (v := (0 : Int32)) hx hb dX8_blocksOn_0 (by decide) ?_
  refine lv_istore_n (lv' := [(2, .int (0 : Int32)), (0, .ref (a 30)), (1, .int p1)]) hx hb dX8_blocksOn_1 rfl hl (by decide) rfl (fun ls hl => ?_)
  refine lv_iconst (v := (0 : Int32)) hx hb dX8_blocksOn_2 (by decide) ?_
  refine lv_istore_n (lv' := [(3, .int (0 : Int32)), (2, .int (0 : Int32)), (0, .ref (a 30)), (1, .int p1)]) hx hb dX8_blocksOn_3 rfl hl (by decide) rfl (fun ls hl => ?_)
  exact B4 k (0 : Int32) (0 : Int32) h ls (lv_sub hl [2, 3, 1, 0] rfl)

def f_X8_hasCracked_b4 (k : Nat) (ms : Nat → Int32) (p1 : Int32)  : Nat → Int32 → Int32 → Option (Int32)
  | 0, _, _ => none
  | n + 1, x2, x3 =>
    if (5 : Int32) ≤ x3 then
      zg (zbo x2) (some x2)
    else
      zb1 (f_X8_blockAt k ms p1 x3) fun v1 =>
      if x2 = 0 then
        if v1 = (-6 : Int32) then
          zl (x3 + (1 : Int32)) fun v3 =>
          f_X8_hasCracked_b4 k ms p1 n (0 : Int32) v3
        else
          zb1 (f_X8_at k v1 (6 : Int32)) fun v4 =>
          zg (zin v4 324) (zl (ms v4.toNatClampNeg) fun v5 =>
          if v5 = (1 : Int32) then
            zl (x3 + (1 : Int32)) fun v7 =>
            f_X8_hasCracked_b4 k ms p1 n (1 : Int32) v7
          else
            zl (x3 + (1 : Int32)) fun v6 =>
            f_X8_hasCracked_b4 k ms p1 n (0 : Int32) v6)
      else
        zl (x3 + (1 : Int32)) fun v2 =>
        f_X8_hasCracked_b4 k ms p1 n (1 : Int32) v2
def f_X8_hasCracked (k : Nat) (ms : Nat → Int32) (p1 : Int32) : Option (Int32) :=
  f_X8_hasCracked_b4 k ms p1 k (0 : Int32) (0 : Int32)
set_option maxRecDepth 100000 in
set_option maxHeartbeats 4000000 in
theorem ct_X8_hasCracked (l : Launch) (D : va_G) (ct a : Nat → Nat) (ms : Nat → Int32) (ah : Nat → Int32) (hi : Nat → Int32) (kp : Int32) (sl : Nat → Int32) (sv : Nat → Int32) (pd : Nat → Int32) (ln : Int32) (so : Nat → Int32) (po : Int32) (wr : Int32) (to : Nat → Int32) (p1 : Int32) (k : Nat) (r : Int32) (h : f_X8_hasCracked k ms p1 = some r) : Met l yX8_hasCracked (Cond.code yX8_hasCracked cX8_hasCracked 5 (some .boolean) :: zT) ({ frames := 2, cells := 0, slots := 0, locals := 45 } : Room) (va_Pc [.ref (a 30), .int p1] (zPR D (zTys ct) (wX8 ct a ms ah hi kp sl sv pd ln so po wr to))) (vp_Si (fun r' => r' = r)) 0 0 (fun _ => False) := by
  refine zMet (cc := cX8_hasCracked) (maxL := 5) (ret := (some .boolean)) (av := [.ref (a 30), .int p1]) (by decide) (Nat.le_of_ble_eq_true rfl) (fun p e s m below meth c ls hx hb hr hml hts hown hlocks hin hB hl => ?_)
  have hl : lv_has ls 5 [(0, .ref (a 30)), (1, .int p1)] := hl
  have hown : s.vm.findClass RX8 = some m.cls := hown
  obtain ⟨hP, hK⟩ := hB
  have B4 : ∀ (n : Nat), ∀ (x2 : Int32) (x3 : Int32), f_X8_hasCracked_b4 k ms p1 n x2 x3 = some r → ∀ (ls : Array Slot), lv_has ls 5 [(0, .ref (a 30)), (1, .int p1), (2, .int x2), (3, .int x3)] → W p l e ({ frames := 2, cells := 0, slots := 0, locals := 45 } : Room) s m ([.ref (a 30), .int p1] : List Value).toArray below meth c s.heap [] 0 0 (MQ below (vp_Si (fun r' => r' = r)) ([.ref (a 30), .int p1] : List Value).toArray s 0 0 (fun _ => False)) (F0 m 4 ls []) := by
    intro n
    induction n with
    | zero => intro x2 x3 h; exact absurd h (by rw [f_X8_hasCracked_b4]; exact fun q => nomatch q)
    | succ n ih4 =>
      intro x2 x3 h ls hl
      rw [f_X8_hasCracked_b4] at h
      refine lv_iload_n hx hb dX8_hasCracked_4 rfl (lv_at hl 3 rfl) ?_
      refine lv_iconst (v := (5 : Int32)) hx hb dX8_hasCracked_5 (by decide) ?_
      refine zc_ge (tgt := 56) hx hb dX8_hasCracked_6 (by decide) h (fun h => ?_) (fun h => ?_)
      · refine lv_iload_n hx hb dX8_hasCracked_56 rfl (lv_at hl 2 rfl) ?_
        exact zR_z hx hb hr hlocks dX8_hasCracked_57 h
      · refine lv_aload_n hx hb dX8_hasCracked_9 rfl (lv_at hl 0 rfl) ?_
        refine lv_iload_n hx hb dX8_hasCracked_10 rfl (lv_at hl 1 rfl) ?_
        refine lv_iload_n hx hb dX8_hasCracked_11 rfl (lv_at hl 3 rfl) ?_
        obtain ⟨v1, hc, h⟩ := zb1_s h
        refine zE_i (zrV (C := RX8) (As := [.int p1, .int x3]) (rest := []) hx hb hml hown hts tw947 mv_X8_blockAt ⟨Nat.le_of_ble_eq_true rfl, Nat.le_of_ble_eq_true rfl⟩ rfl rfl (ct_X8_blockAt l D ct a ms ah hi kp sl sv pd ln so po wr to p1 x3 k v1 hc) (z_pv hK hP [0, 1, 2, 3, 4, 5, 6, 7, 8] rfl 0 rfl rfl) hl.1 rfl rfl (Nat.le_of_ble_eq_true rfl) dX8_hasCracked_12 ⟨Nat.le_refl _, Nat.le_refl _⟩) ?_
        refine lv_istore (lv' := [(4, .int v1), (0, .ref (a 30)), (1, .int p1), (2, .int x2), (3, .int x3)]) hx hb dX8_hasCracked_15 hl (by decide) rfl (fun ls hl => ?_)
        refine lv_iload_n hx hb dX8_hasCracked_17 rfl (lv_at hl 3 rfl) ?_
        refine zi_ne (tgt := 44) hx hb dX8_hasCracked_18 (by decide) h (fun h => ?_) (fun h => ?_)
        · refine lv_iconst (v := (1 : Int32)) hx hb dX8_hasCracked_44 (by decide) ?_
          refine lv_goto (tgt := 49) hx hb dX8_hasCracked_45 (by decide) ?_
          refine lv_istore_n (lv' := [(2, .int (1 : Int32)), (4, .int v1), (0, .ref (a 30)), (1, .int p1), (3, .int x3)]) hx hb dX8_hasCracked_49 rfl hl (by decide) rfl (fun ls hl => ?_)
          refine o_nm h (fun v2 ey h => ?_)
          refine lv_iinc (v := v2) (lv' := [(3, .int v2), (2, .int (1 : Int32)), (4, .int v1), (0, .ref (a 30)), (1, .int p1)]) hx hb dX8_hasCracked_50 hl (k := 4) rfl (Eq.trans rfl ey) (by decide) rfl (fun ls hl => ?_)
          refine lv_goto (tgt := 4) hx hb dX8_hasCracked_53 (by decide) ?_
          exact ih4 (1 : Int32) v2 h ls (lv_sub hl [3, 4, 1, 0] rfl)
        · refine lv_iload hx hb dX8_hasCracked_21 (lv_at hl 0 rfl) ?_
          refine lv_bipush (v := (-6 : Int32)) hx hb dX8_hasCracked_23 (by decide) ?_
          refine zc_eq (tgt := 48) hx hb dX8_hasCracked_25 (by decide) h (fun h => ?_) (fun h => ?_)
          · refine lv_iconst (v := (0 : Int32)) hx hb dX8_hasCracked_48 (by decide) ?_
            refine lv_istore_n (lv' := [(2, .int (0 : Int32)), (4, .int v1), (0, .ref (a 30)), (1, .int p1), (3, .int x3)]) hx hb dX8_hasCracked_49 rfl hl (by decide) rfl (fun ls hl => ?_)
            refine o_nm h (fun v3 ey h => ?_)
            refine lv_iinc (v := v3) (lv' := [(3, .int v3), (2, .int (0 : Int32)), (4, .int v1), (0, .ref (a 30)), (1, .int p1)]) hx hb dX8_hasCracked_50 hl (k := 4) rfl (Eq.trans rfl ey) (by decide) rfl (fun ls hl => ?_)
            refine lv_goto (tgt := 4) hx hb dX8_hasCracked_53 (by decide) ?_
            exact ih4 (0 : Int32) v3 h ls (lv_sub hl [3, 4, 1, 0] rfl)
          · refine lv_aload_n hx hb dX8_hasCracked_28 rfl (lv_at hl 1 rfl) ?_
            refine z_get (C := RX8) (T := TX8) (N := 12) (ci := 7) hx hb hts zin_X8 hown hK.1 hP 0 0 rfl rfl (by decide) tw795 rfl rfl dX8_hasCracked_29 ?_
            refine lv_iload hx hb dX8_hasCracked_32 (lv_at hl 0 rfl) ?_
            refine lv_bipush (v := (6 : Int32)) hx hb dX8_hasCracked_34 (by decide) ?_
            obtain ⟨v4, hc, h⟩ := zb1_s h
            refine zE_i (zrS (As := [.int v1, .int (6 : Int32)]) (rest := [.ref (a 31)]) hx hb hml hown hts tw874 ms_X8_at ⟨Nat.le_of_ble_eq_true rfl, Nat.le_of_ble_eq_true rfl⟩ rfl rfl (ct_X8_at l v1 (6 : Int32) k v4 hc) z_p0 hl.1 rfl rfl (Nat.le_of_ble_eq_true rfl) dX8_hasCracked_36 ⟨Nat.le_refl _, Nat.le_refl _⟩) ?_
            refine y_iald hx hb hK hP 1 0 rfl rfl h dX8_hasCracked_39 (fun v5 h => ?_)
            refine lv_iconst (v := (1 : Int32)) hx hb dX8_hasCracked_40 (by decide) ?_
            refine zc_ne (tgt := 48) hx hb dX8_hasCracked_41 (by decide) h (fun h => ?_) (fun h => ?_)
            · refine lv_iconst (v := (0 : Int32)) hx hb dX8_hasCracked_48 (by decide) ?_
              refine lv_istore_n (lv' := [(2, .int (0 : Int32)), (4, .int v1), (0, .ref (a 30)), (1, .int p1), (3, .int x3)]) hx hb dX8_hasCracked_49 rfl hl (by decide) rfl (fun ls hl => ?_)
              refine o_nm h (fun v6 ey h => ?_)
              refine lv_iinc (v := v6) (lv' := [(3, .int v6), (2, .int (0 : Int32)), (4, .int v1), (0, .ref (a 30)), (1, .int p1)]) hx hb dX8_hasCracked_50 hl (k := 4) rfl (Eq.trans rfl ey) (by decide) rfl (fun ls hl => ?_)
              refine lv_goto (tgt := 4) hx hb dX8_hasCracked_53 (by decide) ?_
              exact ih4 (0 : Int32) v6 h ls (lv_sub hl [3, 4, 1, 0] rfl)
            · refine lv_iconst (v := (1 : Int32)) hx hb dX8_hasCracked_44 (by decide) ?_
              refine lv_goto (tgt := 49) hx hb dX8_hasCracked_45 (by decide) ?_
              refine lv_istore_n (lv' := [(2, .int (1 : Int32)), (4, .int v1), (0, .ref (a 30)), (1, .int p1), (3, .int x3)]) hx hb dX8_hasCracked_49 rfl hl (by decide) rfl (fun ls hl => ?_)
              refine o_nm h (fun v7 ey h => ?_)
              refine lv_iinc (v := v7) (lv' := [(3, .int v7), (2, .int (1 : Int32)), (4, .int v1), (0, .ref (a 30)), (1, .int p1)]) hx hb dX8_hasCracked_50 hl (k := 4) rfl (Eq.trans rfl ey) (by decide) rfl (fun ls hl => ?_)
              refine lv_goto (tgt := 4) hx hb dX8_hasCracked_53 (by decide) ?_
              exact ih4 (1 : Int32) v7 h ls (lv_sub hl [3, 4, 1, 0] rfl)
  rw [f_X8_hasCracked] at h
  refine lv_iconst (v := (0 : Int32)) hx hb dX8_hasCracked_0 (by decide) ?_
  refine lv_istore_n (lv' := [(2, .int (0 : Int32)), (0, .ref (a 30)), (1, .int p1)]) hx hb dX8_hasCracked_1 rfl hl (by decide) rfl (fun ls hl => ?_)
  refine lv_iconst (v := (0 : Int32)) hx hb dX8_hasCracked_2 (by decide) ?_
  refine lv_istore_n (lv' := [(3, .int (0 : Int32)), (2, .int (0 : Int32)), (0, .ref (a 30)), (1, .int p1)]) hx hb dX8_hasCracked_3 rfl hl (by decide) rfl (fun ls hl => ?_)
  exact B4 k (0 : Int32) (0 : Int32) h ls (lv_sub hl [2, 3, 1, 0] rfl)

def f_X8_axle_b67 (k : Nat) (ms : Nat → Int32) (p1 : Int32) (p2 : Int32) (p3 : Int32) (p4 : Int32) (k6 : UInt32 → Int32 → Option (UInt32)) (x6 : Int32) (y0 : Int32) (y1 : UInt32) (y2 : UInt32) : Option (UInt32) :=
  zl (FP.i2f y0) fun v6 =>
  zg (z32 (FP.fmul y1 v6)) (zl (FP.fmul y1 v6) fun v7 =>
  zg (z32 (FP.fdiv v7 (1082130432 : UInt32))) (zl (FP.fdiv v7 (1082130432 : UInt32)) fun v8 =>
  zg (z32 (FP.fadd y2 v8)) (zl (FP.fadd y2 v8) fun v9 =>
  zl (x6 + (1 : Int32)) fun v10 =>
  k6 v9 v10)))
def f_X8_axle_b36 (k : Nat) (ms : Nat → Int32) (p1 : Int32) (p2 : Int32) (p3 : Int32) (p4 : Int32) (k6 : UInt32 → Int32 → Option (UInt32)) (x5 : UInt32) (x6 : Int32) (y0 : Int32) : Option (UInt32) :=
  if y0 = (-6 : Int32) then
    zl (x6 + (1 : Int32)) fun v2 =>
    k6 x5 v2
  else
    zb1 (f_X8_weight k ms y0) fun v3 =>
    zl (FP.i2f v3) fun v4 =>
    if p2 = 0 then
      zl ((4 : Int32) - x6) fun v5 =>
      f_X8_axle_b67 k ms p1 p2 p3 p4 (k6) x6 v5 v4 x5
    else
      f_X8_axle_b67 k ms p1 p2 p3 p4 (k6) x6 x6 v4 x5
def f_X8_axle_b29 (k : Nat) (ms : Nat → Int32) (p1 : Int32) (p2 : Int32) (p3 : Int32) (p4 : Int32) (k6 : UInt32 → Int32 → Option (UInt32)) (x5 : UInt32) (x6 : Int32) : Option (UInt32) :=
  zb1 (f_X8_blockAt k ms p1 x6) fun v1 =>
  f_X8_axle_b36 k ms p1 p2 p3 p4 (k6) x5 x6 v1
def f_X8_axle_b6 (k : Nat) (ms : Nat → Int32) (p1 : Int32) (p2 : Int32) (p3 : Int32) (p4 : Int32)  : Nat → UInt32 → Int32 → Option (UInt32)
  | 0, _, _ => none
  | n + 1, x5, x6 =>
    if (5 : Int32) ≤ x6 then
      some x5
    else
      if x6 = p4 then
        if p3 = (-6 : Int32) then
          f_X8_axle_b29 k ms p1 p2 p3 p4 (f_X8_axle_b6 k ms p1 p2 p3 p4 n) x5 x6
        else
          f_X8_axle_b36 k ms p1 p2 p3 p4 (f_X8_axle_b6 k ms p1 p2 p3 p4 n) x5 x6 p3
      else
        f_X8_axle_b29 k ms p1 p2 p3 p4 (f_X8_axle_b6 k ms p1 p2 p3 p4 n) x5 x6
def f_X8_axle (k : Nat) (ms : Nat → Int32) (p1 : Int32) (p2 : Int32) (p3 : Int32) (p4 : Int32) : Option (UInt32) :=
  f_X8_axle_b6 k ms p1 p2 p3 p4 k FP.fconst0 (0 : Int32)
set_option maxRecDepth 100000 in
set_option maxHeartbeats 4000000 in
theorem ct_X8_axle (l : Launch) (D : va_G) (ct a : Nat → Nat) (ms : Nat → Int32) (ah : Nat → Int32) (hi : Nat → Int32) (kp : Int32) (sl : Nat → Int32) (sv : Nat → Int32) (pd : Nat → Int32) (ln : Int32) (so : Nat → Int32) (po : Int32) (wr : Int32) (to : Nat → Int32) (p1 : Int32) (p2 : Int32) (p3 : Int32) (p4 : Int32) (k : Nat) (r : UInt32) (h : f_X8_axle k ms p1 p2 p3 p4 = some r) : Met l yX8_axle (Cond.code yX8_axle cX8_axle 8 (some .float) :: zT) ({ frames := 2, cells := 0, slots := 0, locals := 45 } : Room) (va_Pc [.ref (a 30), .int p1, .int p2, .int p3, .int p4] (zPR D (zTys ct) (wX8 ct a ms ah hi kp sl sv pd ln so po wr to))) (vp_Sf (fun r' => r' = r)) 0 0 (fun _ => False) := by
  refine zMet (cc := cX8_axle) (maxL := 8) (ret := (some .float)) (av := [.ref (a 30), .int p1, .int p2, .int p3, .int p4]) (by decide) (Nat.le_of_ble_eq_true rfl) (fun p e s m below meth c ls hx hb hr hml hts hown hlocks hin hB hl => ?_)
  have hl : lv_has ls 8 [(0, .ref (a 30)), (1, .int p1), (2, .int p2), (3, .int p3), (4, .int p4)] := hl
  have hown : s.vm.findClass RX8 = some m.cls := hown
  obtain ⟨hP, hK⟩ := hB
  have B67 : ∀ (k6 : UInt32 → Int32 → Option (UInt32)) (hk6 : ∀ (x5 : UInt32) (x6 : Int32), k6 x5 x6 = some r → ∀ (ls : Array Slot), lv_has ls 8 [(0, .ref (a 30)), (1, .int p1), (2, .int p2), (3, .int p3), (4, .int p4), (5, .float x5), (6, .int x6)] → W p l e ({ frames := 2, cells := 0, slots := 0, locals := 45 } : Room) s m ([.ref (a 30), .int p1, .int p2, .int p3, .int p4] : List Value).toArray below meth c s.heap [] 0 0 (MQ below (vp_Sf (fun r' => r' = r)) ([.ref (a 30), .int p1, .int p2, .int p3, .int p4] : List Value).toArray s 0 0 (fun _ => False)) (F0 m 6 ls [])), ∀ (x6 : Int32) (y0 : Int32) (y1 : UInt32) (y2 : UInt32), f_X8_axle_b67 k ms p1 p2 p3 p4 k6 x6 y0 y1 y2 = some r → ∀ (ls : Array Slot), lv_has ls 8 [(0, .ref (a 30)), (1, .int p1), (2, .int p2), (3, .int p3), (4, .int p4), (6, .int x6)] → W p l e ({ frames := 2, cells := 0, slots := 0, locals := 45 } : Room) s m ([.ref (a 30), .int p1, .int p2, .int p3, .int p4] : List Value).toArray below meth c s.heap [] 0 0 (MQ below (vp_Sf (fun r' => r' = r)) ([.ref (a 30), .int p1, .int p2, .int p3, .int p4] : List Value).toArray s 0 0 (fun _ => False)) (F0 m 67 ls [.int y0, .float y1, .float y2]) := by
    intro k6 hk6
    intro x6 y0 y1 y2 h ls hl
    rw [f_X8_axle_b67] at h
    refine o_i2f hx hb dX8_axle_67 h (fun v6 h => ?_)
    refine o_fmul hx hb dX8_axle_68 h (fun v7 h => ?_)
    refine lv_ldcf (v := (1082130432 : UInt32)) hx hb hown (hts _ (List.mem_cons_of_mem _ tw987)) dX8_axle_69 ?_
    refine o_fdiv hx hb dX8_axle_71 h (fun v8 h => ?_)
    refine o_fadd hx hb dX8_axle_72 h (fun v9 h => ?_)
    refine lv_fstore (lv' := [(5, .float v9), (0, .ref (a 30)), (1, .int p1), (2, .int p2), (3, .int p3), (4, .int p4), (6, .int x6)]) hx hb dX8_axle_73 hl (by decide) rfl (fun ls hl => ?_)
    refine o_nm h (fun v10 ey h => ?_)
    refine lv_iinc (v := v10) (lv' := [(6, .int v10), (5, .float v9), (0, .ref (a 30)), (1, .int p1), (2, .int p2), (3, .int p3), (4, .int p4)]) hx hb dX8_axle_75 hl (k := 6) rfl (Eq.trans rfl ey) (by decide) rfl (fun ls hl => ?_)
    refine lv_goto (tgt := 6) hx hb dX8_axle_78 (by decide) ?_
    exact hk6 v9 v10 h ls (lv_sub hl [2, 3, 4, 5, 6, 1, 0] rfl)
  have B36 : ∀ (k6 : UInt32 → Int32 → Option (UInt32)) (hk6 : ∀ (x5 : UInt32) (x6 : Int32), k6 x5 x6 = some r → ∀ (ls : Array Slot), lv_has ls 8 [(0, .ref (a 30)), (1, .int p1), (2, .int p2), (3, .int p3), (4, .int p4), (5, .float x5), (6, .int x6)] → W p l e ({ frames := 2, cells := 0, slots := 0, locals := 45 } : Room) s m ([.ref (a 30), .int p1, .int p2, .int p3, .int p4] : List Value).toArray below meth c s.heap [] 0 0 (MQ below (vp_Sf (fun r' => r' = r)) ([.ref (a 30), .int p1, .int p2, .int p3, .int p4] : List Value).toArray s 0 0 (fun _ => False)) (F0 m 6 ls [])), ∀ (x5 : UInt32) (x6 : Int32) (y0 : Int32), f_X8_axle_b36 k ms p1 p2 p3 p4 k6 x5 x6 y0 = some r → ∀ (ls : Array Slot), lv_has ls 8 [(0, .ref (a 30)), (1, .int p1), (2, .int p2), (3, .int p3), (4, .int p4), (5, .float x5), (6, .int x6)] → W p l e ({ frames := 2, cells := 0, slots := 0, locals := 45 } : Room) s m ([.ref (a 30), .int p1, .int p2, .int p3, .int p4] : List Value).toArray below meth c s.heap [] 0 0 (MQ below (vp_Sf (fun r' => r' = r)) ([.ref (a 30), .int p1, .int p2, .int p3, .int p4] : List Value).toArray s 0 0 (fun _ => False)) (F0 m 36 ls [.int y0]) := by
    intro k6 hk6
    intro x5 x6 y0 h ls hl
    rw [f_X8_axle_b36] at h
    refine lv_istore (lv' := [(7, .int y0), (0, .ref (a 30)), (1, .int p1), (2, .int p2), (3, .int p3), (4, .int p4), (5, .float x5), (6, .int x6)]) hx hb dX8_axle_36 hl (by decide) rfl (fun ls hl => ?_)
    refine lv_iload hx hb dX8_axle_38 (lv_at hl 0 rfl) ?_
    refine lv_bipush (v := (-6 : Int32)) hx hb dX8_axle_40 (by decide) ?_
    refine zc_eq (tgt := 75) hx hb dX8_axle_42 (by decide) h (fun h => ?_) (fun h => ?_)
    · refine o_nm h (fun v2 ey h => ?_)
      refine lv_iinc (v := v2) (lv' := [(6, .int v2), (7, .int y0), (0, .ref (a 30)), (1, .int p1), (2, .int p2), (3, .int p3), (4, .int p4), (5, .float x5)]) hx hb dX8_axle_75 hl (k := 7) rfl (Eq.trans rfl ey) (by decide) rfl (fun ls hl => ?_)
      refine lv_goto (tgt := 6) hx hb dX8_axle_78 (by decide) ?_
      exact hk6 x5 v2 h ls (lv_sub hl [2, 3, 4, 5, 6, 7, 0] rfl)
    · refine lv_fload hx hb dX8_axle_45 (lv_at hl 6 rfl) ?_
      refine lv_aload_n hx hb dX8_axle_47 rfl (lv_at hl 1 rfl) ?_
      refine lv_iload hx hb dX8_axle_48 (lv_at hl 0 rfl) ?_
      obtain ⟨v3, hc, h⟩ := zb1_s h
      refine zE_i (zrV (C := RX8) (As := [.int y0]) (rest := [.float x5]) hx hb hml hown hts tw877 mv_X8_weight ⟨Nat.le_of_ble_eq_true rfl, Nat.le_of_ble_eq_true rfl⟩ rfl rfl (ct_X8_weight l D ct a ms ah hi kp sl sv pd ln so po wr to y0 k v3 hc) (z_pv hK hP [0, 1, 2, 3, 4, 5, 6, 7, 8] rfl 0 rfl rfl) hl.1 rfl rfl (Nat.le_of_ble_eq_true rfl) dX8_axle_50 ⟨Nat.le_refl _, Nat.le_refl _⟩) ?_
      refine o_i2f hx hb dX8_axle_53 h (fun v4 h => ?_)
      refine lv_iload_n hx hb dX8_axle_54 rfl (lv_at hl 3 rfl) ?_
      refine zi_eq (tgt := 63) hx hb dX8_axle_55 (by decide) h (fun h => ?_) (fun h => ?_)
      · refine lv_iconst (v := (4 : Int32)) hx hb dX8_axle_63 (by decide) ?_
        refine lv_iload hx hb dX8_axle_64 (lv_at hl 7 rfl) ?_
        refine o_isub hx hb dX8_axle_66 h (fun v5 h => ?_)
        exact B67 (k6) hk6 x6 v5 v4 x5 h ls (lv_sub hl [1, 2, 3, 4, 5, 7] rfl)
      · refine lv_iload hx hb dX8_axle_58 (lv_at hl 7 rfl) ?_
        refine lv_goto (tgt := 67) hx hb dX8_axle_60 (by decide) ?_
        exact B67 (k6) hk6 x6 x6 v4 x5 h ls (lv_sub hl [1, 2, 3, 4, 5, 7] rfl)
  have B29 : ∀ (k6 : UInt32 → Int32 → Option (UInt32)) (hk6 : ∀ (x5 : UInt32) (x6 : Int32), k6 x5 x6 = some r → ∀ (ls : Array Slot), lv_has ls 8 [(0, .ref (a 30)), (1, .int p1), (2, .int p2), (3, .int p3), (4, .int p4), (5, .float x5), (6, .int x6)] → W p l e ({ frames := 2, cells := 0, slots := 0, locals := 45 } : Room) s m ([.ref (a 30), .int p1, .int p2, .int p3, .int p4] : List Value).toArray below meth c s.heap [] 0 0 (MQ below (vp_Sf (fun r' => r' = r)) ([.ref (a 30), .int p1, .int p2, .int p3, .int p4] : List Value).toArray s 0 0 (fun _ => False)) (F0 m 6 ls [])), ∀ (x5 : UInt32) (x6 : Int32), f_X8_axle_b29 k ms p1 p2 p3 p4 k6 x5 x6 = some r → ∀ (ls : Array Slot), lv_has ls 8 [(0, .ref (a 30)), (1, .int p1), (2, .int p2), (3, .int p3), (4, .int p4), (5, .float x5), (6, .int x6)] → W p l e ({ frames := 2, cells := 0, slots := 0, locals := 45 } : Room) s m ([.ref (a 30), .int p1, .int p2, .int p3, .int p4] : List Value).toArray below meth c s.heap [] 0 0 (MQ below (vp_Sf (fun r' => r' = r)) ([.ref (a 30), .int p1, .int p2, .int p3, .int p4] : List Value).toArray s 0 0 (fun _ => False)) (F0 m 29 ls []) := by
    intro k6 hk6
    intro x5 x6 h ls hl
    rw [f_X8_axle_b29] at h
    refine lv_aload_n hx hb dX8_axle_29 rfl (lv_at hl 0 rfl) ?_
    refine lv_iload_n hx hb dX8_axle_30 rfl (lv_at hl 1 rfl) ?_
    refine lv_iload hx hb dX8_axle_31 (lv_at hl 6 rfl) ?_
    obtain ⟨v1, hc, h⟩ := zb1_s h
    refine zE_i (zrV (C := RX8) (As := [.int p1, .int x6]) (rest := []) hx hb hml hown hts tw947 mv_X8_blockAt ⟨Nat.le_of_ble_eq_true rfl, Nat.le_of_ble_eq_true rfl⟩ rfl rfl (ct_X8_blockAt l D ct a ms ah hi kp sl sv pd ln so po wr to p1 x6 k v1 hc) (z_pv hK hP [0, 1, 2, 3, 4, 5, 6, 7, 8] rfl 0 rfl rfl) hl.1 rfl rfl (Nat.le_of_ble_eq_true rfl) dX8_axle_33 ⟨Nat.le_refl _, Nat.le_refl _⟩) ?_
    exact B36 (k6) hk6 x5 x6 v1 h ls (lv_sub hl [0, 1, 2, 3, 4, 5, 6] rfl)
  have B6 : ∀ (n : Nat), ∀ (x5 : UInt32) (x6 : Int32), f_X8_axle_b6 k ms p1 p2 p3 p4 n x5 x6 = some r → ∀ (ls : Array Slot), lv_has ls 8 [(0, .ref (a 30)), (1, .int p1), (2, .int p2), (3, .int p3), (4, .int p4), (5, .float x5), (6, .int x6)] → W p l e ({ frames := 2, cells := 0, slots := 0, locals := 45 } : Room) s m ([.ref (a 30), .int p1, .int p2, .int p3, .int p4] : List Value).toArray below meth c s.heap [] 0 0 (MQ below (vp_Sf (fun r' => r' = r)) ([.ref (a 30), .int p1, .int p2, .int p3, .int p4] : List Value).toArray s 0 0 (fun _ => False)) (F0 m 6 ls []) := by
    intro n
    induction n with
    | zero => intro x5 x6 h; exact absurd h (by rw [f_X8_axle_b6]; exact fun q => nomatch q)
    | succ n ih6 =>
      intro x5 x6 h ls hl
      rw [f_X8_axle_b6] at h
      refine lv_iload hx hb dX8_axle_6 (lv_at hl 6 rfl) ?_
      refine lv_iconst (v := (5 : Int32)) hx hb dX8_axle_8 (by decide) ?_
      refine zc_ge (tgt := 81) hx hb dX8_axle_9 (by decide) h (fun h => ?_) (fun h => ?_)
      · refine lv_fload hx hb dX8_axle_81 (lv_at hl 5 rfl) ?_
        exact zR_f hx hb hr hlocks dX8_axle_83 h
      · refine lv_iload hx hb dX8_axle_12 (lv_at hl 6 rfl) ?_
        refine lv_iload hx hb dX8_axle_14 (lv_at hl 4 rfl) ?_
        refine zc_ne (tgt := 29) hx hb dX8_axle_16 (by decide) h (fun h => ?_) (fun h => ?_)
        · exact B29 (f_X8_axle_b6 k ms p1 p2 p3 p4 n) ih6 x5 x6 h ls (lv_sub hl [0, 1, 2, 3, 4, 5, 6] rfl)
        · refine lv_iload_n hx hb dX8_axle_19 rfl (lv_at hl 3 rfl) ?_
          refine lv_bipush (v := (-6 : Int32)) hx hb dX8_axle_20 (by decide) ?_
          refine zc_eq (tgt := 29) hx hb dX8_axle_22 (by decide) h (fun h => ?_) (fun h => ?_)
          · exact B29 (f_X8_axle_b6 k ms p1 p2 p3 p4 n) ih6 x5 x6 h ls (lv_sub hl [0, 1, 2, 3, 4, 5, 6] rfl)
          · refine lv_iload_n hx hb dX8_axle_25 rfl (lv_at hl 3 rfl) ?_
            refine lv_goto (tgt := 36) hx hb dX8_axle_26 (by decide) ?_
            exact B36 (f_X8_axle_b6 k ms p1 p2 p3 p4 n) ih6 x5 x6 p3 h ls (lv_sub hl [0, 1, 2, 3, 4, 5, 6] rfl)
  rw [f_X8_axle] at h
  refine lv_fconst0 hx hb dX8_axle_0 ?_
  refine lv_fstore (lv' := [(5, .float FP.fconst0), (0, .ref (a 30)), (1, .int p1), (2, .int p2), (3, .int p3), (4, .int p4)]) hx hb dX8_axle_1 hl (by decide) rfl (fun ls hl => ?_)
  refine lv_iconst (v := (0 : Int32)) hx hb dX8_axle_3 (by decide) ?_
  refine lv_istore (lv' := [(6, .int (0 : Int32)), (5, .float FP.fconst0), (0, .ref (a 30)), (1, .int p1), (2, .int p2), (3, .int p3), (4, .int p4)]) hx hb dX8_axle_4 hl (by decide) rfl (fun ls hl => ?_)
  exact B6 k FP.fconst0 (0 : Int32) h ls (lv_sub hl [2, 3, 4, 5, 6, 1, 0] rfl)

def f_X8_axleNow (k : Nat) (ms : Nat → Int32) (p1 : Int32) (p2 : Int32) : Option (UInt32) :=
  zb1 (f_X8_axle k ms p1 p2 (-6 : Int32) (-6 : Int32)) fun v1 =>
  some v1
set_option maxRecDepth 100000 in
set_option maxHeartbeats 4000000 in
theorem ct_X8_axleNow (l : Launch) (D : va_G) (ct a : Nat → Nat) (ms : Nat → Int32) (ah : Nat → Int32) (hi : Nat → Int32) (kp : Int32) (sl : Nat → Int32) (sv : Nat → Int32) (pd : Nat → Int32) (ln : Int32) (so : Nat → Int32) (po : Int32) (wr : Int32) (to : Nat → Int32) (p1 : Int32) (p2 : Int32) (k : Nat) (r : UInt32) (h : f_X8_axleNow k ms p1 p2 = some r) : Met l yX8_axleNow (Cond.code yX8_axleNow cX8_axleNow 3 (some .float) :: zT) ({ frames := 3, cells := 0, slots := 0, locals := 72 } : Room) (va_Pc [.ref (a 30), .int p1, .int p2] (zPR D (zTys ct) (wX8 ct a ms ah hi kp sl sv pd ln so po wr to))) (vp_Sf (fun r' => r' = r)) 0 0 (fun _ => False) := by
  refine zMet (cc := cX8_axleNow) (maxL := 3) (ret := (some .float)) (av := [.ref (a 30), .int p1, .int p2]) (by decide) (Nat.le_of_ble_eq_true rfl) (fun p e s m below meth c ls hx hb hr hml hts hown hlocks hin hB hl => ?_)
  have hl : lv_has ls 3 [(0, .ref (a 30)), (1, .int p1), (2, .int p2)] := hl
  have hown : s.vm.findClass RX8 = some m.cls := hown
  obtain ⟨hP, hK⟩ := hB
  rw [f_X8_axleNow] at h
  refine lv_aload_n hx hb dX8_axleNow_0 rfl (lv_at hl 0 rfl) ?_
  refine lv_iload_n hx hb dX8_axleNow_1 rfl (lv_at hl 1 rfl) ?_
  refine lv_iload_n hx hb dX8_axleNow_2 rfl (lv_at hl 2 rfl) ?_
  refine lv_bipush (v := (-6 : Int32)) hx hb dX8_axleNow_3 (by decide) ?_
  refine lv_bipush (v := (-6 : Int32)) hx hb dX8_axleNow_5 (by decide) ?_
  obtain ⟨v1, hc, h⟩ := zb1_s h
  refine zE_f (zrV (C := RX8) (As := [.int p1, .int p2, .int (-6 : Int32), .int (-6 : Int32)]) (rest := []) hx hb hml hown hts tw983 mv_X8_axle ⟨Nat.le_of_ble_eq_true rfl, Nat.le_of_ble_eq_true rfl⟩ rfl rfl (ct_X8_axle l D ct a ms ah hi kp sl sv pd ln so po wr to p1 p2 (-6 : Int32) (-6 : Int32) k v1 hc) (z_pv hK hP [0, 1, 2, 3, 4, 5, 6, 7, 8] rfl 0 rfl rfl) hl.1 rfl rfl (Nat.le_of_ble_eq_true rfl) dX8_axleNow_7 ⟨Nat.le_refl _, Nat.le_refl _⟩) ?_
  exact zR_f hx hb hr hlocks dX8_axleNow_10 h

def f_X8_whyNot (k : Nat) (ms : Nat → Int32) (p1 : Int32) : Option (Int32) :=
  zb1 (f_X8_blocksOn k ms p1) fun v1 =>
  if v1 = 0 then
    some (1 : Int32)
  else
    zb1 (f_X8_hasCracked k ms p1) fun v2 =>
    if v2 = 0 then
      zb1 (f_X8_loadOf k ms p1) fun v3 =>
      zb1 (f_X8_ofLorryAt k p1 (2 : Int32)) fun v4 =>
      zg (zin v4 324) (zl (ms v4.toNatClampNeg) fun v5 =>
      if v3 ≤ v5 then
        zb1 (f_X8_axleNow k ms p1 (0 : Int32)) fun v6 =>
        zb1 (f_X8_ofLorryAt k p1 (0 : Int32)) fun v7 =>
        zg (zin v7 324) (zl (ms v7.toNatClampNeg) fun v8 =>
        zl (FP.i2f v8) fun v9 =>
        zl (Op.cmpValue (FP.fcmp v6 v9) CmpOp.l) fun v10 =>
        if v10 ≤ 0 then
          zb1 (f_X8_axleNow k ms p1 (1 : Int32)) fun v11 =>
          zb1 (f_X8_ofLorryAt k p1 (1 : Int32)) fun v12 =>
          zg (zin v12 324) (zl (ms v12.toNatClampNeg) fun v13 =>
          zl (FP.i2f v13) fun v14 =>
          zl (Op.cmpValue (FP.fcmp v11 v14) CmpOp.l) fun v15 =>
          if v15 ≤ 0 then
            some (0 : Int32)
          else
            some (5 : Int32))
        else
          some (4 : Int32))
      else
        some (3 : Int32))
    else
      some (2 : Int32)
set_option maxRecDepth 100000 in
set_option maxHeartbeats 4000000 in
theorem ct_X8_whyNot (l : Launch) (D : va_G) (ct a : Nat → Nat) (ms : Nat → Int32) (ah : Nat → Int32) (hi : Nat → Int32) (kp : Int32) (sl : Nat → Int32) (sv : Nat → Int32) (pd : Nat → Int32) (ln : Int32) (so : Nat → Int32) (po : Int32) (wr : Int32) (to : Nat → Int32) (p1 : Int32) (k : Nat) (r : Int32) (h : f_X8_whyNot k ms p1 = some r) : Met l yX8_whyNot (Cond.code yX8_whyNot cX8_whyNot 2 (some .int) :: zT) ({ frames := 4, cells := 0, slots := 0, locals := 94 } : Room) (va_Pc [.ref (a 30), .int p1] (zPR D (zTys ct) (wX8 ct a ms ah hi kp sl sv pd ln so po wr to))) (vp_Si (fun r' => r' = r)) 0 0 (fun _ => False) := by
  refine zMet (cc := cX8_whyNot) (maxL := 2) (ret := (some .int)) (av := [.ref (a 30), .int p1]) (by decide) (Nat.le_of_ble_eq_true rfl) (fun p e s m below meth c ls hx hb hr hml hts hown hlocks hin hB hl => ?_)
  have hl : lv_has ls 2 [(0, .ref (a 30)), (1, .int p1)] := hl
  have hown : s.vm.findClass RX8 = some m.cls := hown
  obtain ⟨hP, hK⟩ := hB
  rw [f_X8_whyNot] at h
  refine lv_aload_n hx hb dX8_whyNot_0 rfl (lv_at hl 0 rfl) ?_
  refine lv_iload_n hx hb dX8_whyNot_1 rfl (lv_at hl 1 rfl) ?_
  obtain ⟨v1, hc, h⟩ := zb1_s h
  refine zE_i (zrV (C := RX8) (As := [.int p1]) (rest := []) hx hb hml hown hts tw971 mv_X8_blocksOn ⟨Nat.le_of_ble_eq_true rfl, Nat.le_of_ble_eq_true rfl⟩ rfl rfl (ct_X8_blocksOn l D ct a ms ah hi kp sl sv pd ln so po wr to p1 k v1 hc) (z_pv hK hP [0, 1, 2, 3, 4, 5, 6, 7, 8] rfl 0 rfl rfl) hl.1 rfl rfl (Nat.le_of_ble_eq_true rfl) dX8_whyNot_2 ⟨Nat.le_refl _, Nat.le_refl _⟩) ?_
  refine zi_ne (tgt := 10) hx hb dX8_whyNot_5 (by decide) h (fun h => ?_) (fun h => ?_)
  · refine lv_aload_n hx hb dX8_whyNot_10 rfl (lv_at hl 0 rfl) ?_
    refine lv_iload_n hx hb dX8_whyNot_11 rfl (lv_at hl 1 rfl) ?_
    obtain ⟨v2, hc, h⟩ := zb1_s h
    refine zE_i (zrV (C := RX8) (As := [.int p1]) (rest := []) hx hb hml hown hts tw975 mv_X8_hasCracked ⟨Nat.le_of_ble_eq_true rfl, Nat.le_of_ble_eq_true rfl⟩ rfl rfl (ct_X8_hasCracked l D ct a ms ah hi kp sl sv pd ln so po wr to p1 k v2 hc) (z_pv hK hP [0, 1, 2, 3, 4, 5, 6, 7, 8] rfl 0 rfl rfl) hl.1 rfl rfl (Nat.le_of_ble_eq_true rfl) dX8_whyNot_12 ⟨Nat.le_refl _, Nat.le_refl _⟩) ?_
    refine zi_eq (tgt := 20) hx hb dX8_whyNot_15 (by decide) h (fun h => ?_) (fun h => ?_)
    · refine lv_aload_n hx hb dX8_whyNot_20 rfl (lv_at hl 0 rfl) ?_
      refine lv_iload_n hx hb dX8_whyNot_21 rfl (lv_at hl 1 rfl) ?_
      obtain ⟨v3, hc, h⟩ := zb1_s h
      refine zE_i (zrV (C := RX8) (As := [.int p1]) (rest := []) hx hb hml hown hts tw951 mv_X8_loadOf ⟨Nat.le_of_ble_eq_true rfl, Nat.le_of_ble_eq_true rfl⟩ rfl rfl (ct_X8_loadOf l D ct a ms ah hi kp sl sv pd ln so po wr to p1 k v3 hc) (z_pv hK hP [0, 1, 2, 3, 4, 5, 6, 7, 8] rfl 0 rfl rfl) hl.1 rfl rfl (Nat.le_of_ble_eq_true rfl) dX8_whyNot_22 ⟨Nat.le_refl _, Nat.le_refl _⟩) ?_
      refine lv_aload_n hx hb dX8_whyNot_25 rfl (lv_at hl 0 rfl) ?_
      refine z_get (C := RX8) (T := TX8) (N := 12) (ci := 7) hx hb hts zin_X8 hown hK.1 hP 0 0 rfl rfl (by decide) tw795 rfl rfl dX8_whyNot_26 ?_
      refine lv_iload_n hx hb dX8_whyNot_29 rfl (lv_at hl 1 rfl) ?_
      refine lv_iconst (v := (2 : Int32)) hx hb dX8_whyNot_30 (by decide) ?_
      obtain ⟨v4, hc, h⟩ := zb1_s h
      refine zE_i (zrS (As := [.int p1, .int (2 : Int32)]) (rest := [.ref (a 31), .int v3]) hx hb hml hown hts tw792 ms_X8_ofLorryAt ⟨Nat.le_of_ble_eq_true rfl, Nat.le_of_ble_eq_true rfl⟩ rfl rfl (ct_X8_ofLorryAt l p1 (2 : Int32) k v4 hc) z_p0 hl.1 rfl rfl (Nat.le_of_ble_eq_true rfl) dX8_whyNot_31 ⟨Nat.le_refl _, Nat.le_refl _⟩) ?_
      refine y_iald hx hb hK hP 1 0 rfl rfl h dX8_whyNot_34 (fun v5 h => ?_)
      refine zc_le (tgt := 40) hx hb dX8_whyNot_35 (by decide) h (fun h => ?_) (fun h => ?_)
      · refine lv_aload_n hx hb dX8_whyNot_40 rfl (lv_at hl 0 rfl) ?_
        refine lv_iload_n hx hb dX8_whyNot_41 rfl (lv_at hl 1 rfl) ?_
        refine lv_iconst (v := (0 : Int32)) hx hb dX8_whyNot_42 (by decide) ?_
        obtain ⟨v6, hc, h⟩ := zb1_s h
        refine zE_f (zrV (C := RX8) (As := [.int p1, .int (0 : Int32)]) (rest := []) hx hb hml hown hts tw979 mv_X8_axleNow ⟨Nat.le_of_ble_eq_true rfl, Nat.le_of_ble_eq_true rfl⟩ rfl rfl (ct_X8_axleNow l D ct a ms ah hi kp sl sv pd ln so po wr to p1 (0 : Int32) k v6 hc) (z_pv hK hP [0, 1, 2, 3, 4, 5, 6, 7, 8] rfl 0 rfl rfl) hl.1 rfl rfl (Nat.le_of_ble_eq_true rfl) dX8_whyNot_43 ⟨Nat.le_refl _, Nat.le_refl _⟩) ?_
        refine lv_aload_n hx hb dX8_whyNot_46 rfl (lv_at hl 0 rfl) ?_
        refine z_get (C := RX8) (T := TX8) (N := 12) (ci := 7) hx hb hts zin_X8 hown hK.1 hP 0 0 rfl rfl (by decide) tw795 rfl rfl dX8_whyNot_47 ?_
        refine lv_iload_n hx hb dX8_whyNot_50 rfl (lv_at hl 1 rfl) ?_
        refine lv_iconst (v := (0 : Int32)) hx hb dX8_whyNot_51 (by decide) ?_
        obtain ⟨v7, hc, h⟩ := zb1_s h
        refine zE_i (zrS (As := [.int p1, .int (0 : Int32)]) (rest := [.ref (a 31), .float v6]) hx hb hml hown hts tw792 ms_X8_ofLorryAt ⟨Nat.le_of_ble_eq_true rfl, Nat.le_of_ble_eq_true rfl⟩ rfl rfl (ct_X8_ofLorryAt l p1 (0 : Int32) k v7 hc) z_p0 hl.1 rfl rfl (Nat.le_of_ble_eq_true rfl) dX8_whyNot_52 ⟨Nat.le_refl _, Nat.le_refl _⟩) ?_
        refine y_iald hx hb hK hP 1 0 rfl rfl h dX8_whyNot_55 (fun v8 h => ?_)
        refine o_i2f hx hb dX8_whyNot_56 h (fun v9 h => ?_)
        refine o_fcmp hx hb dX8_whyNot_57 h (fun v10 h => ?_)
        refine zi_le (tgt := 65) hx hb dX8_whyNot_58 (by decide) h (fun h => ?_) (fun h => ?_)
        · refine lv_aload_n hx hb dX8_whyNot_65 rfl (lv_at hl 0 rfl) ?_
          refine lv_iload_n hx hb dX8_whyNot_66 rfl (lv_at hl 1 rfl) ?_
          refine lv_iconst (v := (1 : Int32)) hx hb dX8_whyNot_67 (by decide) ?_
          obtain ⟨v11, hc, h⟩ := zb1_s h
          refine zE_f (zrV (C := RX8) (As := [.int p1, .int (1 : Int32)]) (rest := []) hx hb hml hown hts tw979 mv_X8_axleNow ⟨Nat.le_of_ble_eq_true rfl, Nat.le_of_ble_eq_true rfl⟩ rfl rfl (ct_X8_axleNow l D ct a ms ah hi kp sl sv pd ln so po wr to p1 (1 : Int32) k v11 hc) (z_pv hK hP [0, 1, 2, 3, 4, 5, 6, 7, 8] rfl 0 rfl rfl) hl.1 rfl rfl (Nat.le_of_ble_eq_true rfl) dX8_whyNot_68 ⟨Nat.le_refl _, Nat.le_refl _⟩) ?_
          refine lv_aload_n hx hb dX8_whyNot_71 rfl (lv_at hl 0 rfl) ?_
          refine z_get (C := RX8) (T := TX8) (N := 12) (ci := 7) hx hb hts zin_X8 hown hK.1 hP 0 0 rfl rfl (by decide) tw795 rfl rfl dX8_whyNot_72 ?_
          refine lv_iload_n hx hb dX8_whyNot_75 rfl (lv_at hl 1 rfl) ?_
          refine lv_iconst (v := (1 : Int32)) hx hb dX8_whyNot_76 (by decide) ?_
          obtain ⟨v12, hc, h⟩ := zb1_s h
          refine zE_i (zrS (As := [.int p1, .int (1 : Int32)]) (rest := [.ref (a 31), .float v11]) hx hb hml hown hts tw792 ms_X8_ofLorryAt ⟨Nat.le_of_ble_eq_true rfl, Nat.le_of_ble_eq_true rfl⟩ rfl rfl (ct_X8_ofLorryAt l p1 (1 : Int32) k v12 hc) z_p0 hl.1 rfl rfl (Nat.le_of_ble_eq_true rfl) dX8_whyNot_77 ⟨Nat.le_refl _, Nat.le_refl _⟩) ?_
          refine y_iald hx hb hK hP 1 0 rfl rfl h dX8_whyNot_80 (fun v13 h => ?_)
          refine o_i2f hx hb dX8_whyNot_81 h (fun v14 h => ?_)
          refine o_fcmp hx hb dX8_whyNot_82 h (fun v15 h => ?_)
          refine zi_le (tgt := 90) hx hb dX8_whyNot_83 (by decide) h (fun h => ?_) (fun h => ?_)
          · refine lv_iconst (v := (0 : Int32)) hx hb dX8_whyNot_90 (by decide) ?_
            exact zR_i hx hb hr hlocks dX8_whyNot_91 h
          · refine lv_iconst (v := (5 : Int32)) hx hb dX8_whyNot_86 (by decide) ?_
            refine lv_goto (tgt := 91) hx hb dX8_whyNot_87 (by decide) ?_
            exact zR_i hx hb hr hlocks dX8_whyNot_91 h
        · refine lv_iconst (v := (4 : Int32)) hx hb dX8_whyNot_61 (by decide) ?_
          refine lv_goto (tgt := 91) hx hb dX8_whyNot_62 (by decide) ?_
          exact zR_i hx hb hr hlocks dX8_whyNot_91 h
      · refine lv_iconst (v := (3 : Int32)) hx hb dX8_whyNot_38 (by decide) ?_
        exact zR_i hx hb hr hlocks dX8_whyNot_39 h
    · refine lv_iconst (v := (2 : Int32)) hx hb dX8_whyNot_18 (by decide) ?_
      exact zR_i hx hb hr hlocks dX8_whyNot_19 h
  · refine lv_iconst (v := (1 : Int32)) hx hb dX8_whyNot_8 (by decide) ?_
    exact zR_i hx hb hr hlocks dX8_whyNot_9 h

def f_X8_delivers_b40 (k : Nat) (p1 : Int32)  (ms_ : Nat → Int32) (x2 : Int32) (y0 : Int32) : Option (Int32 × (Nat → Int32)) :=
  zb1 (f_X8_at k p1 (4 : Int32)) fun v8 =>
  zg (zin v8 324) (zl (upd ms_ v8.toNatClampNeg (3 : Int32)) fun ms9 =>
  zb1 (f_X8_at k p1 (8 : Int32)) fun v10 =>
  zg (zin v10 324) (zl (upd ms9 v10.toNatClampNeg (-6 : Int32)) fun ms11 =>
  zl (ms11 10) fun v12 =>
  zb1 (f_X8_weight k ms11 p1) fun v13 =>
  zl (v12 + v13) fun v14 =>
  zl (upd ms11 10 v14) fun ms15 =>
  if x2 = (-6 : Int32) then
    some (y0, ms15)
  else
    zb1 (f_X8_ofOrderAt k x2 (3 : Int32)) fun v16 =>
    zg (zin v16 324) (zl (upd ms15 v16.toNatClampNeg (2 : Int32)) fun ms17 =>
    zb1 (f_X8_ofOrderAt k x2 (5 : Int32)) fun v18 =>
    zg (zin v18 324) (zl (upd ms17 v18.toNatClampNeg y0) fun ms19 =>
    some (y0, ms19)))))
def f_X8_delivers (k : Nat) (ms : Nat → Int32) (p1 : Int32) : Option (Int32 × (Nat → Int32)) :=
  zb1 (f_X8_at k p1 (7 : Int32)) fun v1 =>
  zg (zin v1 324) (zl (ms v1.toNatClampNeg) fun v2 =>
  if v2 = (-6 : Int32) then
    f_X8_delivers_b40 k p1 ms v2 (0 : Int32)
  else
    zl (ms 1) fun v3 =>
    zb1 (f_X8_weight k ms p1) fun v4 =>
    zl (v4 + (99 : Int32)) fun v5 =>
    zl (v5 / (100 : Int32)) fun v6 =>
    zl (v3 * v6) fun v7 =>
    f_X8_delivers_b40 k p1 ms v2 v7)
set_option maxRecDepth 100000 in
set_option maxHeartbeats 4000000 in
theorem ct_X8_delivers (l : Launch) (D : va_G) (ct a : Nat → Nat) (ms : Nat → Int32) (ah : Nat → Int32) (hi : Nat → Int32) (kp : Int32) (sl : Nat → Int32) (sv : Nat → Int32) (pd : Nat → Int32) (ln : Int32) (so : Nat → Int32) (po : Int32) (wr : Int32) (to : Nat → Int32) (sz : Nat) (p1 : Int32) (k : Nat) (r : Int32) (ms' : Nat → Int32) (h : f_X8_delivers k ms p1 = some (r, ms')) : Met l yX8_delivers (Cond.code yX8_delivers cX8_delivers 4 (some .int) :: zT) ({ frames := 2, cells := 0, slots := 0, locals := 42 } : Room) (va_Pc [.ref (a 30), .int p1] (zPW D (zTys ct) (wX8 ct a ms ah hi kp sl sv pd ln so po wr to) sz)) (va_Qi (fun r' (_ : Unit) => r' = r) (zQW D (wX8 ct a ms ah hi kp sl sv pd ln so po wr to) sz (wX8 ct a ms' ah hi kp sl sv pd ln so po wr to)) (va_A (wX8 ct a ms ah hi kp sl sv pd ln so po wr to) sz)) 0 0 (va_A (wX8 ct a ms ah hi kp sl sv pd ln so po wr to) sz) := by
  refine zMet (cc := cX8_delivers) (maxL := 4) (ret := (some .int)) (av := [.ref (a 30), .int p1]) (by decide) (Nat.le_of_ble_eq_true rfl) (fun p e s m below meth c ls hx hb hr hml hts hown hlocks hin hB hl => ?_)
  have hl : lv_has ls 4 [(0, .ref (a 30)), (1, .int p1)] := hl
  have hown : s.vm.findClass RX8 = some m.cls := hown
  obtain ⟨hsz, hP, hK, hD0⟩ := hB
  subst hsz
  have hD := hD0.self (sz := s.heap.size)
  obtain ⟨A, hAe⟩ : ∃ A, A = va_A (wX8 ct a ms ah hi kp sl sv pd ln so po wr to) s.heap.size := ⟨_, rfl⟩
  rw [← hAe] at hD
  have hA : ∀ q : Nat, s.heap.size ≤ q → A q := fun q h => by rw [hAe]; exact Or.inr h
  have hS : va_S A s.heap s.heap [] := va_S.rf
  have B40 : ∀ (ms_ : Nat → Int32) (x2 : Int32) (y0 : Int32), f_X8_delivers_b40 k p1 ms_ x2 y0 = some (r, ms') → ∀ (H : Heap) (locs : List Loc), va_P D vwCl (wX8 ct a ms_ ah hi kp sl sv pd ln so po wr to) H → va_D A (wX8 ct a ms_ ah hi kp sl sv pd ln so po wr to) → va_S A s.heap H locs → ∀ (ls : Array Slot), lv_has ls 4 [(0, .ref (a 30)), (1, .int p1), (2, .int x2)] → W p l e ({ frames := 2, cells := 0, slots := 0, locals := 42 } : Room) s m ([.ref (a 30), .int p1] : List Value).toArray below meth c H locs 0 0 (MQ below (va_Qi (fun r' (_ : Unit) => r' = r) (zQW D (wX8 ct a ms ah hi kp sl sv pd ln so po wr to) s.heap.size (wX8 ct a ms' ah hi kp sl sv pd ln so po wr to)) (va_A (wX8 ct a ms ah hi kp sl sv pd ln so po wr to) s.heap.size)) ([.ref (a 30), .int p1] : List Value).toArray s 0 0 (va_A (wX8 ct a ms ah hi kp sl sv pd ln so po wr to) s.heap.size)) (F0 m 40 ls [.int y0]) := by
    intro ms_ x2 y0 h H locs hP hD hS ls hl
    rw [f_X8_delivers_b40] at h
    refine lv_istore_n (lv' := [(3, .int y0), (0, .ref (a 30)), (1, .int p1), (2, .int x2)]) hx hb dX8_delivers_40 rfl hl (by decide) rfl (fun ls hl => ?_)
    refine lv_aload_n hx hb dX8_delivers_41 rfl (lv_at hl 1 rfl) ?_
    refine z_get (C := RX8) (T := TX8) (N := 12) (ci := 7) hx hb hts zin_X8 hown hK.1 hP 0 0 rfl rfl (by decide) tw795 rfl rfl dX8_delivers_42 ?_
    refine lv_iload_n hx hb dX8_delivers_45 rfl (lv_at hl 2 rfl) ?_
    refine lv_iconst (v := (4 : Int32)) hx hb dX8_delivers_46 (by decide) ?_
    obtain ⟨v8, hc, h⟩ := zb1_s h
    refine zE_i (zrS (As := [.int p1, .int (4 : Int32)]) (rest := [.ref (a 31)]) hx hb hml hown hts tw874 ms_X8_at ⟨Nat.le_of_ble_eq_true rfl, Nat.le_of_ble_eq_true rfl⟩ rfl rfl (ct_X8_at l p1 (4 : Int32) k v8 hc) z_p0 hl.1 rfl rfl (Nat.le_of_ble_eq_true rfl) dX8_delivers_47 ⟨Nat.le_refl _, Nat.le_refl _⟩) ?_
    refine lv_iconst (v := (3 : Int32)) hx hb dX8_delivers_50 (by decide) ?_
    refine z_iast hx hb hK.1 hP hD hS 1 0 rfl rfl h dX8_delivers_51 (fun ms9 H locs h hP hD hS => ?_)
    have hP : va_P D vwCl (wX8 ct a ms9 ah hi kp sl sv pd ln so po wr to) H := hP
    have hD : va_D A (wX8 ct a ms9 ah hi kp sl sv pd ln so po wr to) := hD
    refine lv_aload_n hx hb dX8_delivers_52 rfl (lv_at hl 1 rfl) ?_
    refine z_get (C := RX8) (T := TX8) (N := 12) (ci := 7) hx hb hts zin_X8 hown hK.1 hP 0 0 rfl rfl (by decide) tw795 rfl rfl dX8_delivers_53 ?_
    refine lv_iload_n hx hb dX8_delivers_56 rfl (lv_at hl 2 rfl) ?_
    refine lv_bipush (v := (8 : Int32)) hx hb dX8_delivers_57 (by decide) ?_
    obtain ⟨v10, hc, h⟩ := zb1_s h
    refine zE_i (zrS (As := [.int p1, .int (8 : Int32)]) (rest := [.ref (a 31)]) hx hb hml hown hts tw874 ms_X8_at ⟨Nat.le_of_ble_eq_true rfl, Nat.le_of_ble_eq_true rfl⟩ rfl rfl (ct_X8_at l p1 (8 : Int32) k v10 hc) z_p0 hl.1 rfl rfl (Nat.le_of_ble_eq_true rfl) dX8_delivers_59 ⟨Nat.le_refl _, Nat.le_refl _⟩) ?_
    refine lv_bipush (v := (-6 : Int32)) hx hb dX8_delivers_62 (by decide) ?_
    refine z_iast hx hb hK.1 hP hD hS 1 0 rfl rfl h dX8_delivers_64 (fun ms11 H locs h hP hD hS => ?_)
    have hP : va_P D vwCl (wX8 ct a ms11 ah hi kp sl sv pd ln so po wr to) H := hP
    have hD : va_D A (wX8 ct a ms11 ah hi kp sl sv pd ln so po wr to) := hD
    refine lv_aload_n hx hb dX8_delivers_65 rfl (lv_at hl 1 rfl) ?_
    refine z_get (C := RX8) (T := TX8) (N := 12) (ci := 7) hx hb hts zin_X8 hown hK.1 hP 0 0 rfl rfl (by decide) tw795 rfl rfl dX8_delivers_66 ?_
    refine lv_bipush (v := (10 : Int32)) hx hb dX8_delivers_69 (by decide) ?_
    refine lv_dup2_11 hx hb dX8_delivers_71 rfl rfl ?_
    refine y_ialdc hx hb hK hP 1 0 10 rfl rfl (by decide) (by decide) h dX8_delivers_72 (fun v12 h => ?_)
    refine lv_aload_n hx hb dX8_delivers_73 rfl (lv_at hl 1 rfl) ?_
    refine lv_iload_n hx hb dX8_delivers_74 rfl (lv_at hl 2 rfl) ?_
    obtain ⟨v13, hc, h⟩ := zb1_s h
    refine zE_i (zrV (C := RX8) (As := [.int p1]) (rest := [.int v12, .int (10 : Int32), .ref (a 31)]) hx hb hml hown hts tw877 mv_X8_weight ⟨Nat.le_of_ble_eq_true rfl, Nat.le_of_ble_eq_true rfl⟩ rfl rfl (ct_X8_weight l D ct a ms11 ah hi kp sl sv pd ln so po wr to p1 k v13 hc) (z_pv hK hP [0, 1, 2, 3, 4, 5, 6, 7, 8] rfl 0 rfl rfl) hl.1 rfl rfl (Nat.le_of_ble_eq_true rfl) dX8_delivers_75 ⟨Nat.le_refl _, Nat.le_refl _⟩) ?_
    refine o_iadd hx hb dX8_delivers_78 h (fun v14 h => ?_)
    refine z_iastc hx hb hK.1 hP hD hS 1 0 10 rfl rfl (by decide) (by decide) h dX8_delivers_79 (fun ms15 H locs h hP hD hS => ?_)
    have hP : va_P D vwCl (wX8 ct a ms15 ah hi kp sl sv pd ln so po wr to) H := hP
    have hD : va_D A (wX8 ct a ms15 ah hi kp sl sv pd ln so po wr to) := hD
    refine lv_iload_n hx hb dX8_delivers_80 rfl (lv_at hl 3 rfl) ?_
    refine lv_bipush (v := (-6 : Int32)) hx hb dX8_delivers_81 (by decide) ?_
    refine zc_eq (tgt := 108) hx hb dX8_delivers_83 (by decide) h (fun h => ?_) (fun h => ?_)
    · refine lv_iload_n hx hb dX8_delivers_108 rfl (lv_at hl 0 rfl) ?_
      cases h
      exact zX_i hx hb hr hlocks hP hD hS hAe dX8_delivers_109 rfl
    · refine lv_aload_n hx hb dX8_delivers_86 rfl (lv_at hl 1 rfl) ?_
      refine z_get (C := RX8) (T := TX8) (N := 12) (ci := 7) hx hb hts zin_X8 hown hK.1 hP 0 0 rfl rfl (by decide) tw795 rfl rfl dX8_delivers_87 ?_
      refine lv_iload_n hx hb dX8_delivers_90 rfl (lv_at hl 3 rfl) ?_
      refine lv_iconst (v := (3 : Int32)) hx hb dX8_delivers_91 (by decide) ?_
      obtain ⟨v16, hc, h⟩ := zb1_s h
      refine zE_i (zrS (As := [.int x2, .int (3 : Int32)]) (rest := [.ref (a 31)]) hx hb hml hown hts tw917 ms_X8_ofOrderAt ⟨Nat.le_of_ble_eq_true rfl, Nat.le_of_ble_eq_true rfl⟩ rfl rfl (ct_X8_ofOrderAt l x2 (3 : Int32) k v16 hc) z_p0 hl.1 rfl rfl (Nat.le_of_ble_eq_true rfl) dX8_delivers_92 ⟨Nat.le_refl _, Nat.le_refl _⟩) ?_
      refine lv_iconst (v := (2 : Int32)) hx hb dX8_delivers_95 (by decide) ?_
      refine z_iast hx hb hK.1 hP hD hS 1 0 rfl rfl h dX8_delivers_96 (fun ms17 H locs h hP hD hS => ?_)
      have hP : va_P D vwCl (wX8 ct a ms17 ah hi kp sl sv pd ln so po wr to) H := hP
      have hD : va_D A (wX8 ct a ms17 ah hi kp sl sv pd ln so po wr to) := hD
      refine lv_aload_n hx hb dX8_delivers_97 rfl (lv_at hl 1 rfl) ?_
      refine z_get (C := RX8) (T := TX8) (N := 12) (ci := 7) hx hb hts zin_X8 hown hK.1 hP 0 0 rfl rfl (by decide) tw795 rfl rfl dX8_delivers_98 ?_
      refine lv_iload_n hx hb dX8_delivers_101 rfl (lv_at hl 3 rfl) ?_
      refine lv_iconst (v := (5 : Int32)) hx hb dX8_delivers_102 (by decide) ?_
      obtain ⟨v18, hc, h⟩ := zb1_s h
      refine zE_i (zrS (As := [.int x2, .int (5 : Int32)]) (rest := [.ref (a 31)]) hx hb hml hown hts tw917 ms_X8_ofOrderAt ⟨Nat.le_of_ble_eq_true rfl, Nat.le_of_ble_eq_true rfl⟩ rfl rfl (ct_X8_ofOrderAt l x2 (5 : Int32) k v18 hc) z_p0 hl.1 rfl rfl (Nat.le_of_ble_eq_true rfl) dX8_delivers_103 ⟨Nat.le_refl _, Nat.le_refl _⟩) ?_
      refine lv_iload_n hx hb dX8_delivers_106 rfl (lv_at hl 0 rfl) ?_
      refine z_iast hx hb hK.1 hP hD hS 1 0 rfl rfl h dX8_delivers_107 (fun ms19 H locs h hP hD hS => ?_)
      have hP : va_P D vwCl (wX8 ct a ms19 ah hi kp sl sv pd ln so po wr to) H := hP
      have hD : va_D A (wX8 ct a ms19 ah hi kp sl sv pd ln so po wr to) := hD
      refine lv_iload_n hx hb dX8_delivers_108 rfl (lv_at hl 0 rfl) ?_
      cases h
      exact zX_i hx hb hr hlocks hP hD hS hAe dX8_delivers_109 rfl
  rw [f_X8_delivers] at h
  refine lv_aload_n hx hb dX8_delivers_0 rfl (lv_at hl 0 rfl) ?_
  refine z_get (C := RX8) (T := TX8) (N := 12) (ci := 7) hx hb hts zin_X8 hown hK.1 hP 0 0 rfl rfl (by decide) tw795 rfl rfl dX8_delivers_1 ?_
  refine lv_iload_n hx hb dX8_delivers_4 rfl (lv_at hl 1 rfl) ?_
  refine lv_bipush (v := (7 : Int32)) hx hb dX8_delivers_5 (by decide) ?_
  obtain ⟨v1, hc, h⟩ := zb1_s h
  refine zE_i (zrS (As := [.int p1, .int (7 : Int32)]) (rest := [.ref (a 31)]) hx hb hml hown hts tw874 ms_X8_at ⟨Nat.le_of_ble_eq_true rfl, Nat.le_of_ble_eq_true rfl⟩ rfl rfl (ct_X8_at l p1 (7 : Int32) k v1 hc) z_p0 hl.1 rfl rfl (Nat.le_of_ble_eq_true rfl) dX8_delivers_7 ⟨Nat.le_refl _, Nat.le_refl _⟩) ?_
  refine y_iald hx hb hK hP 1 0 rfl rfl h dX8_delivers_10 (fun v2 h => ?_)
  refine lv_istore_n (lv' := [(2, .int v2), (0, .ref (a 30)), (1, .int p1)]) hx hb dX8_delivers_11 rfl hl (by decide) rfl (fun ls hl => ?_)
  refine lv_iload_n hx hb dX8_delivers_12 rfl (lv_at hl 0 rfl) ?_
  refine lv_bipush (v := (-6 : Int32)) hx hb dX8_delivers_13 (by decide) ?_
  refine zc_ne (tgt := 22) hx hb dX8_delivers_15 (by decide) h (fun h => ?_) (fun h => ?_)
  · refine lv_aload_n hx hb dX8_delivers_22 rfl (lv_at hl 1 rfl) ?_
    refine z_get (C := RX8) (T := TX8) (N := 12) (ci := 7) hx hb hts zin_X8 hown hK.1 hP 0 0 rfl rfl (by decide) tw795 rfl rfl dX8_delivers_23 ?_
    refine lv_iconst (v := (1 : Int32)) hx hb dX8_delivers_26 (by decide) ?_
    refine y_ialdc hx hb hK hP 1 0 1 rfl rfl (by decide) (by decide) h dX8_delivers_27 (fun v3 h => ?_)
    refine lv_aload_n hx hb dX8_delivers_28 rfl (lv_at hl 1 rfl) ?_
    refine lv_iload_n hx hb dX8_delivers_29 rfl (lv_at hl 2 rfl) ?_
    obtain ⟨v4, hc, h⟩ := zb1_s h
    refine zE_i (zrV (C := RX8) (As := [.int p1]) (rest := [.int v3]) hx hb hml hown hts tw877 mv_X8_weight ⟨Nat.le_of_ble_eq_true rfl, Nat.le_of_ble_eq_true rfl⟩ rfl rfl (ct_X8_weight l D ct a ms ah hi kp sl sv pd ln so po wr to p1 k v4 hc) (z_pv hK hP [0, 1, 2, 3, 4, 5, 6, 7, 8] rfl 0 rfl rfl) hl.1 rfl rfl (Nat.le_of_ble_eq_true rfl) dX8_delivers_30 ⟨Nat.le_refl _, Nat.le_refl _⟩) ?_
    refine lv_bipush (v := (99 : Int32)) hx hb dX8_delivers_33 (by decide) ?_
    refine o_iadd hx hb dX8_delivers_35 h (fun v5 h => ?_)
    refine lv_bipush (v := (100 : Int32)) hx hb dX8_delivers_36 (by decide) ?_
    refine o_idiv hx hb dX8_delivers_38 (by decide) h (fun v6 h => ?_)
    refine o_imul hx hb dX8_delivers_39 h (fun v7 h => ?_)
    exact B40 ms v2 v7 h _ _ hP hD hS ls (lv_sub hl [1, 2, 0] rfl)
  · refine lv_iconst (v := (0 : Int32)) hx hb dX8_delivers_18 (by decide) ?_
    refine lv_goto (tgt := 40) hx hb dX8_delivers_19 (by decide) ?_
    exact B40 ms v2 (0 : Int32) h _ _ hP hD hS ls (lv_sub hl [1, 2, 0] rfl)

def f_X8_leaves_b55 (k : Nat) (p1 : Int32) (k24 : (Nat → Int32) → Int32 → Int32 → Option (Int32 × (Nat → Int32))) (ms_ : Nat → Int32) (x3 : Int32) (y0 : Int32) (y1 : Int32) : Option (Int32 × (Nat → Int32)) :=
  zl (y1 + y0) fun v13 =>
  zl (x3 + (1 : Int32)) fun v14 =>
  k24 ms_ v13 v14
def f_X8_leaves_b24 (k : Nat) (p1 : Int32)  : Nat → (Nat → Int32) → Int32 → Int32 → Option (Int32 × (Nat → Int32))
  | 0, _, _, _ => none
  | n + 1, ms_, x2, x3 =>
    if (5 : Int32) ≤ x3 then
      zl (ms_ 11) fun v3 =>
      zl (v3 + x2) fun v4 =>
      zl (upd ms_ 11 v4) fun ms5 =>
      zb1 (f_X8_ofLorryAt k p1 (3 : Int32)) fun v6 =>
      zg (zin v6 324) (zl (ms5 v6.toNatClampNeg) fun v7 =>
      zl (v7 + (1 : Int32)) fun v8 =>
      zg (zin v6 324) (zl (upd ms5 v6.toNatClampNeg v8) fun ms9 =>
      some (x2, ms9)))
    else
      zb1 (f_X8_blockAt k ms_ p1 x3) fun v10 =>
      if v10 = (-6 : Int32) then
        f_X8_leaves_b55 k p1 (f_X8_leaves_b24 k p1 n) ms_ x3 (0 : Int32) x2
      else
        zb2 (f_X8_delivers k ms_ v10) fun v11 ms12 =>
        f_X8_leaves_b55 k p1 (f_X8_leaves_b24 k p1 n) ms12 x3 v11 x2
def f_X8_leaves (k : Nat) (ms : Nat → Int32) (p1 : Int32) : Option (Int32 × (Nat → Int32)) :=
  zb1 (f_X8_isLorry k p1) fun v1 =>
  if v1 = 0 then
    some ((-1 : Int32), ms)
  else
    zb1 (f_X8_whyNot k ms p1) fun v2 =>
    if v2 ≤ 0 then
      f_X8_leaves_b24 k p1 k ms (0 : Int32) (0 : Int32)
    else
      some ((-5 : Int32), ms)
set_option maxRecDepth 100000 in
set_option maxHeartbeats 4000000 in
theorem ct_X8_leaves (l : Launch) (D : va_G) (ct a : Nat → Nat) (ms : Nat → Int32) (ah : Nat → Int32) (hi : Nat → Int32) (kp : Int32) (sl : Nat → Int32) (sv : Nat → Int32) (pd : Nat → Int32) (ln : Int32) (so : Nat → Int32) (po : Int32) (wr : Int32) (to : Nat → Int32) (sz : Nat) (p1 : Int32) (k : Nat) (r : Int32) (ms' : Nat → Int32) (h : f_X8_leaves k ms p1 = some (r, ms')) : Met l yX8_leaves (Cond.code yX8_leaves cX8_leaves 5 (some .int) :: zT) ({ frames := 5, cells := 0, slots := 0, locals := 115 } : Room) (va_Pc [.ref (a 30), .int p1] (zPW D (zTys ct) (wX8 ct a ms ah hi kp sl sv pd ln so po wr to) sz)) (va_Qi (fun r' (_ : Unit) => r' = r) (zQW D (wX8 ct a ms ah hi kp sl sv pd ln so po wr to) sz (wX8 ct a ms' ah hi kp sl sv pd ln so po wr to)) (va_A (wX8 ct a ms ah hi kp sl sv pd ln so po wr to) sz)) 0 0 (va_A (wX8 ct a ms ah hi kp sl sv pd ln so po wr to) sz) := by
  refine zMet (cc := cX8_leaves) (maxL := 5) (ret := (some .int)) (av := [.ref (a 30), .int p1]) (by decide) (Nat.le_of_ble_eq_true rfl) (fun p e s m below meth c ls hx hb hr hml hts hown hlocks hin hB hl => ?_)
  have hl : lv_has ls 5 [(0, .ref (a 30)), (1, .int p1)] := hl
  have hown : s.vm.findClass RX8 = some m.cls := hown
  obtain ⟨hsz, hP, hK, hD0⟩ := hB
  subst hsz
  have hD := hD0.self (sz := s.heap.size)
  obtain ⟨A, hAe⟩ : ∃ A, A = va_A (wX8 ct a ms ah hi kp sl sv pd ln so po wr to) s.heap.size := ⟨_, rfl⟩
  rw [← hAe] at hD
  have hA : ∀ q : Nat, s.heap.size ≤ q → A q := fun q h => by rw [hAe]; exact Or.inr h
  have hS : va_S A s.heap s.heap [] := va_S.rf
  have B55 : ∀ (k24 : (Nat → Int32) → Int32 → Int32 → Option (Int32 × (Nat → Int32))) (hk24 : ∀ (ms_ : Nat → Int32) (x2 : Int32) (x3 : Int32), k24 ms_ x2 x3 = some (r, ms') → ∀ (H : Heap) (locs : List Loc), va_P D vwCl (wX8 ct a ms_ ah hi kp sl sv pd ln so po wr to) H → va_D A (wX8 ct a ms_ ah hi kp sl sv pd ln so po wr to) → va_S A s.heap H locs → ∀ (ls : Array Slot), lv_has ls 5 [(0, .ref (a 30)), (1, .int p1), (2, .int x2), (3, .int x3)] → W p l e ({ frames := 5, cells := 0, slots := 0, locals := 115 } : Room) s m ([.ref (a 30), .int p1] : List Value).toArray below meth c H locs 0 0 (MQ below (va_Qi (fun r' (_ : Unit) => r' = r) (zQW D (wX8 ct a ms ah hi kp sl sv pd ln so po wr to) s.heap.size (wX8 ct a ms' ah hi kp sl sv pd ln so po wr to)) (va_A (wX8 ct a ms ah hi kp sl sv pd ln so po wr to) s.heap.size)) ([.ref (a 30), .int p1] : List Value).toArray s 0 0 (va_A (wX8 ct a ms ah hi kp sl sv pd ln so po wr to) s.heap.size)) (F0 m 24 ls [])), ∀ (ms_ : Nat → Int32) (x3 : Int32) (y0 : Int32) (y1 : Int32), f_X8_leaves_b55 k p1 k24 ms_ x3 y0 y1 = some (r, ms') → ∀ (H : Heap) (locs : List Loc), va_P D vwCl (wX8 ct a ms_ ah hi kp sl sv pd ln so po wr to) H → va_D A (wX8 ct a ms_ ah hi kp sl sv pd ln so po wr to) → va_S A s.heap H locs → ∀ (ls : Array Slot), lv_has ls 5 [(0, .ref (a 30)), (1, .int p1), (3, .int x3)] → W p l e ({ frames := 5, cells := 0, slots := 0, locals := 115 } : Room) s m ([.ref (a 30), .int p1] : List Value).toArray below meth c H locs 0 0 (MQ below (va_Qi (fun r' (_ : Unit) => r' = r) (zQW D (wX8 ct a ms ah hi kp sl sv pd ln so po wr to) s.heap.size (wX8 ct a ms' ah hi kp sl sv pd ln so po wr to)) (va_A (wX8 ct a ms ah hi kp sl sv pd ln so po wr to) s.heap.size)) ([.ref (a 30), .int p1] : List Value).toArray s 0 0 (va_A (wX8 ct a ms ah hi kp sl sv pd ln so po wr to) s.heap.size)) (F0 m 55 ls [.int y0, .int y1]) := by
    intro k24 hk24
    intro ms_ x3 y0 y1 h H locs hP hD hS ls hl
    rw [f_X8_leaves_b55] at h
    refine o_iadd hx hb dX8_leaves_55 h (fun v13 h => ?_)
    refine lv_istore_n (lv' := [(2, .int v13), (0, .ref (a 30)), (1, .int p1), (3, .int x3)]) hx hb dX8_leaves_56 rfl hl (by decide) rfl (fun ls hl => ?_)
    refine o_nm h (fun v14 ey h => ?_)
    refine lv_iinc (v := v14) (lv' := [(3, .int v14), (2, .int v13), (0, .ref (a 30)), (1, .int p1)]) hx hb dX8_leaves_57 hl (k := 3) rfl (Eq.trans rfl ey) (by decide) rfl (fun ls hl => ?_)
    refine lv_goto (tgt := 24) hx hb dX8_leaves_60 (by decide) ?_
    exact hk24 ms_ v13 v14 h _ _ hP hD hS ls (lv_sub hl [2, 3, 1, 0] rfl)
  have B24 : ∀ (n : Nat), ∀ (ms_ : Nat → Int32) (x2 : Int32) (x3 : Int32), f_X8_leaves_b24 k p1 n ms_ x2 x3 = some (r, ms') → ∀ (H : Heap) (locs : List Loc), va_P D vwCl (wX8 ct a ms_ ah hi kp sl sv pd ln so po wr to) H → va_D A (wX8 ct a ms_ ah hi kp sl sv pd ln so po wr to) → va_S A s.heap H locs → ∀ (ls : Array Slot), lv_has ls 5 [(0, .ref (a 30)), (1, .int p1), (2, .int x2), (3, .int x3)] → W p l e ({ frames := 5, cells := 0, slots := 0, locals := 115 } : Room) s m ([.ref (a 30), .int p1] : List Value).toArray below meth c H locs 0 0 (MQ below (va_Qi (fun r' (_ : Unit) => r' = r) (zQW D (wX8 ct a ms ah hi kp sl sv pd ln so po wr to) s.heap.size (wX8 ct a ms' ah hi kp sl sv pd ln so po wr to)) (va_A (wX8 ct a ms ah hi kp sl sv pd ln so po wr to) s.heap.size)) ([.ref (a 30), .int p1] : List Value).toArray s 0 0 (va_A (wX8 ct a ms ah hi kp sl sv pd ln so po wr to) s.heap.size)) (F0 m 24 ls []) := by
    intro n
    induction n with
    | zero => intro ms_ x2 x3 h; exact absurd h (by rw [f_X8_leaves_b24]; exact fun q => nomatch q)
    | succ n ih24 =>
      intro ms_ x2 x3 h H locs hP hD hS ls hl
      rw [f_X8_leaves_b24] at h
      refine lv_iload_n hx hb dX8_leaves_24 rfl (lv_at hl 3 rfl) ?_
      refine lv_iconst (v := (5 : Int32)) hx hb dX8_leaves_25 (by decide) ?_
      refine zc_ge (tgt := 63) hx hb dX8_leaves_26 (by decide) h (fun h => ?_) (fun h => ?_)
      · refine lv_aload_n hx hb dX8_leaves_63 rfl (lv_at hl 0 rfl) ?_
        refine z_get (C := RX8) (T := TX8) (N := 12) (ci := 7) hx hb hts zin_X8 hown hK.1 hP 0 0 rfl rfl (by decide) tw795 rfl rfl dX8_leaves_64 ?_
        refine lv_bipush (v := (11 : Int32)) hx hb dX8_leaves_67 (by decide) ?_
        refine lv_dup2_11 hx hb dX8_leaves_69 rfl rfl ?_
        refine y_ialdc hx hb hK hP 1 0 11 rfl rfl (by decide) (by decide) h dX8_leaves_70 (fun v3 h => ?_)
        refine lv_iload_n hx hb dX8_leaves_71 rfl (lv_at hl 2 rfl) ?_
        refine o_iadd hx hb dX8_leaves_72 h (fun v4 h => ?_)
        refine z_iastc hx hb hK.1 hP hD hS 1 0 11 rfl rfl (by decide) (by decide) h dX8_leaves_73 (fun ms5 H locs h hP hD hS => ?_)
        have hP : va_P D vwCl (wX8 ct a ms5 ah hi kp sl sv pd ln so po wr to) H := hP
        have hD : va_D A (wX8 ct a ms5 ah hi kp sl sv pd ln so po wr to) := hD
        refine lv_aload_n hx hb dX8_leaves_74 rfl (lv_at hl 0 rfl) ?_
        refine z_get (C := RX8) (T := TX8) (N := 12) (ci := 7) hx hb hts zin_X8 hown hK.1 hP 0 0 rfl rfl (by decide) tw795 rfl rfl dX8_leaves_75 ?_
        refine lv_iload_n hx hb dX8_leaves_78 rfl (lv_at hl 1 rfl) ?_
        refine lv_iconst (v := (3 : Int32)) hx hb dX8_leaves_79 (by decide) ?_
        obtain ⟨v6, hc, h⟩ := zb1_s h
        refine zE_i (zrS (As := [.int p1, .int (3 : Int32)]) (rest := [.ref (a 31)]) hx hb hml hown hts tw792 ms_X8_ofLorryAt ⟨Nat.le_of_ble_eq_true rfl, Nat.le_of_ble_eq_true rfl⟩ rfl rfl (ct_X8_ofLorryAt l p1 (3 : Int32) k v6 hc) z_p0 hl.1 rfl rfl (Nat.le_of_ble_eq_true rfl) dX8_leaves_80 ⟨Nat.le_refl _, Nat.le_refl _⟩) ?_
        refine lv_dup2_11 hx hb dX8_leaves_83 rfl rfl ?_
        refine y_iald hx hb hK hP 1 0 rfl rfl h dX8_leaves_84 (fun v7 h => ?_)
        refine lv_iconst (v := (1 : Int32)) hx hb dX8_leaves_85 (by decide) ?_
        refine o_iadd hx hb dX8_leaves_86 h (fun v8 h => ?_)
        refine z_iast hx hb hK.1 hP hD hS 1 0 rfl rfl h dX8_leaves_87 (fun ms9 H locs h hP hD hS => ?_)
        have hP : va_P D vwCl (wX8 ct a ms9 ah hi kp sl sv pd ln so po wr to) H := hP
        have hD : va_D A (wX8 ct a ms9 ah hi kp sl sv pd ln so po wr to) := hD
        refine lv_iload_n hx hb dX8_leaves_88 rfl (lv_at hl 2 rfl) ?_
        cases h
        exact zX_i hx hb hr hlocks hP hD hS hAe dX8_leaves_89 rfl
      · refine lv_aload_n hx hb dX8_leaves_29 rfl (lv_at hl 0 rfl) ?_
        refine lv_iload_n hx hb dX8_leaves_30 rfl (lv_at hl 1 rfl) ?_
        refine lv_iload_n hx hb dX8_leaves_31 rfl (lv_at hl 3 rfl) ?_
        obtain ⟨v10, hc, h⟩ := zb1_s h
        refine zE_i (zrV (C := RX8) (As := [.int p1, .int x3]) (rest := []) hx hb hml hown hts tw947 mv_X8_blockAt ⟨Nat.le_of_ble_eq_true rfl, Nat.le_of_ble_eq_true rfl⟩ rfl rfl (ct_X8_blockAt l D ct a ms_ ah hi kp sl sv pd ln so po wr to p1 x3 k v10 hc) (z_pv hK hP [0, 1, 2, 3, 4, 5, 6, 7, 8] rfl 0 rfl rfl) hl.1 rfl rfl (Nat.le_of_ble_eq_true rfl) dX8_leaves_32 ⟨Nat.le_refl _, Nat.le_refl _⟩) ?_
        refine lv_istore (lv' := [(4, .int v10), (0, .ref (a 30)), (1, .int p1), (2, .int x2), (3, .int x3)]) hx hb dX8_leaves_35 hl (by decide) rfl (fun ls hl => ?_)
        refine lv_iload_n hx hb dX8_leaves_37 rfl (lv_at hl 3 rfl) ?_
        refine lv_iload hx hb dX8_leaves_38 (lv_at hl 0 rfl) ?_
        refine lv_bipush (v := (-6 : Int32)) hx hb dX8_leaves_40 (by decide) ?_
        refine zc_ne (tgt := 49) hx hb dX8_leaves_42 (by decide) h (fun h => ?_) (fun h => ?_)
        · refine lv_aload_n hx hb dX8_leaves_49 rfl (lv_at hl 1 rfl) ?_
          refine lv_iload hx hb dX8_leaves_50 (lv_at hl 0 rfl) ?_
          obtain ⟨v11, ms12, hc, h⟩ := zb2_s h
          refine zG_i (w1 := wX8 ct a ms12 ah hi kp sl sv pd ln so po wr to) (ws' := wX8 ct a ms12 ah hi kp sl sv pd ln so po wr to) hP hD hS hA [0, 1, 2, 3, 4, 5, 6, 7, 8] [] [0, 1, 2, 3, 4, 5, 6, 7, 8] rfl rfl (by decide) (by decide) rfl (by decide) (zrV (C := RX8) (As := [.int v10]) (rest := [.int x2]) hx hb hml hown hts tw988 mv_X8_delivers ⟨Nat.le_of_ble_eq_true rfl, Nat.le_of_ble_eq_true rfl⟩ rfl rfl (ct_X8_delivers l D ct a ms_ ah hi kp sl sv pd ln so po wr to _ v10 k v11 ms12 hc) (z_wv hK hP hD [0, 1, 2, 3, 4, 5, 6, 7, 8] (by decide) rfl 0 rfl rfl) hl.1 rfl rfl (Nat.le_of_ble_eq_true rfl) dX8_leaves_52 ⟨Nat.le_refl _, Nat.le_refl _⟩) (fun H locs hP hD hS => ?_)
          exact B55 (f_X8_leaves_b24 k p1 n) ih24 ms12 x3 v11 x2 h _ _ hP hD hS ls (lv_sub hl [1, 2, 4] rfl)
        · refine lv_iconst (v := (0 : Int32)) hx hb dX8_leaves_45 (by decide) ?_
          refine lv_goto (tgt := 55) hx hb dX8_leaves_46 (by decide) ?_
          exact B55 (f_X8_leaves_b24 k p1 n) ih24 ms_ x3 (0 : Int32) x2 h _ _ hP hD hS ls (lv_sub hl [1, 2, 4] rfl)
  rw [f_X8_leaves] at h
  refine lv_iload_n hx hb dX8_leaves_0 rfl (lv_at hl 1 rfl) ?_
  obtain ⟨v1, hc, h⟩ := zb1_s h
  refine zE_i (zrS (As := [.int p1]) (rest := []) hx hb hml hown hts tw944 ms_X8_isLorry ⟨Nat.le_of_ble_eq_true rfl, Nat.le_of_ble_eq_true rfl⟩ rfl rfl (ct_X8_isLorry l p1 k v1 hc) z_p0 hl.1 rfl rfl (Nat.le_of_ble_eq_true rfl) dX8_leaves_1 ⟨Nat.le_refl _, Nat.le_refl _⟩) ?_
  refine zi_ne (tgt := 9) hx hb dX8_leaves_4 (by decide) h (fun h => ?_) (fun h => ?_)
  · refine lv_aload_n hx hb dX8_leaves_9 rfl (lv_at hl 0 rfl) ?_
    refine lv_iload_n hx hb dX8_leaves_10 rfl (lv_at hl 1 rfl) ?_
    obtain ⟨v2, hc, h⟩ := zb1_s h
    refine zE_i (zrV (C := RX8) (As := [.int p1]) (rest := []) hx hb hml hown hts tw967 mv_X8_whyNot ⟨Nat.le_of_ble_eq_true rfl, Nat.le_of_ble_eq_true rfl⟩ rfl rfl (ct_X8_whyNot l D ct a ms ah hi kp sl sv pd ln so po wr to p1 k v2 hc) (z_pv hK hP [0, 1, 2, 3, 4, 5, 6, 7, 8] rfl 0 rfl rfl) hl.1 rfl rfl (Nat.le_of_ble_eq_true rfl) dX8_leaves_11 ⟨Nat.le_refl _, Nat.le_refl _⟩) ?_
    refine zi_le (tgt := 20) hx hb dX8_leaves_14 (by decide) h (fun h => ?_) (fun h => ?_)
    · refine lv_iconst (v := (0 : Int32)) hx hb dX8_leaves_20 (by decide) ?_
      refine lv_istore_n (lv' := [(2, .int (0 : Int32)), (0, .ref (a 30)), (1, .int p1)]) hx hb dX8_leaves_21 rfl hl (by decide) rfl (fun ls hl => ?_)
      refine lv_iconst (v := (0 : Int32)) hx hb dX8_leaves_22 (by decide) ?_
      refine lv_istore_n (lv' := [(3, .int (0 : Int32)), (2, .int (0 : Int32)), (0, .ref (a 30)), (1, .int p1)]) hx hb dX8_leaves_23 rfl hl (by decide) rfl (fun ls hl => ?_)
      exact B24 k ms (0 : Int32) (0 : Int32) h _ _ hP hD hS ls (lv_sub hl [2, 3, 1, 0] rfl)
    · refine lv_bipush (v := (-5 : Int32)) hx hb dX8_leaves_17 (by decide) ?_
      cases h
      exact zX_i hx hb hr hlocks hP hD hS hAe dX8_leaves_19 rfl
  · refine lv_iconst (v := (-1 : Int32)) hx hb dX8_leaves_7 (by decide) ?_
    cases h
    exact zX_i hx hb hr hlocks hP hD hS hAe dX8_leaves_8 rfl

def f_X8_does_b127 (k : Nat) (p1 : Int32) (p2 : Int32) (p3 : Int32) (p4 : Int32) (p5 : Int32)  (ms_ : Nat → Int32) (so_ : Nat → Int32) : Option (Int32 × (Nat → Int32) × (Nat → Int32)) :=
  zb2 (f_X8_leaves k ms_ p2) fun v3 ms4 =>
  some (v3, ms4, so_)
def f_X8_does (k : Nat) (ms : Nat → Int32) (so : Nat → Int32) (p1 : Int32) (p2 : Int32) (p3 : Int32) (p4 : Int32) (p5 : Int32) : Option (Int32 × (Nat → Int32) × (Nat → Int32)) :=
  if p1 = (99 : Int32) then
    zb2 (f_X8_cuts k ms p2 p3 p4) fun v1 ms2 =>
    some (v1, ms2, so)
  else
  if p1 = (100 : Int32) then
    f_X8_does_b127 k p1 p2 p3 p4 p5 ms so
  else
  if p1 = (101 : Int32) then
    f_X8_does_b127 k p1 p2 p3 p4 p5 ms so
  else
  if p1 = (102 : Int32) then
    f_X8_does_b127 k p1 p2 p3 p4 p5 ms so
  else
  if p1 = (103 : Int32) then
    zb3 (f_X8_gives k ms so p2 p3) fun v5 ms6 so7 =>
    some (v5, ms6, so7)
  else
  if p1 = (104 : Int32) then
    f_X8_does_b127 k p1 p2 p3 p4 p5 ms so
  else
  if p1 = (105 : Int32) then
    f_X8_does_b127 k p1 p2 p3 p4 p5 ms so
  else
  if p1 = (106 : Int32) then
    f_X8_does_b127 k p1 p2 p3 p4 p5 ms so
  else
  if p1 = (107 : Int32) then
    f_X8_does_b127 k p1 p2 p3 p4 p5 ms so
  else
  if p1 = (108 : Int32) then
    zb2 (f_X8_loads k ms p2 p3 p4) fun v8 ms9 =>
    some (v8, ms9, so)
  else
  if p1 = (109 : Int32) then
    f_X8_does_b127 k p1 p2 p3 p4 p5 ms so
  else
  if p1 = (110 : Int32) then
    zb2 (f_X8_nights k ms p2) fun v10 ms11 =>
    some (v10, ms11, so)
  else
  if p1 = (111 : Int32) then
    zb3 (f_X8_orders k ms so p2 p3 p4) fun v12 ms13 so14 =>
    some (v12, ms13, so14)
  else
  if p1 = (112 : Int32) then
    f_X8_does_b127 k p1 p2 p3 p4 p5 ms so
  else
  if p1 = (113 : Int32) then
    zb2 (f_X8_quarries k ms p2 p3 p4 p5) fun v15 ms16 =>
    some (v15, ms16, so)
  else
    f_X8_does_b127 k p1 p2 p3 p4 p5 ms so
set_option maxRecDepth 100000 in
set_option maxHeartbeats 4000000 in
theorem ct_X8_does (l : Launch) (D : va_G) (ct a : Nat → Nat) (ms : Nat → Int32) (ah : Nat → Int32) (hi : Nat → Int32) (kp : Int32) (sl : Nat → Int32) (sv : Nat → Int32) (pd : Nat → Int32) (ln : Int32) (so : Nat → Int32) (po : Int32) (wr : Int32) (to : Nat → Int32) (sz : Nat) (p1 : Int32) (p2 : Int32) (p3 : Int32) (p4 : Int32) (p5 : Int32) (k : Nat) (r : Int32) (ms' : Nat → Int32) (so' : Nat → Int32) (h : f_X8_does k ms so p1 p2 p3 p4 p5 = some (r, ms', so')) : Met l yX8_does (Cond.code yX8_does cX8_does 6 (some .int) :: zT) ({ frames := 6, cells := 0, slots := 0, locals := 139 } : Room) (va_Pc [.ref (a 30), .int p1, .int p2, .int p3, .int p4, .int p5] (zPW D (zTys ct) (wX8 ct a ms ah hi kp sl sv pd ln so po wr to) sz)) (va_Qi (fun r' (_ : Unit) => r' = r) (zQW D (wX8 ct a ms ah hi kp sl sv pd ln so po wr to) sz (wX8 ct a ms' ah hi kp sl sv pd ln so' po wr to)) (va_A (wX8 ct a ms ah hi kp sl sv pd ln so po wr to) sz)) 0 0 (va_A (wX8 ct a ms ah hi kp sl sv pd ln so po wr to) sz) := by
  refine zMet (cc := cX8_does) (maxL := 6) (ret := (some .int)) (av := [.ref (a 30), .int p1, .int p2, .int p3, .int p4, .int p5]) (by decide) (Nat.le_of_ble_eq_true rfl) (fun p e s m below meth c ls hx hb hr hml hts hown hlocks hin hB hl => ?_)
  have hl : lv_has ls 6 [(0, .ref (a 30)), (1, .int p1), (2, .int p2), (3, .int p3), (4, .int p4), (5, .int p5)] := hl
  have hown : s.vm.findClass RX8 = some m.cls := hown
  obtain ⟨hsz, hP, hK, hD0⟩ := hB
  subst hsz
  have hD := hD0.self (sz := s.heap.size)
  obtain ⟨A, hAe⟩ : ∃ A, A = va_A (wX8 ct a ms ah hi kp sl sv pd ln so po wr to) s.heap.size := ⟨_, rfl⟩
  rw [← hAe] at hD
  have hA : ∀ q : Nat, s.heap.size ≤ q → A q := fun q h => by rw [hAe]; exact Or.inr h
  have hS : va_S A s.heap s.heap [] := va_S.rf
  have B127 : ∀ (ms_ : Nat → Int32) (so_ : Nat → Int32), f_X8_does_b127 k p1 p2 p3 p4 p5 ms_ so_ = some (r, ms', so') → ∀ (H : Heap) (locs : List Loc), va_P D vwCl (wX8 ct a ms_ ah hi kp sl sv pd ln so_ po wr to) H → va_D A (wX8 ct a ms_ ah hi kp sl sv pd ln so_ po wr to) → va_S A s.heap H locs → ∀ (ls : Array Slot), lv_has ls 6 [(0, .ref (a 30)), (2, .int p2)] → W p l e ({ frames := 6, cells := 0, slots := 0, locals := 139 } : Room) s m ([.ref (a 30), .int p1, .int p2, .int p3, .int p4, .int p5] : List Value).toArray below meth c H locs 0 0 (MQ below (va_Qi (fun r' (_ : Unit) => r' = r) (zQW D (wX8 ct a ms ah hi kp sl sv pd ln so po wr to) s.heap.size (wX8 ct a ms' ah hi kp sl sv pd ln so' po wr to)) (va_A (wX8 ct a ms ah hi kp sl sv pd ln so po wr to) s.heap.size)) ([.ref (a 30), .int p1, .int p2, .int p3, .int p4, .int p5] : List Value).toArray s 0 0 (va_A (wX8 ct a ms ah hi kp sl sv pd ln so po wr to) s.heap.size)) (F0 m 127 ls []) := by
    intro ms_ so_ h H locs hP hD hS ls hl
    rw [f_X8_does_b127] at h
    refine lv_aload_n hx hb dX8_does_127 rfl (lv_at hl 0 rfl) ?_
    refine lv_iload_n hx hb dX8_does_128 rfl (lv_at hl 1 rfl) ?_
    obtain ⟨v3, ms4, hc, h⟩ := zb2_s h
    refine zG_i (w1 := wX8 ct a ms4 ah hi kp sl sv pd ln so_ po wr to) (ws' := wX8 ct a ms4 ah hi kp sl sv pd ln so_ po wr to) hP hD hS hA [0, 1, 2, 3, 4, 5, 6, 7, 8] [] [0, 1, 2, 3, 4, 5, 6, 7, 8] rfl rfl (by decide) (by decide) rfl (by decide) (zrV (C := RX8) (As := [.int p2]) (rest := []) hx hb hml hown hts tw963 mv_X8_leaves ⟨Nat.le_of_ble_eq_true rfl, Nat.le_of_ble_eq_true rfl⟩ rfl rfl (ct_X8_leaves l D ct a ms_ ah hi kp sl sv pd ln so_ po wr to _ p2 k v3 ms4 hc) (z_wv hK hP hD [0, 1, 2, 3, 4, 5, 6, 7, 8] (by decide) rfl 0 rfl rfl) hl.1 rfl rfl (Nat.le_of_ble_eq_true rfl) dX8_does_129 ⟨Nat.le_refl _, Nat.le_refl _⟩) (fun H locs hP hD hS => ?_)
    cases h
    exact zX_i hx hb hr hlocks hP hD hS hAe dX8_does_132 rfl
  rw [f_X8_does] at h
  refine lv_iload_n hx hb dX8_does_0 rfl (lv_at hl 1 rfl) ?_
  refine o_sw h (fun q0 h => ?_) (fun q0 h => ?_)
  · refine lv_tableIn (off := (86 : Int)) (tgt := 87) hx hb dX8_does_1 (by rw [q0]; decide) (by rw [q0]; decide) (by rw [q0]; decide) (by decide) ?_
    refine lv_aload_n hx hb dX8_does_87 rfl (lv_at hl 0 rfl) ?_
    refine lv_iload_n hx hb dX8_does_88 rfl (lv_at hl 2 rfl) ?_
    refine lv_iload_n hx hb dX8_does_89 rfl (lv_at hl 3 rfl) ?_
    refine lv_iload hx hb dX8_does_90 (lv_at hl 4 rfl) ?_
    obtain ⟨v1, ms2, hc, h⟩ := zb2_s h
    refine zG_i (w1 := wX8 ct a ms2 ah hi kp sl sv pd ln so po wr to) (ws' := wX8 ct a ms2 ah hi kp sl sv pd ln so po wr to) hP hD hS hA [0, 1, 2, 3, 4, 5, 6, 7, 8] [] [0, 1, 2, 3, 4, 5, 6, 7, 8] rfl rfl (by decide) (by decide) rfl (by decide) (zrV (C := RX8) (As := [.int p2, .int p3, .int p4]) (rest := []) hx hb hml hown hts tw881 mv_X8_cuts ⟨Nat.le_of_ble_eq_true rfl, Nat.le_of_ble_eq_true rfl⟩ rfl rfl (ct_X8_cuts l D ct a ms ah hi kp sl sv pd ln so po wr to _ p2 p3 p4 k v1 ms2 hc) (z_wv hK hP hD [0, 1, 2, 3, 4, 5, 6, 7, 8] (by decide) rfl 0 rfl rfl) hl.1 rfl rfl (Nat.le_of_ble_eq_true rfl) dX8_does_92 ⟨Nat.le_refl _, Nat.le_refl _⟩) (fun H locs hP hD hS => ?_)
    cases h
    exact zX_i hx hb hr hlocks hP hD hS hAe dX8_does_95 rfl
  refine o_sw h (fun q1 h => ?_) (fun q1 h => ?_)
  · refine lv_tableIn (off := (126 : Int)) (tgt := 127) hx hb dX8_does_1 (by rw [q1]; decide) (by rw [q1]; decide) (by rw [q1]; decide) (by decide) ?_
    exact B127 ms so h _ _ hP hD hS ls (lv_sub hl [0, 2] rfl)
  refine o_sw h (fun q2 h => ?_) (fun q2 h => ?_)
  · refine lv_tableIn (off := (126 : Int)) (tgt := 127) hx hb dX8_does_1 (by rw [q2]; decide) (by rw [q2]; decide) (by rw [q2]; decide) (by decide) ?_
    exact B127 ms so h _ _ hP hD hS ls (lv_sub hl [0, 2] rfl)
  refine o_sw h (fun q3 h => ?_) (fun q3 h => ?_)
  · refine lv_tableIn (off := (126 : Int)) (tgt := 127) hx hb dX8_does_1 (by rw [q3]; decide) (by rw [q3]; decide) (by rw [q3]; decide) (by decide) ?_
    exact B127 ms so h _ _ hP hD hS ls (lv_sub hl [0, 2] rfl)
  refine o_sw h (fun q4 h => ?_) (fun q4 h => ?_)
  · refine lv_tableIn (off := (104 : Int)) (tgt := 105) hx hb dX8_does_1 (by rw [q4]; decide) (by rw [q4]; decide) (by rw [q4]; decide) (by decide) ?_
    refine lv_aload_n hx hb dX8_does_105 rfl (lv_at hl 0 rfl) ?_
    refine lv_iload_n hx hb dX8_does_106 rfl (lv_at hl 2 rfl) ?_
    refine lv_iload_n hx hb dX8_does_107 rfl (lv_at hl 3 rfl) ?_
    obtain ⟨v5, ms6, so7, hc, h⟩ := zb3_s h
    refine zG_i (w1 := wX8 ct a ms6 ah hi kp sl sv pd ln so7 po wr to) (ws' := wX8 ct a ms6 ah hi kp sl sv pd ln so7 po wr to) hP hD hS hA [0, 1, 2, 3, 4, 5, 6, 7, 8] [] [0, 1, 2, 3, 4, 5, 6, 7, 8] rfl rfl (by decide) (by decide) rfl (by decide) (zrV (C := RX8) (As := [.int p2, .int p3]) (rest := []) hx hb hml hown hts tw920 mv_X8_gives ⟨Nat.le_of_ble_eq_true rfl, Nat.le_of_ble_eq_true rfl⟩ rfl rfl (ct_X8_gives l D ct a ms ah hi kp sl sv pd ln so po wr to _ p2 p3 k v5 ms6 so7 hc) (z_wv hK hP hD [0, 1, 2, 3, 4, 5, 6, 7, 8] (by decide) rfl 0 rfl rfl) hl.1 rfl rfl (Nat.le_of_ble_eq_true rfl) dX8_does_108 ⟨Nat.le_refl _, Nat.le_refl _⟩) (fun H locs hP hD hS => ?_)
    cases h
    exact zX_i hx hb hr hlocks hP hD hS hAe dX8_does_111 rfl
  refine o_sw h (fun q5 h => ?_) (fun q5 h => ?_)
  · refine lv_tableIn (off := (126 : Int)) (tgt := 127) hx hb dX8_does_1 (by rw [q5]; decide) (by rw [q5]; decide) (by rw [q5]; decide) (by decide) ?_
    exact B127 ms so h _ _ hP hD hS ls (lv_sub hl [0, 2] rfl)
  refine o_sw h (fun q6 h => ?_) (fun q6 h => ?_)
  · refine lv_tableIn (off := (126 : Int)) (tgt := 127) hx hb dX8_does_1 (by rw [q6]; decide) (by rw [q6]; decide) (by rw [q6]; decide) (by decide) ?_
    exact B127 ms so h _ _ hP hD hS ls (lv_sub hl [0, 2] rfl)
  refine o_sw h (fun q7 h => ?_) (fun q7 h => ?_)
  · refine lv_tableIn (off := (126 : Int)) (tgt := 127) hx hb dX8_does_1 (by rw [q7]; decide) (by rw [q7]; decide) (by rw [q7]; decide) (by decide) ?_
    exact B127 ms so h _ _ hP hD hS ls (lv_sub hl [0, 2] rfl)
  refine o_sw h (fun q8 h => ?_) (fun q8 h => ?_)
  · refine lv_tableIn (off := (126 : Int)) (tgt := 127) hx hb dX8_does_1 (by rw [q8]; decide) (by rw [q8]; decide) (by rw [q8]; decide) (by decide) ?_
    exact B127 ms so h _ _ hP hD hS ls (lv_sub hl [0, 2] rfl)
  refine o_sw h (fun q9 h => ?_) (fun q9 h => ?_)
  · refine lv_tableIn (off := (111 : Int)) (tgt := 112) hx hb dX8_does_1 (by rw [q9]; decide) (by rw [q9]; decide) (by rw [q9]; decide) (by decide) ?_
    refine lv_aload_n hx hb dX8_does_112 rfl (lv_at hl 0 rfl) ?_
    refine lv_iload_n hx hb dX8_does_113 rfl (lv_at hl 2 rfl) ?_
    refine lv_iload_n hx hb dX8_does_114 rfl (lv_at hl 3 rfl) ?_
    refine lv_iload hx hb dX8_does_115 (lv_at hl 4 rfl) ?_
    obtain ⟨v8, ms9, hc, h⟩ := zb2_s h
    refine zG_i (w1 := wX8 ct a ms9 ah hi kp sl sv pd ln so po wr to) (ws' := wX8 ct a ms9 ah hi kp sl sv pd ln so po wr to) hP hD hS hA [0, 1, 2, 3, 4, 5, 6, 7, 8] [] [0, 1, 2, 3, 4, 5, 6, 7, 8] rfl rfl (by decide) (by decide) rfl (by decide) (zrV (C := RX8) (As := [.int p2, .int p3, .int p4]) (rest := []) hx hb hml hown hts tw940 mv_X8_loads ⟨Nat.le_of_ble_eq_true rfl, Nat.le_of_ble_eq_true rfl⟩ rfl rfl (ct_X8_loads l D ct a ms ah hi kp sl sv pd ln so po wr to _ p2 p3 p4 k v8 ms9 hc) (z_wv hK hP hD [0, 1, 2, 3, 4, 5, 6, 7, 8] (by decide) rfl 0 rfl rfl) hl.1 rfl rfl (Nat.le_of_ble_eq_true rfl) dX8_does_117 ⟨Nat.le_refl _, Nat.le_refl _⟩) (fun H locs hP hD hS => ?_)
    cases h
    exact zX_i hx hb hr hlocks hP hD hS hAe dX8_does_120 rfl
  refine o_sw h (fun q10 h => ?_) (fun q10 h => ?_)
  · refine lv_tableIn (off := (126 : Int)) (tgt := 127) hx hb dX8_does_1 (by rw [q10]; decide) (by rw [q10]; decide) (by rw [q10]; decide) (by decide) ?_
    exact B127 ms so h _ _ hP hD hS ls (lv_sub hl [0, 2] rfl)
  refine o_sw h (fun q11 h => ?_) (fun q11 h => ?_)
  · refine lv_tableIn (off := (120 : Int)) (tgt := 121) hx hb dX8_does_1 (by rw [q11]; decide) (by rw [q11]; decide) (by rw [q11]; decide) (by decide) ?_
    refine lv_aload_n hx hb dX8_does_121 rfl (lv_at hl 0 rfl) ?_
    refine lv_iload_n hx hb dX8_does_122 rfl (lv_at hl 2 rfl) ?_
    obtain ⟨v10, ms11, hc, h⟩ := zb2_s h
    refine zG_i (w1 := wX8 ct a ms11 ah hi kp sl sv pd ln so po wr to) (ws' := wX8 ct a ms11 ah hi kp sl sv pd ln so po wr to) hP hD hS hA [0, 1, 2, 3, 4, 5, 6, 7, 8] [] [0, 1, 2, 3, 4, 5, 6, 7, 8] rfl rfl (by decide) (by decide) rfl (by decide) (zrV (C := RX8) (As := [.int p2]) (rest := []) hx hb hml hown hts tw955 mv_X8_nights ⟨Nat.le_of_ble_eq_true rfl, Nat.le_of_ble_eq_true rfl⟩ rfl rfl (ct_X8_nights l D ct a ms ah hi kp sl sv pd ln so po wr to _ p2 k v10 ms11 hc) (z_wv hK hP hD [0, 1, 2, 3, 4, 5, 6, 7, 8] (by decide) rfl 0 rfl rfl) hl.1 rfl rfl (Nat.le_of_ble_eq_true rfl) dX8_does_123 ⟨Nat.le_refl _, Nat.le_refl _⟩) (fun H locs hP hD hS => ?_)
    cases h
    exact zX_i hx hb hr hlocks hP hD hS hAe dX8_does_126 rfl
  refine o_sw h (fun q12 h => ?_) (fun q12 h => ?_)
  · refine lv_tableIn (off := (95 : Int)) (tgt := 96) hx hb dX8_does_1 (by rw [q12]; decide) (by rw [q12]; decide) (by rw [q12]; decide) (by decide) ?_
    refine lv_aload_n hx hb dX8_does_96 rfl (lv_at hl 0 rfl) ?_
    refine lv_iload_n hx hb dX8_does_97 rfl (lv_at hl 2 rfl) ?_
    refine lv_iload_n hx hb dX8_does_98 rfl (lv_at hl 3 rfl) ?_
    refine lv_iload hx hb dX8_does_99 (lv_at hl 4 rfl) ?_
    obtain ⟨v12, ms13, so14, hc, h⟩ := zb3_s h
    refine zG_i (w1 := wX8 ct a ms13 ah hi kp sl sv pd ln so14 po wr to) (ws' := wX8 ct a ms13 ah hi kp sl sv pd ln so14 po wr to) hP hD hS hA [0, 1, 2, 3, 4, 5, 6, 7, 8] [] [0, 1, 2, 3, 4, 5, 6, 7, 8] rfl rfl (by decide) (by decide) rfl (by decide) (zrV (C := RX8) (As := [.int p2, .int p3, .int p4]) (rest := []) hx hb hml hown hts tw909 mv_X8_orders ⟨Nat.le_of_ble_eq_true rfl, Nat.le_of_ble_eq_true rfl⟩ rfl rfl (ct_X8_orders l D ct a ms ah hi kp sl sv pd ln so po wr to _ p2 p3 p4 k v12 ms13 so14 hc) (z_wv hK hP hD [0, 1, 2, 3, 4, 5, 6, 7, 8] (by decide) rfl 0 rfl rfl) hl.1 rfl rfl (Nat.le_of_ble_eq_true rfl) dX8_does_101 ⟨Nat.le_refl _, Nat.le_refl _⟩) (fun H locs hP hD hS => ?_)
    cases h
    exact zX_i hx hb hr hlocks hP hD hS hAe dX8_does_104 rfl
  refine o_sw h (fun q13 h => ?_) (fun q13 h => ?_)
  · refine lv_tableIn (off := (126 : Int)) (tgt := 127) hx hb dX8_does_1 (by rw [q13]; decide) (by rw [q13]; decide) (by rw [q13]; decide) (by decide) ?_
    exact B127 ms so h _ _ hP hD hS ls (lv_sub hl [0, 2] rfl)
  refine o_sw h (fun q14 h => ?_) (fun q14 h => ?_)
  · refine lv_tableIn (off := (75 : Int)) (tgt := 76) hx hb dX8_does_1 (by rw [q14]; decide) (by rw [q14]; decide) (by rw [q14]; decide) (by decide) ?_
    refine lv_aload_n hx hb dX8_does_76 rfl (lv_at hl 0 rfl) ?_
    refine lv_iload_n hx hb dX8_does_77 rfl (lv_at hl 2 rfl) ?_
    refine lv_iload_n hx hb dX8_does_78 rfl (lv_at hl 3 rfl) ?_
    refine lv_iload hx hb dX8_does_79 (lv_at hl 4 rfl) ?_
    refine lv_iload hx hb dX8_does_81 (lv_at hl 5 rfl) ?_
    obtain ⟨v15, ms16, hc, h⟩ := zb2_s h
    refine zG_i (w1 := wX8 ct a ms16 ah hi kp sl sv pd ln so po wr to) (ws' := wX8 ct a ms16 ah hi kp sl sv pd ln so po wr to) hP hD hS hA [0, 1, 2, 3, 4, 5, 6, 7, 8] [] [0, 1, 2, 3, 4, 5, 6, 7, 8] rfl rfl (by decide) (by decide) rfl (by decide) (zrV (C := RX8) (As := [.int p2, .int p3, .int p4, .int p5]) (rest := []) hx hb hml hown hts tw863 mv_X8_quarries ⟨Nat.le_of_ble_eq_true rfl, Nat.le_of_ble_eq_true rfl⟩ rfl rfl (ct_X8_quarries l D ct a ms ah hi kp sl sv pd ln so po wr to _ p2 p3 p4 p5 k v15 ms16 hc) (z_wv hK hP hD [0, 1, 2, 3, 4, 5, 6, 7, 8] (by decide) rfl 0 rfl rfl) hl.1 rfl rfl (Nat.le_of_ble_eq_true rfl) dX8_does_83 ⟨Nat.le_refl _, Nat.le_refl _⟩) (fun H locs hP hD hS => ?_)
    cases h
    exact zX_i hx hb hr hlocks hP hD hS hAe dX8_does_86 rfl
  · refine lv_tableOut (tgt := 127) hx hb dX8_does_1 (by have w0 := lv_neT (a := 99) q0 rfl; have w1 := lv_neT (a := 100) q1 rfl; have w2 := lv_neT (a := 101) q2 rfl; have w3 := lv_neT (a := 102) q3 rfl; have w4 := lv_neT (a := 103) q4 rfl; have w5 := lv_neT (a := 104) q5 rfl; have w6 := lv_neT (a := 105) q6 rfl; have w7 := lv_neT (a := 106) q7 rfl; have w8 := lv_neT (a := 107) q8 rfl; have w9 := lv_neT (a := 108) q9 rfl; have w10 := lv_neT (a := 109) q10 rfl; have w11 := lv_neT (a := 110) q11 rfl; have w12 := lv_neT (a := 111) q12 rfl; have w13 := lv_neT (a := 112) q13 rfl; have w14 := lv_neT (a := 113) q14 rfl; omega) (by decide) ?_
    exact B127 ms so h _ _ hP hD hS ls (lv_sub hl [0, 2] rfl)

