/-! written by wip/whole/gen.py: each method as a function, and its contract -/
def f_X8_isFitting_b63 (k : Nat) (ms : Nat → Int32) (p1 : Int32) (p2 : Int32) (p3 : Int32) (p4 : Int32)  (so_ : Nat → Int32) (x5 : Int32) (x6 : Int32) (y0 : Int32) : Option (Int32 × (Nat → Int32)) :=
  zb1 (f_X8_at k p2 p3) fun v7 =>
  zg (zin v7 324) (zl (ms v7.toNatClampNeg) fun v8 =>
  zl (v8 - p4) fun v9 =>
  zl (ms 0) fun v10 =>
  zl (v9 - v10) fun v11 =>
  if v11 < (1 : Int32) then
    if (0 : Int32) = 0 then
      some ((0 : Int32), so_)
    else
      zb1 (f_X8_at k p2 (6 : Int32)) fun v12 =>
      zg (zin v12 324) (zl (ms v12.toNatClampNeg) fun v13 =>
      if v13 = 0 then
        zb2 (f_X8_excess k ms so_ p1 x5 x6 y0) fun v14 so15 =>
        if v14 = (-6 : Int32) then
          some ((0 : Int32), so15)
        else
          some ((1 : Int32), so15)
      else
        some ((0 : Int32), so_))
  else
    if (1 : Int32) = 0 then
      some ((0 : Int32), so_)
    else
      zb1 (f_X8_at k p2 (6 : Int32)) fun v16 =>
      zg (zin v16 324) (zl (ms v16.toNatClampNeg) fun v17 =>
      if v17 = 0 then
        zb2 (f_X8_excess k ms so_ p1 x5 x6 y0) fun v18 so19 =>
        if v18 = (-6 : Int32) then
          some ((0 : Int32), so19)
        else
          some ((1 : Int32), so19)
      else
        some ((0 : Int32), so_)))
def f_X8_isFitting_b41 (k : Nat) (ms : Nat → Int32) (p1 : Int32) (p2 : Int32) (p3 : Int32) (p4 : Int32)  (so_ : Nat → Int32) (x5 : Int32) (y0 : Int32) : Option (Int32 × (Nat → Int32)) :=
  if p3 = (2 : Int32) then
    f_X8_isFitting_b63 k ms p1 p2 p3 p4 so_ x5 y0 p4
  else
    zb1 (f_X8_at k p2 (2 : Int32)) fun v5 =>
    zg (zin v5 324) (zl (ms v5.toNatClampNeg) fun v6 =>
    f_X8_isFitting_b63 k ms p1 p2 p3 p4 so_ x5 y0 v6)
def f_X8_isFitting_b19 (k : Nat) (ms : Nat → Int32) (p1 : Int32) (p2 : Int32) (p3 : Int32) (p4 : Int32)  (so_ : Nat → Int32) (y0 : Int32) : Option (Int32 × (Nat → Int32)) :=
  if p3 = (1 : Int32) then
    f_X8_isFitting_b41 k ms p1 p2 p3 p4 so_ y0 p4
  else
    zb1 (f_X8_at k p2 (1 : Int32)) fun v3 =>
    zg (zin v3 324) (zl (ms v3.toNatClampNeg) fun v4 =>
    f_X8_isFitting_b41 k ms p1 p2 p3 p4 so_ y0 v4)
def f_X8_isFitting (k : Nat) (ms : Nat → Int32) (so : Nat → Int32) (p1 : Int32) (p2 : Int32) (p3 : Int32) (p4 : Int32) : Option (Int32 × (Nat → Int32)) :=
  if p3 = 0 then
    f_X8_isFitting_b19 k ms p1 p2 p3 p4 so p4
  else
    zb1 (f_X8_at k p2 (0 : Int32)) fun v1 =>
    zg (zin v1 324) (zl (ms v1.toNatClampNeg) fun v2 =>
    f_X8_isFitting_b19 k ms p1 p2 p3 p4 so v2)
set_option maxRecDepth 100000 in
set_option maxHeartbeats 4000000 in
theorem ct_X8_isFitting (l : Launch) (D : va_G) (ct a : Nat → Nat) (ms : Nat → Int32) (ah : Nat → Int32) (hi : Nat → Int32) (kp : Int32) (sl : Nat → Int32) (sv : Nat → Int32) (pd : Nat → Int32) (ln : Int32) (so : Nat → Int32) (po : Int32) (wr : Int32) (to : Nat → Int32) (sz : Nat) (p1 : Int32) (p2 : Int32) (p3 : Int32) (p4 : Int32) (k : Nat) (r : Int32) (so' : Nat → Int32) (h : f_X8_isFitting k ms so p1 p2 p3 p4 = some (r, so')) : Met l yX8_isFitting (Cond.code yX8_isFitting cX8_isFitting 9 (some .boolean) :: zT) ({ frames := 2, cells := 0, slots := 0, locals := 53 } : Room) (va_Pc [.ref (a 30), .int p1, .int p2, .int p3, .int p4] (zPW D (zTys ct) (wX8 ct a ms ah hi kp sl sv pd ln so po wr to) sz)) (va_Qi (fun r' (_ : Unit) => r' = r) (zQW D (wX8 ct a ms ah hi kp sl sv pd ln so po wr to) sz (wX8 ct a ms ah hi kp sl sv pd ln so' po wr to)) (va_A (wX8 ct a ms ah hi kp sl sv pd ln so po wr to) sz)) 0 0 (va_A (wX8 ct a ms ah hi kp sl sv pd ln so po wr to) sz) := by
  refine zMet (cc := cX8_isFitting) (maxL := 9) (ret := (some .boolean)) (av := [.ref (a 30), .int p1, .int p2, .int p3, .int p4]) (by decide) (Nat.le_of_ble_eq_true rfl) (fun p e s m below meth c ls hx hb hr hml hts hown hlocks hin hB hl => ?_)
  have hl : lv_has ls 9 [(0, .ref (a 30)), (1, .int p1), (2, .int p2), (3, .int p3), (4, .int p4)] := hl
  have hown : s.vm.findClass RX8 = some m.cls := hown
  obtain ⟨hsz, hP, hK, hD0⟩ := hB
  subst hsz
  have hD := hD0.self (sz := s.heap.size)
  obtain ⟨A, hAe⟩ : ∃ A, A = va_A (wX8 ct a ms ah hi kp sl sv pd ln so po wr to) s.heap.size := ⟨_, rfl⟩
  rw [← hAe] at hD
  have hA : ∀ q : Nat, s.heap.size ≤ q → A q := fun q h => by rw [hAe]; exact Or.inr h
  have hS : va_S A s.heap s.heap [] := va_S.rf
  have B63 : ∀ (so_ : Nat → Int32) (x5 : Int32) (x6 : Int32) (y0 : Int32), f_X8_isFitting_b63 k ms p1 p2 p3 p4 so_ x5 x6 y0 = some (r, so') → ∀ (H : Heap) (locs : List Loc), va_P D vwCl (wX8 ct a ms ah hi kp sl sv pd ln so_ po wr to) H → va_D A (wX8 ct a ms ah hi kp sl sv pd ln so_ po wr to) → va_S A s.heap H locs → ∀ (ls : Array Slot), lv_has ls 9 [(0, .ref (a 30)), (1, .int p1), (2, .int p2), (3, .int p3), (4, .int p4), (5, .int x5), (6, .int x6)] → W p l e ({ frames := 2, cells := 0, slots := 0, locals := 53 } : Room) s m ([.ref (a 30), .int p1, .int p2, .int p3, .int p4] : List Value).toArray below meth c H locs 0 0 (MQ below (va_Qi (fun r' (_ : Unit) => r' = r) (zQW D (wX8 ct a ms ah hi kp sl sv pd ln so po wr to) s.heap.size (wX8 ct a ms ah hi kp sl sv pd ln so' po wr to)) (va_A (wX8 ct a ms ah hi kp sl sv pd ln so po wr to) s.heap.size)) ([.ref (a 30), .int p1, .int p2, .int p3, .int p4] : List Value).toArray s 0 0 (va_A (wX8 ct a ms ah hi kp sl sv pd ln so po wr to) s.heap.size)) (F0 m 63 ls [.int y0]) := by
    intro so_ x5 x6 y0 h H locs hP hD hS ls hl
    rw [f_X8_isFitting_b63] at h
    refine lv_istore (lv' := [(7, .int y0), (0, .ref (a 30)), (1, .int p1), (2, .int p2), (3, .int p3), (4, .int p4), (5, .int x5), (6, .int x6)]) hx hb dX8_isFitting_63 hl (by decide) rfl (fun ls hl => ?_)
    refine lv_aload_n hx hb dX8_isFitting_65 rfl (lv_at hl 1 rfl) ?_
    refine z_get (C := RX8) (T := TX8) (N := 12) (ci := 7) hx hb hts zin_X8 hown hK.1 hP 0 0 rfl rfl (by decide) tw795 rfl rfl dX8_isFitting_66 ?_
    refine lv_iload_n hx hb dX8_isFitting_69 rfl (lv_at hl 3 rfl) ?_
    refine lv_iload_n hx hb dX8_isFitting_70 rfl (lv_at hl 4 rfl) ?_
    obtain ⟨v7, hc, h⟩ := zb1_s h
    refine zE_i (zrS (As := [.int p2, .int p3]) (rest := [.ref (a 31)]) hx hb hml hown hts tw874 ms_X8_at ⟨Nat.le_of_ble_eq_true rfl, Nat.le_of_ble_eq_true rfl⟩ rfl rfl (ct_X8_at l p2 p3 k v7 hc) z_p0 hl.1 rfl rfl (Nat.le_of_ble_eq_true rfl) dX8_isFitting_71 ⟨Nat.le_refl _, Nat.le_refl _⟩) ?_
    refine y_iald hx hb hK hP 1 0 rfl rfl h dX8_isFitting_74 (fun v8 h => ?_)
    refine lv_iload hx hb dX8_isFitting_75 (lv_at hl 5 rfl) ?_
    refine o_isub hx hb dX8_isFitting_77 h (fun v9 h => ?_)
    refine lv_aload_n hx hb dX8_isFitting_78 rfl (lv_at hl 1 rfl) ?_
    refine z_get (C := RX8) (T := TX8) (N := 12) (ci := 7) hx hb hts zin_X8 hown hK.1 hP 0 0 rfl rfl (by decide) tw795 rfl rfl dX8_isFitting_79 ?_
    refine lv_iconst (v := (0 : Int32)) hx hb dX8_isFitting_82 (by decide) ?_
    refine y_ialdc hx hb hK hP 1 0 0 rfl rfl (by decide) (by decide) h dX8_isFitting_83 (fun v10 h => ?_)
    refine o_isub hx hb dX8_isFitting_84 h (fun v11 h => ?_)
    refine lv_iconst (v := (1 : Int32)) hx hb dX8_isFitting_85 (by decide) ?_
    refine zc_lt (tgt := 93) hx hb dX8_isFitting_86 (by decide) h (fun h => ?_) (fun h => ?_)
    · refine lv_iconst (v := (0 : Int32)) hx hb dX8_isFitting_93 (by decide) ?_
      refine lv_istore (lv' := [(8, .int (0 : Int32)), (7, .int y0), (0, .ref (a 30)), (1, .int p1), (2, .int p2), (3, .int p3), (4, .int p4), (5, .int x5), (6, .int x6)]) hx hb dX8_isFitting_94 hl (by decide) rfl (fun ls hl => ?_)
      refine lv_iload hx hb dX8_isFitting_96 (lv_at hl 0 rfl) ?_
      refine zi_eq (tgt := 135) hx hb dX8_isFitting_98 (by decide) h (fun h => ?_) (fun h => ?_)
      · refine lv_iconst (v := (0 : Int32)) hx hb dX8_isFitting_135 (by decide) ?_
        cases h
        exact zX_z hx hb hr hlocks hP hD hS hAe dX8_isFitting_136 (by decide) rfl
      · refine lv_aload_n hx hb dX8_isFitting_101 rfl (lv_at hl 2 rfl) ?_
        refine z_get (C := RX8) (T := TX8) (N := 12) (ci := 7) hx hb hts zin_X8 hown hK.1 hP 0 0 rfl rfl (by decide) tw795 rfl rfl dX8_isFitting_102 ?_
        refine lv_iload_n hx hb dX8_isFitting_105 rfl (lv_at hl 4 rfl) ?_
        refine lv_bipush (v := (6 : Int32)) hx hb dX8_isFitting_106 (by decide) ?_
        obtain ⟨v12, hc, h⟩ := zb1_s h
        refine zE_i (zrS (As := [.int p2, .int (6 : Int32)]) (rest := [.ref (a 31)]) hx hb hml hown hts tw874 ms_X8_at ⟨Nat.le_of_ble_eq_true rfl, Nat.le_of_ble_eq_true rfl⟩ rfl rfl (ct_X8_at l p2 (6 : Int32) k v12 hc) z_p0 hl.1 rfl rfl (Nat.le_of_ble_eq_true rfl) dX8_isFitting_108 ⟨Nat.le_refl _, Nat.le_refl _⟩) ?_
        refine y_iald hx hb hK hP 1 0 rfl rfl h dX8_isFitting_111 (fun v13 h => ?_)
        refine zi_ne (tgt := 135) hx hb dX8_isFitting_112 (by decide) h (fun h => ?_) (fun h => ?_)
        · refine lv_iconst (v := (0 : Int32)) hx hb dX8_isFitting_135 (by decide) ?_
          cases h
          exact zX_z hx hb hr hlocks hP hD hS hAe dX8_isFitting_136 (by decide) rfl
        · refine lv_aload_n hx hb dX8_isFitting_115 rfl (lv_at hl 2 rfl) ?_
          refine lv_iload_n hx hb dX8_isFitting_116 rfl (lv_at hl 3 rfl) ?_
          refine lv_iload hx hb dX8_isFitting_117 (lv_at hl 7 rfl) ?_
          refine lv_iload hx hb dX8_isFitting_119 (lv_at hl 8 rfl) ?_
          refine lv_iload hx hb dX8_isFitting_121 (lv_at hl 1 rfl) ?_
          obtain ⟨v14, so15, hc, h⟩ := zb2_s h
          refine zG_i (w1 := wX8 ct a ms ah hi kp sl sv pd ln so15 po wr to) (ws' := wX8 ct a ms ah hi kp sl sv pd ln so15 po wr to) hP hD hS hA [0, 1, 2, 3, 4, 5, 6, 7, 8] [] [0, 1, 2, 3, 4, 5, 6, 7, 8] rfl rfl (by decide) (by decide) rfl (by decide) (zrV (C := RX8) (As := [.int p1, .int x5, .int x6, .int y0]) (rest := []) hx hb hml hown hts tw936 mv_X8_excess ⟨Nat.le_of_ble_eq_true rfl, Nat.le_of_ble_eq_true rfl⟩ rfl rfl (ct_X8_excess l D ct a ms ah hi kp sl sv pd ln so_ po wr to _ p1 x5 x6 y0 k v14 so15 hc) (z_wv hK hP hD [0, 1, 2, 3, 4, 5, 6, 7, 8] (by decide) rfl 0 rfl rfl) hl.1 rfl rfl (Nat.le_of_ble_eq_true rfl) dX8_isFitting_123 ⟨Nat.le_refl _, Nat.le_refl _⟩) (fun H locs hP hD hS => ?_)
          refine lv_bipush (v := (-6 : Int32)) hx hb dX8_isFitting_126 (by decide) ?_
          refine zc_eq (tgt := 135) hx hb dX8_isFitting_128 (by decide) h (fun h => ?_) (fun h => ?_)
          · refine lv_iconst (v := (0 : Int32)) hx hb dX8_isFitting_135 (by decide) ?_
            cases h
            exact zX_z hx hb hr hlocks hP hD hS hAe dX8_isFitting_136 (by decide) rfl
          · refine lv_iconst (v := (1 : Int32)) hx hb dX8_isFitting_131 (by decide) ?_
            refine lv_goto (tgt := 136) hx hb dX8_isFitting_132 (by decide) ?_
            cases h
            exact zX_z hx hb hr hlocks hP hD hS hAe dX8_isFitting_136 (by decide) rfl
    · refine lv_iconst (v := (1 : Int32)) hx hb dX8_isFitting_89 (by decide) ?_
      refine lv_goto (tgt := 94) hx hb dX8_isFitting_90 (by decide) ?_
      refine lv_istore (lv' := [(8, .int (1 : Int32)), (7, .int y0), (0, .ref (a 30)), (1, .int p1), (2, .int p2), (3, .int p3), (4, .int p4), (5, .int x5), (6, .int x6)]) hx hb dX8_isFitting_94 hl (by decide) rfl (fun ls hl => ?_)
      refine lv_iload hx hb dX8_isFitting_96 (lv_at hl 0 rfl) ?_
      refine zi_eq (tgt := 135) hx hb dX8_isFitting_98 (by decide) h (fun h => ?_) (fun h => ?_)
      · refine lv_iconst (v := (0 : Int32)) hx hb dX8_isFitting_135 (by decide) ?_
        cases h
        exact zX_z hx hb hr hlocks hP hD hS hAe dX8_isFitting_136 (by decide) rfl
      · refine lv_aload_n hx hb dX8_isFitting_101 rfl (lv_at hl 2 rfl) ?_
        refine z_get (C := RX8) (T := TX8) (N := 12) (ci := 7) hx hb hts zin_X8 hown hK.1 hP 0 0 rfl rfl (by decide) tw795 rfl rfl dX8_isFitting_102 ?_
        refine lv_iload_n hx hb dX8_isFitting_105 rfl (lv_at hl 4 rfl) ?_
        refine lv_bipush (v := (6 : Int32)) hx hb dX8_isFitting_106 (by decide) ?_
        obtain ⟨v16, hc, h⟩ := zb1_s h
        refine zE_i (zrS (As := [.int p2, .int (6 : Int32)]) (rest := [.ref (a 31)]) hx hb hml hown hts tw874 ms_X8_at ⟨Nat.le_of_ble_eq_true rfl, Nat.le_of_ble_eq_true rfl⟩ rfl rfl (ct_X8_at l p2 (6 : Int32) k v16 hc) z_p0 hl.1 rfl rfl (Nat.le_of_ble_eq_true rfl) dX8_isFitting_108 ⟨Nat.le_refl _, Nat.le_refl _⟩) ?_
        refine y_iald hx hb hK hP 1 0 rfl rfl h dX8_isFitting_111 (fun v17 h => ?_)
        refine zi_ne (tgt := 135) hx hb dX8_isFitting_112 (by decide) h (fun h => ?_) (fun h => ?_)
        · refine lv_iconst (v := (0 : Int32)) hx hb dX8_isFitting_135 (by decide) ?_
          cases h
          exact zX_z hx hb hr hlocks hP hD hS hAe dX8_isFitting_136 (by decide) rfl
        · refine lv_aload_n hx hb dX8_isFitting_115 rfl (lv_at hl 2 rfl) ?_
          refine lv_iload_n hx hb dX8_isFitting_116 rfl (lv_at hl 3 rfl) ?_
          refine lv_iload hx hb dX8_isFitting_117 (lv_at hl 7 rfl) ?_
          refine lv_iload hx hb dX8_isFitting_119 (lv_at hl 8 rfl) ?_
          refine lv_iload hx hb dX8_isFitting_121 (lv_at hl 1 rfl) ?_
          obtain ⟨v18, so19, hc, h⟩ := zb2_s h
          refine zG_i (w1 := wX8 ct a ms ah hi kp sl sv pd ln so19 po wr to) (ws' := wX8 ct a ms ah hi kp sl sv pd ln so19 po wr to) hP hD hS hA [0, 1, 2, 3, 4, 5, 6, 7, 8] [] [0, 1, 2, 3, 4, 5, 6, 7, 8] rfl rfl (by decide) (by decide) rfl (by decide) (zrV (C := RX8) (As := [.int p1, .int x5, .int x6, .int y0]) (rest := []) hx hb hml hown hts tw936 mv_X8_excess ⟨Nat.le_of_ble_eq_true rfl, Nat.le_of_ble_eq_true rfl⟩ rfl rfl (ct_X8_excess l D ct a ms ah hi kp sl sv pd ln so_ po wr to _ p1 x5 x6 y0 k v18 so19 hc) (z_wv hK hP hD [0, 1, 2, 3, 4, 5, 6, 7, 8] (by decide) rfl 0 rfl rfl) hl.1 rfl rfl (Nat.le_of_ble_eq_true rfl) dX8_isFitting_123 ⟨Nat.le_refl _, Nat.le_refl _⟩) (fun H locs hP hD hS => ?_)
          refine lv_bipush (v := (-6 : Int32)) hx hb dX8_isFitting_126 (by decide) ?_
          refine zc_eq (tgt := 135) hx hb dX8_isFitting_128 (by decide) h (fun h => ?_) (fun h => ?_)
          · refine lv_iconst (v := (0 : Int32)) hx hb dX8_isFitting_135 (by decide) ?_
            cases h
            exact zX_z hx hb hr hlocks hP hD hS hAe dX8_isFitting_136 (by decide) rfl
          · refine lv_iconst (v := (1 : Int32)) hx hb dX8_isFitting_131 (by decide) ?_
            refine lv_goto (tgt := 136) hx hb dX8_isFitting_132 (by decide) ?_
            cases h
            exact zX_z hx hb hr hlocks hP hD hS hAe dX8_isFitting_136 (by decide) rfl
  have B41 : ∀ (so_ : Nat → Int32) (x5 : Int32) (y0 : Int32), f_X8_isFitting_b41 k ms p1 p2 p3 p4 so_ x5 y0 = some (r, so') → ∀ (H : Heap) (locs : List Loc), va_P D vwCl (wX8 ct a ms ah hi kp sl sv pd ln so_ po wr to) H → va_D A (wX8 ct a ms ah hi kp sl sv pd ln so_ po wr to) → va_S A s.heap H locs → ∀ (ls : Array Slot), lv_has ls 9 [(0, .ref (a 30)), (1, .int p1), (2, .int p2), (3, .int p3), (4, .int p4), (5, .int x5)] → W p l e ({ frames := 2, cells := 0, slots := 0, locals := 53 } : Room) s m ([.ref (a 30), .int p1, .int p2, .int p3, .int p4] : List Value).toArray below meth c H locs 0 0 (MQ below (va_Qi (fun r' (_ : Unit) => r' = r) (zQW D (wX8 ct a ms ah hi kp sl sv pd ln so po wr to) s.heap.size (wX8 ct a ms ah hi kp sl sv pd ln so' po wr to)) (va_A (wX8 ct a ms ah hi kp sl sv pd ln so po wr to) s.heap.size)) ([.ref (a 30), .int p1, .int p2, .int p3, .int p4] : List Value).toArray s 0 0 (va_A (wX8 ct a ms ah hi kp sl sv pd ln so po wr to) s.heap.size)) (F0 m 41 ls [.int y0]) := by
    intro so_ x5 y0 h H locs hP hD hS ls hl
    rw [f_X8_isFitting_b41] at h
    refine lv_istore (lv' := [(6, .int y0), (0, .ref (a 30)), (1, .int p1), (2, .int p2), (3, .int p3), (4, .int p4), (5, .int x5)]) hx hb dX8_isFitting_41 hl (by decide) rfl (fun ls hl => ?_)
    refine lv_iload_n hx hb dX8_isFitting_43 rfl (lv_at hl 4 rfl) ?_
    refine lv_iconst (v := (2 : Int32)) hx hb dX8_isFitting_44 (by decide) ?_
    refine zc_ne (tgt := 53) hx hb dX8_isFitting_45 (by decide) h (fun h => ?_) (fun h => ?_)
    · refine lv_aload_n hx hb dX8_isFitting_53 rfl (lv_at hl 1 rfl) ?_
      refine z_get (C := RX8) (T := TX8) (N := 12) (ci := 7) hx hb hts zin_X8 hown hK.1 hP 0 0 rfl rfl (by decide) tw795 rfl rfl dX8_isFitting_54 ?_
      refine lv_iload_n hx hb dX8_isFitting_57 rfl (lv_at hl 3 rfl) ?_
      refine lv_iconst (v := (2 : Int32)) hx hb dX8_isFitting_58 (by decide) ?_
      obtain ⟨v5, hc, h⟩ := zb1_s h
      refine zE_i (zrS (As := [.int p2, .int (2 : Int32)]) (rest := [.ref (a 31)]) hx hb hml hown hts tw874 ms_X8_at ⟨Nat.le_of_ble_eq_true rfl, Nat.le_of_ble_eq_true rfl⟩ rfl rfl (ct_X8_at l p2 (2 : Int32) k v5 hc) z_p0 hl.1 rfl rfl (Nat.le_of_ble_eq_true rfl) dX8_isFitting_59 ⟨Nat.le_refl _, Nat.le_refl _⟩) ?_
      refine y_iald hx hb hK hP 1 0 rfl rfl h dX8_isFitting_62 (fun v6 h => ?_)
      exact B63 so_ x5 y0 v6 h _ _ hP hD hS ls (lv_sub hl [1, 2, 3, 4, 5, 6, 0] rfl)
    · refine lv_iload hx hb dX8_isFitting_48 (lv_at hl 5 rfl) ?_
      refine lv_goto (tgt := 63) hx hb dX8_isFitting_50 (by decide) ?_
      exact B63 so_ x5 y0 p4 h _ _ hP hD hS ls (lv_sub hl [1, 2, 3, 4, 5, 6, 0] rfl)
  have B19 : ∀ (so_ : Nat → Int32) (y0 : Int32), f_X8_isFitting_b19 k ms p1 p2 p3 p4 so_ y0 = some (r, so') → ∀ (H : Heap) (locs : List Loc), va_P D vwCl (wX8 ct a ms ah hi kp sl sv pd ln so_ po wr to) H → va_D A (wX8 ct a ms ah hi kp sl sv pd ln so_ po wr to) → va_S A s.heap H locs → ∀ (ls : Array Slot), lv_has ls 9 [(0, .ref (a 30)), (1, .int p1), (2, .int p2), (3, .int p3), (4, .int p4)] → W p l e ({ frames := 2, cells := 0, slots := 0, locals := 53 } : Room) s m ([.ref (a 30), .int p1, .int p2, .int p3, .int p4] : List Value).toArray below meth c H locs 0 0 (MQ below (va_Qi (fun r' (_ : Unit) => r' = r) (zQW D (wX8 ct a ms ah hi kp sl sv pd ln so po wr to) s.heap.size (wX8 ct a ms ah hi kp sl sv pd ln so' po wr to)) (va_A (wX8 ct a ms ah hi kp sl sv pd ln so po wr to) s.heap.size)) ([.ref (a 30), .int p1, .int p2, .int p3, .int p4] : List Value).toArray s 0 0 (va_A (wX8 ct a ms ah hi kp sl sv pd ln so po wr to) s.heap.size)) (F0 m 19 ls [.int y0]) := by
    intro so_ y0 h H locs hP hD hS ls hl
    rw [f_X8_isFitting_b19] at h
    refine lv_istore (lv' := [(5, .int y0), (0, .ref (a 30)), (1, .int p1), (2, .int p2), (3, .int p3), (4, .int p4)]) hx hb dX8_isFitting_19 hl (by decide) rfl (fun ls hl => ?_)
    refine lv_iload_n hx hb dX8_isFitting_21 rfl (lv_at hl 4 rfl) ?_
    refine lv_iconst (v := (1 : Int32)) hx hb dX8_isFitting_22 (by decide) ?_
    refine zc_ne (tgt := 31) hx hb dX8_isFitting_23 (by decide) h (fun h => ?_) (fun h => ?_)
    · refine lv_aload_n hx hb dX8_isFitting_31 rfl (lv_at hl 1 rfl) ?_
      refine z_get (C := RX8) (T := TX8) (N := 12) (ci := 7) hx hb hts zin_X8 hown hK.1 hP 0 0 rfl rfl (by decide) tw795 rfl rfl dX8_isFitting_32 ?_
      refine lv_iload_n hx hb dX8_isFitting_35 rfl (lv_at hl 3 rfl) ?_
      refine lv_iconst (v := (1 : Int32)) hx hb dX8_isFitting_36 (by decide) ?_
      obtain ⟨v3, hc, h⟩ := zb1_s h
      refine zE_i (zrS (As := [.int p2, .int (1 : Int32)]) (rest := [.ref (a 31)]) hx hb hml hown hts tw874 ms_X8_at ⟨Nat.le_of_ble_eq_true rfl, Nat.le_of_ble_eq_true rfl⟩ rfl rfl (ct_X8_at l p2 (1 : Int32) k v3 hc) z_p0 hl.1 rfl rfl (Nat.le_of_ble_eq_true rfl) dX8_isFitting_37 ⟨Nat.le_refl _, Nat.le_refl _⟩) ?_
      refine y_iald hx hb hK hP 1 0 rfl rfl h dX8_isFitting_40 (fun v4 h => ?_)
      exact B41 so_ y0 v4 h _ _ hP hD hS ls (lv_sub hl [1, 2, 3, 4, 5, 0] rfl)
    · refine lv_iload hx hb dX8_isFitting_26 (lv_at hl 5 rfl) ?_
      refine lv_goto (tgt := 41) hx hb dX8_isFitting_28 (by decide) ?_
      exact B41 so_ y0 p4 h _ _ hP hD hS ls (lv_sub hl [1, 2, 3, 4, 5, 0] rfl)
  rw [f_X8_isFitting] at h
  refine lv_iload_n hx hb dX8_isFitting_0 rfl (lv_at hl 3 rfl) ?_
  refine zi_ne (tgt := 9) hx hb dX8_isFitting_1 (by decide) h (fun h => ?_) (fun h => ?_)
  · refine lv_aload_n hx hb dX8_isFitting_9 rfl (lv_at hl 0 rfl) ?_
    refine z_get (C := RX8) (T := TX8) (N := 12) (ci := 7) hx hb hts zin_X8 hown hK.1 hP 0 0 rfl rfl (by decide) tw795 rfl rfl dX8_isFitting_10 ?_
    refine lv_iload_n hx hb dX8_isFitting_13 rfl (lv_at hl 2 rfl) ?_
    refine lv_iconst (v := (0 : Int32)) hx hb dX8_isFitting_14 (by decide) ?_
    obtain ⟨v1, hc, h⟩ := zb1_s h
    refine zE_i (zrS (As := [.int p2, .int (0 : Int32)]) (rest := [.ref (a 31)]) hx hb hml hown hts tw874 ms_X8_at ⟨Nat.le_of_ble_eq_true rfl, Nat.le_of_ble_eq_true rfl⟩ rfl rfl (ct_X8_at l p2 (0 : Int32) k v1 hc) z_p0 hl.1 rfl rfl (Nat.le_of_ble_eq_true rfl) dX8_isFitting_15 ⟨Nat.le_refl _, Nat.le_refl _⟩) ?_
    refine y_iald hx hb hK hP 1 0 rfl rfl h dX8_isFitting_18 (fun v2 h => ?_)
    exact B19 so v2 h _ _ hP hD hS ls (lv_sub hl [0, 1, 2, 3, 4] rfl)
  · refine lv_iload hx hb dX8_isFitting_4 (lv_at hl 4 rfl) ?_
    refine lv_goto (tgt := 19) hx hb dX8_isFitting_6 (by decide) ?_
    exact B19 so p4 h _ _ hP hD hS ls (lv_sub hl [0, 1, 2, 3, 4] rfl)

def f_X8_fittingCut_b44 (k : Nat) (ms : Nat → Int32) (p1 : Int32) (p2 : Int32) (p3 : Int32)  : Nat → (Nat → Int32) → Int32 → Option (Int32 × (Nat → Int32))
  | 0, _, _ => none
  | n + 1, so_, x4 =>
    if (900 : Int32) ≤ x4 then
      some ((-6 : Int32), so_)
    else
      zl (x4 / (300 : Int32)) fun v5 =>
      zl (x4 - x4 / (300 : Int32) * (300 : Int32)) fun v6 =>
      zl ((1 : Int32) + v6) fun v7 =>
      zb2 (f_X8_isFitting k ms so_ p1 p2 v5 v7) fun v8 so9 =>
      if v8 = 0 then
        zl (x4 + (1 : Int32)) fun v10 =>
        f_X8_fittingCut_b44 k ms p1 p2 p3 n so9 v10
      else
        if p3 = 0 then
          zl (x4 / (300 : Int32)) fun v13 =>
          some (v13, so9)
        else
          zl (x4 - x4 / (300 : Int32) * (300 : Int32)) fun v11 =>
          zl ((1 : Int32) + v11) fun v12 =>
          some (v12, so9)
def f_X8_fittingCut (k : Nat) (ms : Nat → Int32) (so : Nat → Int32) (p1 : Int32) (p2 : Int32) (p3 : Int32) : Option (Int32 × (Nat → Int32)) :=
  zb1 (f_X8_isOrder k ms p1) fun v1 =>
  if v1 = 0 then
    some ((-1 : Int32), so)
  else
    zb1 (f_X8_isBlock k ms p2) fun v2 =>
    if v2 = 0 then
      some ((-1 : Int32), so)
    else
      zb1 (f_X8_in k p3 (0 : Int32) (1 : Int32)) fun v3 =>
      if v3 = 0 then
        some ((-2 : Int32), so)
      else
        zb1 (f_X8_canBeCut k ms p2) fun v4 =>
        if v4 = 0 then
          some ((-5 : Int32), so)
        else
          f_X8_fittingCut_b44 k ms p1 p2 p3 k so (0 : Int32)
set_option maxRecDepth 100000 in
set_option maxHeartbeats 4000000 in
theorem ct_X8_fittingCut (l : Launch) (D : va_G) (ct a : Nat → Nat) (ms : Nat → Int32) (ah : Nat → Int32) (hi : Nat → Int32) (kp : Int32) (sl : Nat → Int32) (sv : Nat → Int32) (pd : Nat → Int32) (ln : Int32) (so : Nat → Int32) (po : Int32) (wr : Int32) (to : Nat → Int32) (sz : Nat) (p1 : Int32) (p2 : Int32) (p3 : Int32) (k : Nat) (r : Int32) (so' : Nat → Int32) (h : f_X8_fittingCut k ms so p1 p2 p3 = some (r, so')) : Met l yX8_fittingCut (Cond.code yX8_fittingCut cX8_fittingCut 5 (some .int) :: zT) ({ frames := 4, cells := 0, slots := 0, locals := 85 } : Room) (va_Pc [.ref (a 30), .int p1, .int p2, .int p3] (zPW D (zTys ct) (wX8 ct a ms ah hi kp sl sv pd ln so po wr to) sz)) (va_Qi (fun r' (_ : Unit) => r' = r) (zQW D (wX8 ct a ms ah hi kp sl sv pd ln so po wr to) sz (wX8 ct a ms ah hi kp sl sv pd ln so' po wr to)) (va_A (wX8 ct a ms ah hi kp sl sv pd ln so po wr to) sz)) 0 0 (va_A (wX8 ct a ms ah hi kp sl sv pd ln so po wr to) sz) := by
  refine zMet (cc := cX8_fittingCut) (maxL := 5) (ret := (some .int)) (av := [.ref (a 30), .int p1, .int p2, .int p3]) (by decide) (Nat.le_of_ble_eq_true rfl) (fun p e s m below meth c ls hx hb hr hml hts hown hlocks hin hB hl => ?_)
  have hl : lv_has ls 5 [(0, .ref (a 30)), (1, .int p1), (2, .int p2), (3, .int p3)] := hl
  have hown : s.vm.findClass RX8 = some m.cls := hown
  obtain ⟨hsz, hP, hK, hD0⟩ := hB
  subst hsz
  have hD := hD0.self (sz := s.heap.size)
  obtain ⟨A, hAe⟩ : ∃ A, A = va_A (wX8 ct a ms ah hi kp sl sv pd ln so po wr to) s.heap.size := ⟨_, rfl⟩
  rw [← hAe] at hD
  have hA : ∀ q : Nat, s.heap.size ≤ q → A q := fun q h => by rw [hAe]; exact Or.inr h
  have hS : va_S A s.heap s.heap [] := va_S.rf
  have B44 : ∀ (n : Nat), ∀ (so_ : Nat → Int32) (x4 : Int32), f_X8_fittingCut_b44 k ms p1 p2 p3 n so_ x4 = some (r, so') → ∀ (H : Heap) (locs : List Loc), va_P D vwCl (wX8 ct a ms ah hi kp sl sv pd ln so_ po wr to) H → va_D A (wX8 ct a ms ah hi kp sl sv pd ln so_ po wr to) → va_S A s.heap H locs → ∀ (ls : Array Slot), lv_has ls 5 [(0, .ref (a 30)), (1, .int p1), (2, .int p2), (3, .int p3), (4, .int x4)] → W p l e ({ frames := 4, cells := 0, slots := 0, locals := 85 } : Room) s m ([.ref (a 30), .int p1, .int p2, .int p3] : List Value).toArray below meth c H locs 0 0 (MQ below (va_Qi (fun r' (_ : Unit) => r' = r) (zQW D (wX8 ct a ms ah hi kp sl sv pd ln so po wr to) s.heap.size (wX8 ct a ms ah hi kp sl sv pd ln so' po wr to)) (va_A (wX8 ct a ms ah hi kp sl sv pd ln so po wr to) s.heap.size)) ([.ref (a 30), .int p1, .int p2, .int p3] : List Value).toArray s 0 0 (va_A (wX8 ct a ms ah hi kp sl sv pd ln so po wr to) s.heap.size)) (F0 m 44 ls []) := by
    intro n
    induction n with
    | zero => intro so_ x4 h; exact absurd h (by rw [f_X8_fittingCut_b44]; exact fun q => nomatch q)
    | succ n ih44 =>
      intro so_ x4 h H locs hP hD hS ls hl
      rw [f_X8_fittingCut_b44] at h
      refine lv_iload hx hb dX8_fittingCut_44 (lv_at hl 4 rfl) ?_
      refine lv_sipush (v := (900 : Int32)) hx hb dX8_fittingCut_46 (by decide) ?_
      refine zc_ge (tgt := 103) hx hb dX8_fittingCut_49 (by decide) h (fun h => ?_) (fun h => ?_)
      · refine lv_bipush (v := (-6 : Int32)) hx hb dX8_fittingCut_103 (by decide) ?_
        cases h
        exact zX_i hx hb hr hlocks hP hD hS hAe dX8_fittingCut_105 rfl
      · refine lv_aload_n hx hb dX8_fittingCut_52 rfl (lv_at hl 0 rfl) ?_
        refine lv_iload_n hx hb dX8_fittingCut_53 rfl (lv_at hl 1 rfl) ?_
        refine lv_iload_n hx hb dX8_fittingCut_54 rfl (lv_at hl 2 rfl) ?_
        refine lv_iload hx hb dX8_fittingCut_55 (lv_at hl 4 rfl) ?_
        refine lv_sipush (v := (300 : Int32)) hx hb dX8_fittingCut_57 (by decide) ?_
        refine o_idiv hx hb dX8_fittingCut_60 (by decide) h (fun v5 h => ?_)
        refine lv_iconst (v := (1 : Int32)) hx hb dX8_fittingCut_61 (by decide) ?_
        refine lv_iload hx hb dX8_fittingCut_62 (lv_at hl 4 rfl) ?_
        refine lv_sipush (v := (300 : Int32)) hx hb dX8_fittingCut_64 (by decide) ?_
        refine o_irem hx hb dX8_fittingCut_67 (by decide) h (fun v6 h => ?_)
        refine o_iadd hx hb dX8_fittingCut_68 h (fun v7 h => ?_)
        obtain ⟨v8, so9, hc, h⟩ := zb2_s h
        refine zG_i (w1 := wX8 ct a ms ah hi kp sl sv pd ln so9 po wr to) (ws' := wX8 ct a ms ah hi kp sl sv pd ln so9 po wr to) hP hD hS hA [0, 1, 2, 3, 4, 5, 6, 7, 8] [] [0, 1, 2, 3, 4, 5, 6, 7, 8] rfl rfl (by decide) (by decide) rfl (by decide) (zrV (C := RX8) (As := [.int p1, .int p2, .int v5, .int v7]) (rest := []) hx hb hml hown hts tw1090 mv_X8_isFitting ⟨Nat.le_of_ble_eq_true rfl, Nat.le_of_ble_eq_true rfl⟩ rfl rfl (ct_X8_isFitting l D ct a ms ah hi kp sl sv pd ln so_ po wr to _ p1 p2 v5 v7 k v8 so9 hc) (z_wv hK hP hD [0, 1, 2, 3, 4, 5, 6, 7, 8] (by decide) rfl 0 rfl rfl) hl.1 rfl rfl (Nat.le_of_ble_eq_true rfl) dX8_fittingCut_69 ⟨Nat.le_refl _, Nat.le_refl _⟩) (fun H locs hP hD hS => ?_)
        refine zi_eq (tgt := 97) hx hb dX8_fittingCut_72 (by decide) h (fun h => ?_) (fun h => ?_)
        · refine o_nm h (fun v10 ey h => ?_)
          refine lv_iinc (v := v10) (lv' := [(4, .int v10), (0, .ref (a 30)), (1, .int p1), (2, .int p2), (3, .int p3)]) hx hb dX8_fittingCut_97 hl (k := 4) rfl (Eq.trans rfl ey) (by decide) rfl (fun ls hl => ?_)
          refine lv_goto (tgt := 44) hx hb dX8_fittingCut_100 (by decide) ?_
          exact ih44 so9 v10 h _ _ hP hD hS ls (lv_sub hl [1, 2, 3, 4, 0] rfl)
        · refine lv_iload_n hx hb dX8_fittingCut_75 rfl (lv_at hl 3 rfl) ?_
          refine zi_ne (tgt := 88) hx hb dX8_fittingCut_76 (by decide) h (fun h => ?_) (fun h => ?_)
          · refine lv_iconst (v := (1 : Int32)) hx hb dX8_fittingCut_88 (by decide) ?_
            refine lv_iload hx hb dX8_fittingCut_89 (lv_at hl 4 rfl) ?_
            refine lv_sipush (v := (300 : Int32)) hx hb dX8_fittingCut_91 (by decide) ?_
            refine o_irem hx hb dX8_fittingCut_94 (by decide) h (fun v11 h => ?_)
            refine o_iadd hx hb dX8_fittingCut_95 h (fun v12 h => ?_)
            cases h
            exact zX_i hx hb hr hlocks hP hD hS hAe dX8_fittingCut_96 rfl
          · refine lv_iload hx hb dX8_fittingCut_79 (lv_at hl 4 rfl) ?_
            refine lv_sipush (v := (300 : Int32)) hx hb dX8_fittingCut_81 (by decide) ?_
            refine o_idiv hx hb dX8_fittingCut_84 (by decide) h (fun v13 h => ?_)
            refine lv_goto (tgt := 96) hx hb dX8_fittingCut_85 (by decide) ?_
            cases h
            exact zX_i hx hb hr hlocks hP hD hS hAe dX8_fittingCut_96 rfl
  rw [f_X8_fittingCut] at h
  refine lv_aload_n hx hb dX8_fittingCut_0 rfl (lv_at hl 0 rfl) ?_
  refine lv_iload_n hx hb dX8_fittingCut_1 rfl (lv_at hl 1 rfl) ?_
  obtain ⟨v1, hc, h⟩ := zb1_s h
  refine zE_i (zrV (C := RX8) (As := [.int p1]) (rest := []) hx hb hml hown hts tw924 mv_X8_isOrder ⟨Nat.le_of_ble_eq_true rfl, Nat.le_of_ble_eq_true rfl⟩ rfl rfl (ct_X8_isOrder l D ct a ms ah hi kp sl sv pd ln so po wr to p1 k v1 hc) (z_pv hK hP [0, 1, 2, 3, 4, 5, 6, 7, 8] rfl 0 rfl rfl) hl.1 rfl rfl (Nat.le_of_ble_eq_true rfl) dX8_fittingCut_2 ⟨Nat.le_refl _, Nat.le_refl _⟩) ?_
  refine zi_eq (tgt := 16) hx hb dX8_fittingCut_5 (by decide) h (fun h => ?_) (fun h => ?_)
  · refine lv_iconst (v := (-1 : Int32)) hx hb dX8_fittingCut_16 (by decide) ?_
    cases h
    exact zX_i hx hb hr hlocks hP hD hS hAe dX8_fittingCut_17 rfl
  · refine lv_aload_n hx hb dX8_fittingCut_8 rfl (lv_at hl 0 rfl) ?_
    refine lv_iload_n hx hb dX8_fittingCut_9 rfl (lv_at hl 2 rfl) ?_
    obtain ⟨v2, hc, h⟩ := zb1_s h
    refine zE_i (zrV (C := RX8) (As := [.int p2]) (rest := []) hx hb hml hown hts tw885 mv_X8_isBlock ⟨Nat.le_of_ble_eq_true rfl, Nat.le_of_ble_eq_true rfl⟩ rfl rfl (ct_X8_isBlock l D ct a ms ah hi kp sl sv pd ln so po wr to p2 k v2 hc) (z_pv hK hP [0, 1, 2, 3, 4, 5, 6, 7, 8] rfl 0 rfl rfl) hl.1 rfl rfl (Nat.le_of_ble_eq_true rfl) dX8_fittingCut_10 ⟨Nat.le_refl _, Nat.le_refl _⟩) ?_
    refine zi_ne (tgt := 18) hx hb dX8_fittingCut_13 (by decide) h (fun h => ?_) (fun h => ?_)
    · refine lv_iload_n hx hb dX8_fittingCut_18 rfl (lv_at hl 3 rfl) ?_
      refine lv_iconst (v := (0 : Int32)) hx hb dX8_fittingCut_19 (by decide) ?_
      refine lv_iconst (v := (1 : Int32)) hx hb dX8_fittingCut_20 (by decide) ?_
      obtain ⟨v3, hc, h⟩ := zb1_s h
      refine zE_i (zrS (As := [.int p3, .int (0 : Int32), .int (1 : Int32)]) (rest := []) hx hb hml hown hts tw836 ms_X8_in ⟨Nat.le_of_ble_eq_true rfl, Nat.le_of_ble_eq_true rfl⟩ rfl rfl (ct_X8_in l p3 (0 : Int32) (1 : Int32) k v3 hc) z_p0 hl.1 rfl rfl (Nat.le_of_ble_eq_true rfl) dX8_fittingCut_21 ⟨Nat.le_refl _, Nat.le_refl _⟩) ?_
      refine zi_ne (tgt := 30) hx hb dX8_fittingCut_24 (by decide) h (fun h => ?_) (fun h => ?_)
      · refine lv_aload_n hx hb dX8_fittingCut_30 rfl (lv_at hl 0 rfl) ?_
        refine lv_iload_n hx hb dX8_fittingCut_31 rfl (lv_at hl 2 rfl) ?_
        obtain ⟨v4, hc, h⟩ := zb1_s h
        refine zE_i (zrV (C := RX8) (As := [.int p2]) (rest := []) hx hb hml hown hts tw889 mv_X8_canBeCut ⟨Nat.le_of_ble_eq_true rfl, Nat.le_of_ble_eq_true rfl⟩ rfl rfl (ct_X8_canBeCut l D ct a ms ah hi kp sl sv pd ln so po wr to p2 k v4 hc) (z_pv hK hP [0, 1, 2, 3, 4, 5, 6, 7, 8] rfl 0 rfl rfl) hl.1 rfl rfl (Nat.le_of_ble_eq_true rfl) dX8_fittingCut_32 ⟨Nat.le_refl _, Nat.le_refl _⟩) ?_
        refine zi_ne (tgt := 41) hx hb dX8_fittingCut_35 (by decide) h (fun h => ?_) (fun h => ?_)
        · refine lv_iconst (v := (0 : Int32)) hx hb dX8_fittingCut_41 (by decide) ?_
          refine lv_istore (lv' := [(4, .int (0 : Int32)), (0, .ref (a 30)), (1, .int p1), (2, .int p2), (3, .int p3)]) hx hb dX8_fittingCut_42 hl (by decide) rfl (fun ls hl => ?_)
          exact B44 k so (0 : Int32) h _ _ hP hD hS ls (lv_sub hl [1, 2, 3, 4, 0] rfl)
        · refine lv_bipush (v := (-5 : Int32)) hx hb dX8_fittingCut_38 (by decide) ?_
          cases h
          exact zX_i hx hb hr hlocks hP hD hS hAe dX8_fittingCut_40 rfl
      · refine lv_bipush (v := (-2 : Int32)) hx hb dX8_fittingCut_27 (by decide) ?_
        cases h
        exact zX_i hx hb hr hlocks hP hD hS hAe dX8_fittingCut_29 rfl
    · refine lv_iconst (v := (-1 : Int32)) hx hb dX8_fittingCut_16 (by decide) ?_
      cases h
      exact zX_i hx hb hr hlocks hP hD hS hAe dX8_fittingCut_17 rfl

def f_X8_ifFrost_b30 (k : Nat) (ms : Nat → Int32) (k4 : Int32 → Int32 → Option (Int32)) (x2 : Int32) (y0 : Int32) (y1 : Int32) : Option (Int32) :=
  zl (y1 ||| y0) fun v3 =>
  zl (x2 + (1 : Int32)) fun v4 =>
  k4 v3 v4
def f_X8_ifFrost_b4 (k : Nat) (ms : Nat → Int32)  : Nat → Int32 → Int32 → Option (Int32)
  | 0, _, _ => none
  | n + 1, x1, x2 =>
    zl (ms 5) fun v1 =>
    if v1 ≤ x2 then
      some x1
    else
      zb1 (f_X8_wouldCrack k ms x2) fun v2 =>
      if v2 = 0 then
        f_X8_ifFrost_b30 k ms (f_X8_ifFrost_b4 k ms n) x2 (0 : Int32) x1
      else
        zl ((1 : Int32) <<< (x2 &&& 31)) fun v5 =>
        f_X8_ifFrost_b30 k ms (f_X8_ifFrost_b4 k ms n) x2 v5 x1
def f_X8_ifFrost (k : Nat) (ms : Nat → Int32) : Option (Int32) :=
  f_X8_ifFrost_b4 k ms k (0 : Int32) (0 : Int32)
set_option maxRecDepth 100000 in
set_option maxHeartbeats 4000000 in
theorem ct_X8_ifFrost (l : Launch) (D : va_G) (ct a : Nat → Nat) (ms : Nat → Int32) (ah : Nat → Int32) (hi : Nat → Int32) (kp : Int32) (sl : Nat → Int32) (sv : Nat → Int32) (pd : Nat → Int32) (ln : Int32) (so : Nat → Int32) (po : Int32) (wr : Int32) (to : Nat → Int32) (k : Nat) (r : Int32) (h : f_X8_ifFrost k ms = some r) : Met l yX8_ifFrost (Cond.code yX8_ifFrost cX8_ifFrost 3 (some .int) :: zT) ({ frames := 3, cells := 0, slots := 0, locals := 64 } : Room) (va_Pc [.ref (a 30)] (zPR D (zTys ct) (wX8 ct a ms ah hi kp sl sv pd ln so po wr to))) (vp_Si (fun r' => r' = r)) 0 0 (fun _ => False) := by
  refine zMet (cc := cX8_ifFrost) (maxL := 3) (ret := (some .int)) (av := [.ref (a 30)]) (by decide) (Nat.le_of_ble_eq_true rfl) (fun p e s m below meth c ls hx hb hr hml hts hown hlocks hin hB hl => ?_)
  have hl : lv_has ls 3 [(0, .ref (a 30))] := hl
  have hown : s.vm.findClass RX8 = some m.cls := hown
  obtain ⟨hP, hK⟩ := hB
  have B30 : ∀ (k4 : Int32 → Int32 → Option (Int32)) (hk4 : ∀ (x1 : Int32) (x2 : Int32), k4 x1 x2 = some r → ∀ (ls : Array Slot), lv_has ls 3 [(0, .ref (a 30)), (1, .int x1), (2, .int x2)] → W p l e ({ frames := 3, cells := 0, slots := 0, locals := 64 } : Room) s m ([.ref (a 30)] : List Value).toArray below meth c s.heap [] 0 0 (MQ below (vp_Si (fun r' => r' = r)) ([.ref (a 30)] : List Value).toArray s 0 0 (fun _ => False)) (F0 m 4 ls [])), ∀ (x2 : Int32) (y0 : Int32) (y1 : Int32), f_X8_ifFrost_b30 k ms k4 x2 y0 y1 = some r → ∀ (ls : Array Slot), lv_has ls 3 [(0, .ref (a 30)), (2, .int x2)] → W p l e ({ frames := 3, cells := 0, slots := 0, locals := 64 } : Room) s m ([.ref (a 30)] : List Value).toArray below meth c s.heap [] 0 0 (MQ below (vp_Si (fun r' => r' = r)) ([.ref (a 30)] : List Value).toArray s 0 0 (fun _ => False)) (F0 m 30 ls [.int y0, .int y1]) := by
    intro k4 hk4
    intro x2 y0 y1 h ls hl
    rw [f_X8_ifFrost_b30] at h
    refine o_ior hx hb dX8_ifFrost_30 h (fun v3 h => ?_)
    refine lv_istore_n (lv' := [(1, .int v3), (0, .ref (a 30)), (2, .int x2)]) hx hb dX8_ifFrost_31 rfl hl (by decide) rfl (fun ls hl => ?_)
    refine o_nm h (fun v4 ey h => ?_)
    refine lv_iinc (v := v4) (lv' := [(2, .int v4), (1, .int v3), (0, .ref (a 30))]) hx hb dX8_ifFrost_32 hl (k := 2) rfl (Eq.trans rfl ey) (by decide) rfl (fun ls hl => ?_)
    refine lv_goto (tgt := 4) hx hb dX8_ifFrost_35 (by decide) ?_
    exact hk4 v3 v4 h ls (lv_sub hl [2, 1, 0] rfl)
  have B4 : ∀ (n : Nat), ∀ (x1 : Int32) (x2 : Int32), f_X8_ifFrost_b4 k ms n x1 x2 = some r → ∀ (ls : Array Slot), lv_has ls 3 [(0, .ref (a 30)), (1, .int x1), (2, .int x2)] → W p l e ({ frames := 3, cells := 0, slots := 0, locals := 64 } : Room) s m ([.ref (a 30)] : List Value).toArray below meth c s.heap [] 0 0 (MQ below (vp_Si (fun r' => r' = r)) ([.ref (a 30)] : List Value).toArray s 0 0 (fun _ => False)) (F0 m 4 ls []) := by
    intro n
    induction n with
    | zero => intro x1 x2 h; exact absurd h (by rw [f_X8_ifFrost_b4]; exact fun q => nomatch q)
    | succ n ih4 =>
      intro x1 x2 h ls hl
      rw [f_X8_ifFrost_b4] at h
      refine lv_iload_n hx hb dX8_ifFrost_4 rfl (lv_at hl 2 rfl) ?_
      refine lv_aload_n hx hb dX8_ifFrost_5 rfl (lv_at hl 0 rfl) ?_
      refine z_get (C := RX8) (T := TX8) (N := 12) (ci := 7) hx hb hts zin_X8 hown hK.1 hP 0 0 rfl rfl (by decide) tw795 rfl rfl dX8_ifFrost_6 ?_
      refine lv_iconst (v := (5 : Int32)) hx hb dX8_ifFrost_9 (by decide) ?_
      refine y_ialdc hx hb hK hP 1 0 5 rfl rfl (by decide) (by decide) h dX8_ifFrost_10 (fun v1 h => ?_)
      refine zc_ge (tgt := 38) hx hb dX8_ifFrost_11 (by decide) h (fun h => ?_) (fun h => ?_)
      · refine lv_iload_n hx hb dX8_ifFrost_38 rfl (lv_at hl 1 rfl) ?_
        exact zR_i hx hb hr hlocks dX8_ifFrost_39 h
      · refine lv_iload_n hx hb dX8_ifFrost_14 rfl (lv_at hl 1 rfl) ?_
        refine lv_aload_n hx hb dX8_ifFrost_15 rfl (lv_at hl 0 rfl) ?_
        refine lv_iload_n hx hb dX8_ifFrost_16 rfl (lv_at hl 2 rfl) ?_
        obtain ⟨v2, hc, h⟩ := zb1_s h
        refine zE_i (zrV (C := RX8) (As := [.int x2]) (rest := [.int x1]) hx hb hml hown hts tw959 mv_X8_wouldCrack ⟨Nat.le_of_ble_eq_true rfl, Nat.le_of_ble_eq_true rfl⟩ rfl rfl (ct_X8_wouldCrack l D ct a ms ah hi kp sl sv pd ln so po wr to x2 k v2 hc) (z_pv hK hP [0, 1, 2, 3, 4, 5, 6, 7, 8] rfl 0 rfl rfl) hl.1 rfl rfl (Nat.le_of_ble_eq_true rfl) dX8_ifFrost_17 ⟨Nat.le_refl _, Nat.le_refl _⟩) ?_
        refine zi_eq (tgt := 29) hx hb dX8_ifFrost_20 (by decide) h (fun h => ?_) (fun h => ?_)
        · refine lv_iconst (v := (0 : Int32)) hx hb dX8_ifFrost_29 (by decide) ?_
          exact B30 (f_X8_ifFrost_b4 k ms n) ih4 x2 (0 : Int32) x1 h ls (lv_sub hl [0, 2] rfl)
        · refine lv_iconst (v := (1 : Int32)) hx hb dX8_ifFrost_23 (by decide) ?_
          refine lv_iload_n hx hb dX8_ifFrost_24 rfl (lv_at hl 2 rfl) ?_
          refine o_ishl hx hb dX8_ifFrost_25 h (fun v5 h => ?_)
          refine lv_goto (tgt := 30) hx hb dX8_ifFrost_26 (by decide) ?_
          exact B30 (f_X8_ifFrost_b4 k ms n) ih4 x2 v5 x1 h ls (lv_sub hl [0, 2] rfl)
  rw [f_X8_ifFrost] at h
  refine lv_iconst (v := (0 : Int32)) hx hb dX8_ifFrost_0 (by decide) ?_
  refine lv_istore_n (lv' := [(1, .int (0 : Int32)), (0, .ref (a 30))]) hx hb dX8_ifFrost_1 rfl hl (by decide) rfl (fun ls hl => ?_)
  refine lv_iconst (v := (0 : Int32)) hx hb dX8_ifFrost_2 (by decide) ?_
  refine lv_istore_n (lv' := [(2, .int (0 : Int32)), (1, .int (0 : Int32)), (0, .ref (a 30))]) hx hb dX8_ifFrost_3 rfl hl (by decide) rfl (fun ls hl => ?_)
  exact B4 k (0 : Int32) (0 : Int32) h ls (lv_sub hl [2, 1, 0] rfl)

def f_X8_share (k : Nat) (ms : Nat → Int32) (p1 : Int32) (p2 : Int32) (p3 : Int32) : Option (UInt32) :=
  zb1 (f_X8_axle k ms p2 (0 : Int32) p1 p3) fun v1 =>
  zb1 (f_X8_ofLorryAt k p2 (0 : Int32)) fun v2 =>
  zg (zin v2 324) (zl (ms v2.toNatClampNeg) fun v3 =>
  zl (FP.i2f v3) fun v4 =>
  zg (z32 (FP.fdiv v1 v4)) (zl (FP.fdiv v1 v4) fun v5 =>
  zb1 (f_X8_axle k ms p2 (1 : Int32) p1 p3) fun v6 =>
  zb1 (f_X8_ofLorryAt k p2 (1 : Int32)) fun v7 =>
  zg (zin v7 324) (zl (ms v7.toNatClampNeg) fun v8 =>
  zl (FP.i2f v8) fun v9 =>
  zg (z32 (FP.fdiv v6 v9)) (zl (FP.fdiv v6 v9) fun v10 =>
  zl (Op.cmpValue (FP.fcmp v5 v10) CmpOp.l) fun v11 =>
  if v11 ≤ 0 then
    some v10
  else
    some v5))))
set_option maxRecDepth 100000 in
set_option maxHeartbeats 4000000 in
theorem ct_X8_share (l : Launch) (D : va_G) (ct a : Nat → Nat) (ms : Nat → Int32) (ah : Nat → Int32) (hi : Nat → Int32) (kp : Int32) (sl : Nat → Int32) (sv : Nat → Int32) (pd : Nat → Int32) (ln : Int32) (so : Nat → Int32) (po : Int32) (wr : Int32) (to : Nat → Int32) (p1 : Int32) (p2 : Int32) (p3 : Int32) (k : Nat) (r : UInt32) (h : f_X8_share k ms p1 p2 p3 = some r) : Met l yX8_share (Cond.code yX8_share cX8_share 6 (some .float) :: zT) ({ frames := 3, cells := 0, slots := 0, locals := 72 } : Room) (va_Pc [.ref (a 30), .int p1, .int p2, .int p3] (zPR D (zTys ct) (wX8 ct a ms ah hi kp sl sv pd ln so po wr to))) (vp_Sf (fun r' => r' = r)) 0 0 (fun _ => False) := by
  refine zMet (cc := cX8_share) (maxL := 6) (ret := (some .float)) (av := [.ref (a 30), .int p1, .int p2, .int p3]) (by decide) (Nat.le_of_ble_eq_true rfl) (fun p e s m below meth c ls hx hb hr hml hts hown hlocks hin hB hl => ?_)
  have hl : lv_has ls 6 [(0, .ref (a 30)), (1, .int p1), (2, .int p2), (3, .int p3)] := hl
  have hown : s.vm.findClass RX8 = some m.cls := hown
  obtain ⟨hP, hK⟩ := hB
  rw [f_X8_share] at h
  refine lv_aload_n hx hb dX8_share_0 rfl (lv_at hl 0 rfl) ?_
  refine lv_iload_n hx hb dX8_share_1 rfl (lv_at hl 2 rfl) ?_
  refine lv_iconst (v := (0 : Int32)) hx hb dX8_share_2 (by decide) ?_
  refine lv_iload_n hx hb dX8_share_3 rfl (lv_at hl 1 rfl) ?_
  refine lv_iload_n hx hb dX8_share_4 rfl (lv_at hl 3 rfl) ?_
  obtain ⟨v1, hc, h⟩ := zb1_s h
  refine zE_f (zrV (C := RX8) (As := [.int p2, .int (0 : Int32), .int p1, .int p3]) (rest := []) hx hb hml hown hts tw983 mv_X8_axle ⟨Nat.le_of_ble_eq_true rfl, Nat.le_of_ble_eq_true rfl⟩ rfl rfl (ct_X8_axle l D ct a ms ah hi kp sl sv pd ln so po wr to p2 (0 : Int32) p1 p3 k v1 hc) (z_pv hK hP [0, 1, 2, 3, 4, 5, 6, 7, 8] rfl 0 rfl rfl) hl.1 rfl rfl (Nat.le_of_ble_eq_true rfl) dX8_share_5 ⟨Nat.le_refl _, Nat.le_refl _⟩) ?_
  refine lv_aload_n hx hb dX8_share_8 rfl (lv_at hl 0 rfl) ?_
  refine z_get (C := RX8) (T := TX8) (N := 12) (ci := 7) hx hb hts zin_X8 hown hK.1 hP 0 0 rfl rfl (by decide) tw795 rfl rfl dX8_share_9 ?_
  refine lv_iload_n hx hb dX8_share_12 rfl (lv_at hl 2 rfl) ?_
  refine lv_iconst (v := (0 : Int32)) hx hb dX8_share_13 (by decide) ?_
  obtain ⟨v2, hc, h⟩ := zb1_s h
  refine zE_i (zrS (As := [.int p2, .int (0 : Int32)]) (rest := [.ref (a 31), .float v1]) hx hb hml hown hts tw792 ms_X8_ofLorryAt ⟨Nat.le_of_ble_eq_true rfl, Nat.le_of_ble_eq_true rfl⟩ rfl rfl (ct_X8_ofLorryAt l p2 (0 : Int32) k v2 hc) z_p0 hl.1 rfl rfl (Nat.le_of_ble_eq_true rfl) dX8_share_14 ⟨Nat.le_refl _, Nat.le_refl _⟩) ?_
  refine y_iald hx hb hK hP 1 0 rfl rfl h dX8_share_17 (fun v3 h => ?_)
  refine o_i2f hx hb dX8_share_18 h (fun v4 h => ?_)
  refine o_fdiv hx hb dX8_share_19 h (fun v5 h => ?_)
  refine lv_fstore (lv' := [(4, .float v5), (0, .ref (a 30)), (1, .int p1), (2, .int p2), (3, .int p3)]) hx hb dX8_share_20 hl (by decide) rfl (fun ls hl => ?_)
  refine lv_aload_n hx hb dX8_share_22 rfl (lv_at hl 1 rfl) ?_
  refine lv_iload_n hx hb dX8_share_23 rfl (lv_at hl 3 rfl) ?_
  refine lv_iconst (v := (1 : Int32)) hx hb dX8_share_24 (by decide) ?_
  refine lv_iload_n hx hb dX8_share_25 rfl (lv_at hl 2 rfl) ?_
  refine lv_iload_n hx hb dX8_share_26 rfl (lv_at hl 4 rfl) ?_
  obtain ⟨v6, hc, h⟩ := zb1_s h
  refine zE_f (zrV (C := RX8) (As := [.int p2, .int (1 : Int32), .int p1, .int p3]) (rest := []) hx hb hml hown hts tw983 mv_X8_axle ⟨Nat.le_of_ble_eq_true rfl, Nat.le_of_ble_eq_true rfl⟩ rfl rfl (ct_X8_axle l D ct a ms ah hi kp sl sv pd ln so po wr to p2 (1 : Int32) p1 p3 k v6 hc) (z_pv hK hP [0, 1, 2, 3, 4, 5, 6, 7, 8] rfl 0 rfl rfl) hl.1 rfl rfl (Nat.le_of_ble_eq_true rfl) dX8_share_27 ⟨Nat.le_refl _, Nat.le_refl _⟩) ?_
  refine lv_aload_n hx hb dX8_share_30 rfl (lv_at hl 1 rfl) ?_
  refine z_get (C := RX8) (T := TX8) (N := 12) (ci := 7) hx hb hts zin_X8 hown hK.1 hP 0 0 rfl rfl (by decide) tw795 rfl rfl dX8_share_31 ?_
  refine lv_iload_n hx hb dX8_share_34 rfl (lv_at hl 3 rfl) ?_
  refine lv_iconst (v := (1 : Int32)) hx hb dX8_share_35 (by decide) ?_
  obtain ⟨v7, hc, h⟩ := zb1_s h
  refine zE_i (zrS (As := [.int p2, .int (1 : Int32)]) (rest := [.ref (a 31), .float v6]) hx hb hml hown hts tw792 ms_X8_ofLorryAt ⟨Nat.le_of_ble_eq_true rfl, Nat.le_of_ble_eq_true rfl⟩ rfl rfl (ct_X8_ofLorryAt l p2 (1 : Int32) k v7 hc) z_p0 hl.1 rfl rfl (Nat.le_of_ble_eq_true rfl) dX8_share_36 ⟨Nat.le_refl _, Nat.le_refl _⟩) ?_
  refine y_iald hx hb hK hP 1 0 rfl rfl h dX8_share_39 (fun v8 h => ?_)
  refine o_i2f hx hb dX8_share_40 h (fun v9 h => ?_)
  refine o_fdiv hx hb dX8_share_41 h (fun v10 h => ?_)
  refine lv_fstore (lv' := [(5, .float v10), (4, .float v5), (0, .ref (a 30)), (1, .int p1), (2, .int p2), (3, .int p3)]) hx hb dX8_share_42 hl (by decide) rfl (fun ls hl => ?_)
  refine lv_fload hx hb dX8_share_44 (lv_at hl 1 rfl) ?_
  refine lv_fload hx hb dX8_share_46 (lv_at hl 0 rfl) ?_
  refine o_fcmp hx hb dX8_share_48 h (fun v11 h => ?_)
  refine zi_le (tgt := 57) hx hb dX8_share_49 (by decide) h (fun h => ?_) (fun h => ?_)
  · refine lv_fload hx hb dX8_share_57 (lv_at hl 0 rfl) ?_
    exact zR_f hx hb hr hlocks dX8_share_59 h
  · refine lv_fload hx hb dX8_share_52 (lv_at hl 1 rfl) ?_
    refine lv_goto (tgt := 59) hx hb dX8_share_54 (by decide) ?_
    exact zR_f hx hb hr hlocks dX8_share_59 h

def f_X8_bestPlace_b34 (k : Nat) (ms : Nat → Int32) (p1 : Int32) (p2 : Int32)  : Nat → Int32 → Int32 → Option (Int32)
  | 0, _, _ => none
  | n + 1, x3, x4 =>
    if x4 < 0 then
      some x3
    else
      zb1 (f_X8_blockAt k ms p2 x4) fun v4 =>
      if v4 = (-6 : Int32) then
        if (1 : Int32) = 0 then
          zl (x4 + (-1 : Int32)) fun v12 =>
          f_X8_bestPlace_b34 k ms p1 p2 n x3 v12
        else
          if x3 = (-6 : Int32) then
            zl (x4 + (-1 : Int32)) fun v13 =>
            f_X8_bestPlace_b34 k ms p1 p2 n x4 v13
          else
            zb1 (f_X8_share k ms p1 p2 x4) fun v14 =>
            zb1 (f_X8_share k ms p1 p2 x3) fun v15 =>
            zl (Op.cmpValue (FP.fcmp v14 v15) CmpOp.g) fun v16 =>
            if 0 < v16 then
              zl (x4 + (-1 : Int32)) fun v17 =>
              f_X8_bestPlace_b34 k ms p1 p2 n x3 v17
            else
              zl (x4 + (-1 : Int32)) fun v18 =>
              f_X8_bestPlace_b34 k ms p1 p2 n x4 v18
      else
        if (0 : Int32) = 0 then
          zl (x4 + (-1 : Int32)) fun v5 =>
          f_X8_bestPlace_b34 k ms p1 p2 n x3 v5
        else
          if x3 = (-6 : Int32) then
            zl (x4 + (-1 : Int32)) fun v6 =>
            f_X8_bestPlace_b34 k ms p1 p2 n x4 v6
          else
            zb1 (f_X8_share k ms p1 p2 x4) fun v7 =>
            zb1 (f_X8_share k ms p1 p2 x3) fun v8 =>
            zl (Op.cmpValue (FP.fcmp v7 v8) CmpOp.g) fun v9 =>
            if 0 < v9 then
              zl (x4 + (-1 : Int32)) fun v10 =>
              f_X8_bestPlace_b34 k ms p1 p2 n x3 v10
            else
              zl (x4 + (-1 : Int32)) fun v11 =>
              f_X8_bestPlace_b34 k ms p1 p2 n x4 v11
def f_X8_bestPlace (k : Nat) (ms : Nat → Int32) (p1 : Int32) (p2 : Int32) : Option (Int32) :=
  zb1 (f_X8_isBlock k ms p1) fun v1 =>
  if v1 = 0 then
    some (-1 : Int32)
  else
    zb1 (f_X8_isLorry k p2) fun v2 =>
    if v2 = 0 then
      some (-1 : Int32)
    else
      zb1 (f_X8_isHere k ms p1) fun v3 =>
      if v3 = 0 then
        some (-5 : Int32)
      else
        f_X8_bestPlace_b34 k ms p1 p2 k (-6 : Int32) (4 : Int32)
set_option maxRecDepth 100000 in
set_option maxHeartbeats 4000000 in
theorem ct_X8_bestPlace (l : Launch) (D : va_G) (ct a : Nat → Nat) (ms : Nat → Int32) (ah : Nat → Int32) (hi : Nat → Int32) (kp : Int32) (sl : Nat → Int32) (sv : Nat → Int32) (pd : Nat → Int32) (ln : Int32) (so : Nat → Int32) (po : Int32) (wr : Int32) (to : Nat → Int32) (p1 : Int32) (p2 : Int32) (k : Nat) (r : Int32) (h : f_X8_bestPlace k ms p1 p2 = some r) : Met l yX8_bestPlace (Cond.code yX8_bestPlace cX8_bestPlace 6 (some .int) :: zT) ({ frames := 4, cells := 0, slots := 0, locals := 97 } : Room) (va_Pc [.ref (a 30), .int p1, .int p2] (zPR D (zTys ct) (wX8 ct a ms ah hi kp sl sv pd ln so po wr to))) (vp_Si (fun r' => r' = r)) 0 0 (fun _ => False) := by
  refine zMet (cc := cX8_bestPlace) (maxL := 6) (ret := (some .int)) (av := [.ref (a 30), .int p1, .int p2]) (by decide) (Nat.le_of_ble_eq_true rfl) (fun p e s m below meth c ls hx hb hr hml hts hown hlocks hin hB hl => ?_)
  have hl : lv_has ls 6 [(0, .ref (a 30)), (1, .int p1), (2, .int p2)] := hl
  have hown : s.vm.findClass RX8 = some m.cls := hown
  obtain ⟨hP, hK⟩ := hB
  have B34 : ∀ (n : Nat), ∀ (x3 : Int32) (x4 : Int32), f_X8_bestPlace_b34 k ms p1 p2 n x3 x4 = some r → ∀ (ls : Array Slot), lv_has ls 6 [(0, .ref (a 30)), (1, .int p1), (2, .int p2), (3, .int x3), (4, .int x4)] → W p l e ({ frames := 4, cells := 0, slots := 0, locals := 97 } : Room) s m ([.ref (a 30), .int p1, .int p2] : List Value).toArray below meth c s.heap [] 0 0 (MQ below (vp_Si (fun r' => r' = r)) ([.ref (a 30), .int p1, .int p2] : List Value).toArray s 0 0 (fun _ => False)) (F0 m 34 ls []) := by
    intro n
    induction n with
    | zero => intro x3 x4 h; exact absurd h (by rw [f_X8_bestPlace_b34]; exact fun q => nomatch q)
    | succ n ih34 =>
      intro x3 x4 h ls hl
      rw [f_X8_bestPlace_b34] at h
      refine lv_iload hx hb dX8_bestPlace_34 (lv_at hl 4 rfl) ?_
      refine zi_lt (tgt := 101) hx hb dX8_bestPlace_36 (by decide) h (fun h => ?_) (fun h => ?_)
      · refine lv_iload_n hx hb dX8_bestPlace_101 rfl (lv_at hl 3 rfl) ?_
        exact zR_i hx hb hr hlocks dX8_bestPlace_102 h
      · refine lv_aload_n hx hb dX8_bestPlace_39 rfl (lv_at hl 0 rfl) ?_
        refine lv_iload_n hx hb dX8_bestPlace_40 rfl (lv_at hl 2 rfl) ?_
        refine lv_iload hx hb dX8_bestPlace_41 (lv_at hl 4 rfl) ?_
        obtain ⟨v4, hc, h⟩ := zb1_s h
        refine zE_i (zrV (C := RX8) (As := [.int p2, .int x4]) (rest := []) hx hb hml hown hts tw947 mv_X8_blockAt ⟨Nat.le_of_ble_eq_true rfl, Nat.le_of_ble_eq_true rfl⟩ rfl rfl (ct_X8_blockAt l D ct a ms ah hi kp sl sv pd ln so po wr to p2 x4 k v4 hc) (z_pv hK hP [0, 1, 2, 3, 4, 5, 6, 7, 8] rfl 0 rfl rfl) hl.1 rfl rfl (Nat.le_of_ble_eq_true rfl) dX8_bestPlace_43 ⟨Nat.le_refl _, Nat.le_refl _⟩) ?_
        refine lv_bipush (v := (-6 : Int32)) hx hb dX8_bestPlace_46 (by decide) ?_
        refine zc_ne (tgt := 55) hx hb dX8_bestPlace_48 (by decide) h (fun h => ?_) (fun h => ?_)
        · refine lv_iconst (v := (0 : Int32)) hx hb dX8_bestPlace_55 (by decide) ?_
          refine lv_istore (lv' := [(5, .int (0 : Int32)), (0, .ref (a 30)), (1, .int p1), (2, .int p2), (3, .int x3), (4, .int x4)]) hx hb dX8_bestPlace_56 hl (by decide) rfl (fun ls hl => ?_)
          refine lv_iload hx hb dX8_bestPlace_58 (lv_at hl 0 rfl) ?_
          refine zi_eq (tgt := 93) hx hb dX8_bestPlace_60 (by decide) h (fun h => ?_) (fun h => ?_)
          · refine lv_iload_n hx hb dX8_bestPlace_93 rfl (lv_at hl 4 rfl) ?_
            refine lv_istore_n (lv' := [(3, .int x3), (5, .int (0 : Int32)), (0, .ref (a 30)), (1, .int p1), (2, .int p2), (4, .int x4)]) hx hb dX8_bestPlace_94 rfl hl (by decide) rfl (fun ls hl => ?_)
            refine o_nm h (fun v5 ey h => ?_)
            refine lv_iinc (v := v5) (lv' := [(4, .int v5), (3, .int x3), (5, .int (0 : Int32)), (0, .ref (a 30)), (1, .int p1), (2, .int p2)]) hx hb dX8_bestPlace_95 hl (k := 5) rfl (Eq.trans rfl ey) (by decide) rfl (fun ls hl => ?_)
            refine lv_goto (tgt := 34) hx hb dX8_bestPlace_98 (by decide) ?_
            exact ih34 x3 v5 h ls (lv_sub hl [3, 4, 5, 1, 0] rfl)
          · refine lv_iload_n hx hb dX8_bestPlace_63 rfl (lv_at hl 4 rfl) ?_
            refine lv_bipush (v := (-6 : Int32)) hx hb dX8_bestPlace_64 (by decide) ?_
            refine zc_eq (tgt := 88) hx hb dX8_bestPlace_66 (by decide) h (fun h => ?_) (fun h => ?_)
            · refine lv_iload hx hb dX8_bestPlace_88 (lv_at hl 5 rfl) ?_
              refine lv_goto (tgt := 94) hx hb dX8_bestPlace_90 (by decide) ?_
              refine lv_istore_n (lv' := [(3, .int x4), (5, .int (0 : Int32)), (0, .ref (a 30)), (1, .int p1), (2, .int p2), (4, .int x4)]) hx hb dX8_bestPlace_94 rfl hl (by decide) rfl (fun ls hl => ?_)
              refine o_nm h (fun v6 ey h => ?_)
              refine lv_iinc (v := v6) (lv' := [(4, .int v6), (3, .int x4), (5, .int (0 : Int32)), (0, .ref (a 30)), (1, .int p1), (2, .int p2)]) hx hb dX8_bestPlace_95 hl (k := 5) rfl (Eq.trans rfl ey) (by decide) rfl (fun ls hl => ?_)
              refine lv_goto (tgt := 34) hx hb dX8_bestPlace_98 (by decide) ?_
              exact ih34 x4 v6 h ls (lv_sub hl [3, 4, 5, 1, 0] rfl)
            · refine lv_aload_n hx hb dX8_bestPlace_69 rfl (lv_at hl 1 rfl) ?_
              refine lv_iload_n hx hb dX8_bestPlace_70 rfl (lv_at hl 2 rfl) ?_
              refine lv_iload_n hx hb dX8_bestPlace_71 rfl (lv_at hl 3 rfl) ?_
              refine lv_iload hx hb dX8_bestPlace_72 (lv_at hl 5 rfl) ?_
              obtain ⟨v7, hc, h⟩ := zb1_s h
              refine zE_f (zrV (C := RX8) (As := [.int p1, .int p2, .int x4]) (rest := []) hx hb hml hown hts tw1102 mv_X8_share ⟨Nat.le_of_ble_eq_true rfl, Nat.le_of_ble_eq_true rfl⟩ rfl rfl (ct_X8_share l D ct a ms ah hi kp sl sv pd ln so po wr to p1 p2 x4 k v7 hc) (z_pv hK hP [0, 1, 2, 3, 4, 5, 6, 7, 8] rfl 0 rfl rfl) hl.1 rfl rfl (Nat.le_of_ble_eq_true rfl) dX8_bestPlace_74 ⟨Nat.le_refl _, Nat.le_refl _⟩) ?_
              refine lv_aload_n hx hb dX8_bestPlace_77 rfl (lv_at hl 1 rfl) ?_
              refine lv_iload_n hx hb dX8_bestPlace_78 rfl (lv_at hl 2 rfl) ?_
              refine lv_iload_n hx hb dX8_bestPlace_79 rfl (lv_at hl 3 rfl) ?_
              refine lv_iload_n hx hb dX8_bestPlace_80 rfl (lv_at hl 4 rfl) ?_
              obtain ⟨v8, hc, h⟩ := zb1_s h
              refine zE_f (zrV (C := RX8) (As := [.int p1, .int p2, .int x3]) (rest := [.float v7]) hx hb hml hown hts tw1102 mv_X8_share ⟨Nat.le_of_ble_eq_true rfl, Nat.le_of_ble_eq_true rfl⟩ rfl rfl (ct_X8_share l D ct a ms ah hi kp sl sv pd ln so po wr to p1 p2 x3 k v8 hc) (z_pv hK hP [0, 1, 2, 3, 4, 5, 6, 7, 8] rfl 0 rfl rfl) hl.1 rfl rfl (Nat.le_of_ble_eq_true rfl) dX8_bestPlace_81 ⟨Nat.le_refl _, Nat.le_refl _⟩) ?_
              refine o_fcmp hx hb dX8_bestPlace_84 h (fun v9 h => ?_)
              refine zi_gt (tgt := 93) hx hb dX8_bestPlace_85 (by decide) h (fun h => ?_) (fun h => ?_)
              · refine lv_iload_n hx hb dX8_bestPlace_93 rfl (lv_at hl 4 rfl) ?_
                refine lv_istore_n (lv' := [(3, .int x3), (5, .int (0 : Int32)), (0, .ref (a 30)), (1, .int p1), (2, .int p2), (4, .int x4)]) hx hb dX8_bestPlace_94 rfl hl (by decide) rfl (fun ls hl => ?_)
                refine o_nm h (fun v10 ey h => ?_)
                refine lv_iinc (v := v10) (lv' := [(4, .int v10), (3, .int x3), (5, .int (0 : Int32)), (0, .ref (a 30)), (1, .int p1), (2, .int p2)]) hx hb dX8_bestPlace_95 hl (k := 5) rfl (Eq.trans rfl ey) (by decide) rfl (fun ls hl => ?_)
                refine lv_goto (tgt := 34) hx hb dX8_bestPlace_98 (by decide) ?_
                exact ih34 x3 v10 h ls (lv_sub hl [3, 4, 5, 1, 0] rfl)
              · refine lv_iload hx hb dX8_bestPlace_88 (lv_at hl 5 rfl) ?_
                refine lv_goto (tgt := 94) hx hb dX8_bestPlace_90 (by decide) ?_
                refine lv_istore_n (lv' := [(3, .int x4), (5, .int (0 : Int32)), (0, .ref (a 30)), (1, .int p1), (2, .int p2), (4, .int x4)]) hx hb dX8_bestPlace_94 rfl hl (by decide) rfl (fun ls hl => ?_)
                refine o_nm h (fun v11 ey h => ?_)
                refine lv_iinc (v := v11) (lv' := [(4, .int v11), (3, .int x4), (5, .int (0 : Int32)), (0, .ref (a 30)), (1, .int p1), (2, .int p2)]) hx hb dX8_bestPlace_95 hl (k := 5) rfl (Eq.trans rfl ey) (by decide) rfl (fun ls hl => ?_)
                refine lv_goto (tgt := 34) hx hb dX8_bestPlace_98 (by decide) ?_
                exact ih34 x4 v11 h ls (lv_sub hl [3, 4, 5, 1, 0] rfl)
        · refine lv_iconst (v := (1 : Int32)) hx hb dX8_bestPlace_51 (by decide) ?_
          refine lv_goto (tgt := 56) hx hb dX8_bestPlace_52 (by decide) ?_
          refine lv_istore (lv' := [(5, .int (1 : Int32)), (0, .ref (a 30)), (1, .int p1), (2, .int p2), (3, .int x3), (4, .int x4)]) hx hb dX8_bestPlace_56 hl (by decide) rfl (fun ls hl => ?_)
          refine lv_iload hx hb dX8_bestPlace_58 (lv_at hl 0 rfl) ?_
          refine zi_eq (tgt := 93) hx hb dX8_bestPlace_60 (by decide) h (fun h => ?_) (fun h => ?_)
          · refine lv_iload_n hx hb dX8_bestPlace_93 rfl (lv_at hl 4 rfl) ?_
            refine lv_istore_n (lv' := [(3, .int x3), (5, .int (1 : Int32)), (0, .ref (a 30)), (1, .int p1), (2, .int p2), (4, .int x4)]) hx hb dX8_bestPlace_94 rfl hl (by decide) rfl (fun ls hl => ?_)
            refine o_nm h (fun v12 ey h => ?_)
            refine lv_iinc (v := v12) (lv' := [(4, .int v12), (3, .int x3), (5, .int (1 : Int32)), (0, .ref (a 30)), (1, .int p1), (2, .int p2)]) hx hb dX8_bestPlace_95 hl (k := 5) rfl (Eq.trans rfl ey) (by decide) rfl (fun ls hl => ?_)
            refine lv_goto (tgt := 34) hx hb dX8_bestPlace_98 (by decide) ?_
            exact ih34 x3 v12 h ls (lv_sub hl [3, 4, 5, 1, 0] rfl)
          · refine lv_iload_n hx hb dX8_bestPlace_63 rfl (lv_at hl 4 rfl) ?_
            refine lv_bipush (v := (-6 : Int32)) hx hb dX8_bestPlace_64 (by decide) ?_
            refine zc_eq (tgt := 88) hx hb dX8_bestPlace_66 (by decide) h (fun h => ?_) (fun h => ?_)
            · refine lv_iload hx hb dX8_bestPlace_88 (lv_at hl 5 rfl) ?_
              refine lv_goto (tgt := 94) hx hb dX8_bestPlace_90 (by decide) ?_
              refine lv_istore_n (lv' := [(3, .int x4), (5, .int (1 : Int32)), (0, .ref (a 30)), (1, .int p1), (2, .int p2), (4, .int x4)]) hx hb dX8_bestPlace_94 rfl hl (by decide) rfl (fun ls hl => ?_)
              refine o_nm h (fun v13 ey h => ?_)
              refine lv_iinc (v := v13) (lv' := [(4, .int v13), (3, .int x4), (5, .int (1 : Int32)), (0, .ref (a 30)), (1, .int p1), (2, .int p2)]) hx hb dX8_bestPlace_95 hl (k := 5) rfl (Eq.trans rfl ey) (by decide) rfl (fun ls hl => ?_)
              refine lv_goto (tgt := 34) hx hb dX8_bestPlace_98 (by decide) ?_
              exact ih34 x4 v13 h ls (lv_sub hl [3, 4, 5, 1, 0] rfl)
            · refine lv_aload_n hx hb dX8_bestPlace_69 rfl (lv_at hl 1 rfl) ?_
              refine lv_iload_n hx hb dX8_bestPlace_70 rfl (lv_at hl 2 rfl) ?_
              refine lv_iload_n hx hb dX8_bestPlace_71 rfl (lv_at hl 3 rfl) ?_
              refine lv_iload hx hb dX8_bestPlace_72 (lv_at hl 5 rfl) ?_
              obtain ⟨v14, hc, h⟩ := zb1_s h
              refine zE_f (zrV (C := RX8) (As := [.int p1, .int p2, .int x4]) (rest := []) hx hb hml hown hts tw1102 mv_X8_share ⟨Nat.le_of_ble_eq_true rfl, Nat.le_of_ble_eq_true rfl⟩ rfl rfl (ct_X8_share l D ct a ms ah hi kp sl sv pd ln so po wr to p1 p2 x4 k v14 hc) (z_pv hK hP [0, 1, 2, 3, 4, 5, 6, 7, 8] rfl 0 rfl rfl) hl.1 rfl rfl (Nat.le_of_ble_eq_true rfl) dX8_bestPlace_74 ⟨Nat.le_refl _, Nat.le_refl _⟩) ?_
              refine lv_aload_n hx hb dX8_bestPlace_77 rfl (lv_at hl 1 rfl) ?_
              refine lv_iload_n hx hb dX8_bestPlace_78 rfl (lv_at hl 2 rfl) ?_
              refine lv_iload_n hx hb dX8_bestPlace_79 rfl (lv_at hl 3 rfl) ?_
              refine lv_iload_n hx hb dX8_bestPlace_80 rfl (lv_at hl 4 rfl) ?_
              obtain ⟨v15, hc, h⟩ := zb1_s h
              refine zE_f (zrV (C := RX8) (As := [.int p1, .int p2, .int x3]) (rest := [.float v14]) hx hb hml hown hts tw1102 mv_X8_share ⟨Nat.le_of_ble_eq_true rfl, Nat.le_of_ble_eq_true rfl⟩ rfl rfl (ct_X8_share l D ct a ms ah hi kp sl sv pd ln so po wr to p1 p2 x3 k v15 hc) (z_pv hK hP [0, 1, 2, 3, 4, 5, 6, 7, 8] rfl 0 rfl rfl) hl.1 rfl rfl (Nat.le_of_ble_eq_true rfl) dX8_bestPlace_81 ⟨Nat.le_refl _, Nat.le_refl _⟩) ?_
              refine o_fcmp hx hb dX8_bestPlace_84 h (fun v16 h => ?_)
              refine zi_gt (tgt := 93) hx hb dX8_bestPlace_85 (by decide) h (fun h => ?_) (fun h => ?_)
              · refine lv_iload_n hx hb dX8_bestPlace_93 rfl (lv_at hl 4 rfl) ?_
                refine lv_istore_n (lv' := [(3, .int x3), (5, .int (1 : Int32)), (0, .ref (a 30)), (1, .int p1), (2, .int p2), (4, .int x4)]) hx hb dX8_bestPlace_94 rfl hl (by decide) rfl (fun ls hl => ?_)
                refine o_nm h (fun v17 ey h => ?_)
                refine lv_iinc (v := v17) (lv' := [(4, .int v17), (3, .int x3), (5, .int (1 : Int32)), (0, .ref (a 30)), (1, .int p1), (2, .int p2)]) hx hb dX8_bestPlace_95 hl (k := 5) rfl (Eq.trans rfl ey) (by decide) rfl (fun ls hl => ?_)
                refine lv_goto (tgt := 34) hx hb dX8_bestPlace_98 (by decide) ?_
                exact ih34 x3 v17 h ls (lv_sub hl [3, 4, 5, 1, 0] rfl)
              · refine lv_iload hx hb dX8_bestPlace_88 (lv_at hl 5 rfl) ?_
                refine lv_goto (tgt := 94) hx hb dX8_bestPlace_90 (by decide) ?_
                refine lv_istore_n (lv' := [(3, .int x4), (5, .int (1 : Int32)), (0, .ref (a 30)), (1, .int p1), (2, .int p2), (4, .int x4)]) hx hb dX8_bestPlace_94 rfl hl (by decide) rfl (fun ls hl => ?_)
                refine o_nm h (fun v18 ey h => ?_)
                refine lv_iinc (v := v18) (lv' := [(4, .int v18), (3, .int x4), (5, .int (1 : Int32)), (0, .ref (a 30)), (1, .int p1), (2, .int p2)]) hx hb dX8_bestPlace_95 hl (k := 5) rfl (Eq.trans rfl ey) (by decide) rfl (fun ls hl => ?_)
                refine lv_goto (tgt := 34) hx hb dX8_bestPlace_98 (by decide) ?_
                exact ih34 x4 v18 h ls (lv_sub hl [3, 4, 5, 1, 0] rfl)
  rw [f_X8_bestPlace] at h
  refine lv_aload_n hx hb dX8_bestPlace_0 rfl (lv_at hl 0 rfl) ?_
  refine lv_iload_n hx hb dX8_bestPlace_1 rfl (lv_at hl 1 rfl) ?_
  obtain ⟨v1, hc, h⟩ := zb1_s h
  refine zE_i (zrV (C := RX8) (As := [.int p1]) (rest := []) hx hb hml hown hts tw885 mv_X8_isBlock ⟨Nat.le_of_ble_eq_true rfl, Nat.le_of_ble_eq_true rfl⟩ rfl rfl (ct_X8_isBlock l D ct a ms ah hi kp sl sv pd ln so po wr to p1 k v1 hc) (z_pv hK hP [0, 1, 2, 3, 4, 5, 6, 7, 8] rfl 0 rfl rfl) hl.1 rfl rfl (Nat.le_of_ble_eq_true rfl) dX8_bestPlace_2 ⟨Nat.le_refl _, Nat.le_refl _⟩) ?_
  refine zi_eq (tgt := 15) hx hb dX8_bestPlace_5 (by decide) h (fun h => ?_) (fun h => ?_)
  · refine lv_iconst (v := (-1 : Int32)) hx hb dX8_bestPlace_15 (by decide) ?_
    exact zR_i hx hb hr hlocks dX8_bestPlace_16 h
  · refine lv_iload_n hx hb dX8_bestPlace_8 rfl (lv_at hl 2 rfl) ?_
    obtain ⟨v2, hc, h⟩ := zb1_s h
    refine zE_i (zrS (As := [.int p2]) (rest := []) hx hb hml hown hts tw944 ms_X8_isLorry ⟨Nat.le_of_ble_eq_true rfl, Nat.le_of_ble_eq_true rfl⟩ rfl rfl (ct_X8_isLorry l p2 k v2 hc) z_p0 hl.1 rfl rfl (Nat.le_of_ble_eq_true rfl) dX8_bestPlace_9 ⟨Nat.le_refl _, Nat.le_refl _⟩) ?_
    refine zi_ne (tgt := 17) hx hb dX8_bestPlace_12 (by decide) h (fun h => ?_) (fun h => ?_)
    · refine lv_aload_n hx hb dX8_bestPlace_17 rfl (lv_at hl 0 rfl) ?_
      refine lv_iload_n hx hb dX8_bestPlace_18 rfl (lv_at hl 1 rfl) ?_
      obtain ⟨v3, hc, h⟩ := zb1_s h
      refine zE_i (zrV (C := RX8) (As := [.int p1]) (rest := []) hx hb hml hown hts tw893 mv_X8_isHere ⟨Nat.le_of_ble_eq_true rfl, Nat.le_of_ble_eq_true rfl⟩ rfl rfl (ct_X8_isHere l D ct a ms ah hi kp sl sv pd ln so po wr to p1 k v3 hc) (z_pv hK hP [0, 1, 2, 3, 4, 5, 6, 7, 8] rfl 0 rfl rfl) hl.1 rfl rfl (Nat.le_of_ble_eq_true rfl) dX8_bestPlace_19 ⟨Nat.le_refl _, Nat.le_refl _⟩) ?_
      refine zi_ne (tgt := 28) hx hb dX8_bestPlace_22 (by decide) h (fun h => ?_) (fun h => ?_)
      · refine lv_bipush (v := (-6 : Int32)) hx hb dX8_bestPlace_28 (by decide) ?_
        refine lv_istore_n (lv' := [(3, .int (-6 : Int32)), (0, .ref (a 30)), (1, .int p1), (2, .int p2)]) hx hb dX8_bestPlace_30 rfl hl (by decide) rfl (fun ls hl => ?_)
        refine lv_iconst (v := (4 : Int32)) hx hb dX8_bestPlace_31 (by decide) ?_
        refine lv_istore (lv' := [(4, .int (4 : Int32)), (3, .int (-6 : Int32)), (0, .ref (a 30)), (1, .int p1), (2, .int p2)]) hx hb dX8_bestPlace_32 hl (by decide) rfl (fun ls hl => ?_)
        exact B34 k (-6 : Int32) (4 : Int32) h ls (lv_sub hl [2, 3, 4, 1, 0] rfl)
      · refine lv_bipush (v := (-5 : Int32)) hx hb dX8_bestPlace_25 (by decide) ?_
        exact zR_i hx hb hr hlocks dX8_bestPlace_27 h
    · refine lv_iconst (v := (-1 : Int32)) hx hb dX8_bestPlace_15 (by decide) ?_
      exact zR_i hx hb hr hlocks dX8_bestPlace_16 h

def f_X8_put_b126 (k : Nat) (p1 : Int64)  : Nat → (Nat → Int32) → Int32 → Int32 → Int32 → Option (Int32 × (Nat → Int32) × Int32)
  | 0, _, _, _, _ => none
  | n + 1, pd_, ln_, x3, x5 =>
    if x3 ≤ x5 then
      zl (ln_ + x3) fun v2 =>
      zl v2 fun ln3 =>
      some (ln3, pd_, ln3)
    else
      zl (ln_ + x3) fun v4 =>
      zl (v4 - (1 : Int32)) fun v5 =>
      zl (v5 - x5) fun v6 =>
      zl ((8 : Int32) * x5) fun v7 =>
      zl ((p1.toUInt64 >>> (v7.toInt64.toUInt64 &&& Int64.toUInt64 63)).toInt64) fun v8 =>
      zl (v8 &&& (255 : Int64)) fun v9 =>
      zl (v9.toInt32) fun v10 =>
      zg (zin v6 80) (zl (upd pd_ v6.toNatClampNeg v10) fun pd11 =>
      zl (x5 + (1 : Int32)) fun v12 =>
      f_X8_put_b126 k p1 n pd11 ln_ x3 v12)
def f_X8_put_b93 (k : Nat) (p1 : Int64) (k8 : (Nat → Int32) → Int32 → Int32 → Int32 → Int32 → Option (Int32 × (Nat → Int32) × Int32)) (pd_ : Nat → Int32) (ln_ : Int32) (x4 : Int32) (x5 : Int32) (y0 : Int32) (y1 : Int32) : Option (Int32 × (Nat → Int32) × Int32) :=
  zl (y1 + y0) fun v17 =>
  zl (x5 + (1 : Int32)) fun v18 =>
  k8 pd_ ln_ v17 x4 v18
def f_X8_put_b80 (k : Nat) (p1 : Int64) (k8 : (Nat → Int32) → Int32 → Int32 → Int32 → Int32 → Option (Int32 × (Nat → Int32) × Int32)) (pd_ : Nat → Int32) (ln_ : Int32) (x3 : Int32) (x5 : Int32) (x7 : Int32) (y0 : Int32) : Option (Int32 × (Nat → Int32) × Int32) :=
  if x7 = 0 then
    f_X8_put_b93 k p1 (k8) pd_ ln_ y0 x5 (1 : Int32) x3
  else
    f_X8_put_b93 k p1 (k8) pd_ ln_ y0 x5 (0 : Int32) x3
def f_X8_put_b8 (k : Nat) (p1 : Int64)  : Nat → (Nat → Int32) → Int32 → Int32 → Int32 → Int32 → Option (Int32 × (Nat → Int32) × Int32)
  | 0, _, _, _, _, _ => none
  | n + 1, pd_, ln_, x3, x4, x5 =>
    if (8 : Int32) ≤ x5 then
      if x4 = 0 then
        zl (ln_ + x3) fun v1 =>
        if v1 ≤ (80 : Int32) then
          f_X8_put_b126 k p1 k pd_ ln_ x3 (0 : Int32)
        else
          some ((-4 : Int32), pd_, ln_)
      else
        some ((-2 : Int32), pd_, ln_)
    else
      zl ((8 : Int32) * x5) fun v13 =>
      zl ((p1.toUInt64 >>> (v13.toInt64.toUInt64 &&& Int64.toUInt64 63)).toInt64) fun v14 =>
      zl (v14 &&& (255 : Int64)) fun v15 =>
      zl (v15.toInt32) fun v16 =>
      if x5 ≤ 0 then
        if x4 = 0 then
          if (0 : Int32) = 0 then
            zb1 (f_X8_in k v16 (33 : Int32) (126 : Int32)) fun v19 =>
            if v19 = 0 then
              f_X8_put_b80 k p1 (f_X8_put_b8 k p1 n) pd_ ln_ x3 x5 (0 : Int32) (1 : Int32)
            else
              f_X8_put_b80 k p1 (f_X8_put_b8 k p1 n) pd_ ln_ x3 x5 (0 : Int32) (0 : Int32)
          else
            f_X8_put_b80 k p1 (f_X8_put_b8 k p1 n) pd_ ln_ x3 x5 (0 : Int32) (0 : Int32)
        else
          f_X8_put_b80 k p1 (f_X8_put_b8 k p1 n) pd_ ln_ x3 x5 (0 : Int32) (1 : Int32)
      else
        zl ((8 : Int32) * x5) fun v20 =>
        zl ((p1.toUInt64 >>> (v20.toInt64.toUInt64 &&& Int64.toUInt64 63)).toInt64) fun v21 =>
        zl (lg_cmp v21 (0 : Int64)) fun v22 =>
        if v22 = 0 then
          if x4 = 0 then
            if (1 : Int32) = 0 then
              zb1 (f_X8_in k v16 (33 : Int32) (126 : Int32)) fun v24 =>
              if v24 = 0 then
                f_X8_put_b80 k p1 (f_X8_put_b8 k p1 n) pd_ ln_ x3 x5 (1 : Int32) (1 : Int32)
              else
                f_X8_put_b80 k p1 (f_X8_put_b8 k p1 n) pd_ ln_ x3 x5 (1 : Int32) (0 : Int32)
            else
              f_X8_put_b80 k p1 (f_X8_put_b8 k p1 n) pd_ ln_ x3 x5 (1 : Int32) (0 : Int32)
          else
            f_X8_put_b80 k p1 (f_X8_put_b8 k p1 n) pd_ ln_ x3 x5 (1 : Int32) (1 : Int32)
        else
          if x4 = 0 then
            if (0 : Int32) = 0 then
              zb1 (f_X8_in k v16 (33 : Int32) (126 : Int32)) fun v23 =>
              if v23 = 0 then
                f_X8_put_b80 k p1 (f_X8_put_b8 k p1 n) pd_ ln_ x3 x5 (0 : Int32) (1 : Int32)
              else
                f_X8_put_b80 k p1 (f_X8_put_b8 k p1 n) pd_ ln_ x3 x5 (0 : Int32) (0 : Int32)
            else
              f_X8_put_b80 k p1 (f_X8_put_b8 k p1 n) pd_ ln_ x3 x5 (0 : Int32) (0 : Int32)
          else
            f_X8_put_b80 k p1 (f_X8_put_b8 k p1 n) pd_ ln_ x3 x5 (0 : Int32) (1 : Int32)
def f_X8_put (k : Nat) (pd : Nat → Int32) (ln : Int32) (p1 : Int64) : Option (Int32 × (Nat → Int32) × Int32) :=
  f_X8_put_b8 k p1 k pd ln (0 : Int32) (0 : Int32) (0 : Int32)
set_option maxRecDepth 100000 in
set_option maxHeartbeats 4000000 in
theorem ct_X8_put (l : Launch) (D : va_G) (ct a : Nat → Nat) (ms : Nat → Int32) (ah : Nat → Int32) (hi : Nat → Int32) (kp : Int32) (sl : Nat → Int32) (sv : Nat → Int32) (pd : Nat → Int32) (ln : Int32) (so : Nat → Int32) (po : Int32) (wr : Int32) (to : Nat → Int32) (sz : Nat) (p1 : Int64) (k : Nat) (r : Int32) (pd' : Nat → Int32) (ln' : Int32) (h : f_X8_put k pd ln p1 = some (r, pd', ln')) : Met l yX8_put (Cond.code yX8_put cX8_put 8 (some .int) :: zT) ({ frames := 1, cells := 0, slots := 0, locals := 22 } : Room) (va_Pc [.ref (a 30), .long p1] (zPW D (zTys ct) (wX8 ct a ms ah hi kp sl sv pd ln so po wr to) sz)) (va_Qi (fun r' (_ : Unit) => r' = r) (zQW D (wX8 ct a ms ah hi kp sl sv pd ln so po wr to) sz (wX8 ct a ms ah hi kp sl sv pd' ln' so po wr to)) (va_A (wX8 ct a ms ah hi kp sl sv pd ln so po wr to) sz)) 0 0 (va_A (wX8 ct a ms ah hi kp sl sv pd ln so po wr to) sz) := by
  refine zMet (cc := cX8_put) (maxL := 8) (ret := (some .int)) (av := [.ref (a 30), .long p1]) (by decide) (Nat.le_of_ble_eq_true rfl) (fun p e s m below meth c ls hx hb hr hml hts hown hlocks hin hB hl => ?_)
  have hl : lv_has ls 8 [(0, .ref (a 30)), (1, .long p1)] := hl
  have hown : s.vm.findClass RX8 = some m.cls := hown
  obtain ⟨hsz, hP, hK, hD0⟩ := hB
  subst hsz
  have hD := hD0.self (sz := s.heap.size)
  obtain ⟨A, hAe⟩ : ∃ A, A = va_A (wX8 ct a ms ah hi kp sl sv pd ln so po wr to) s.heap.size := ⟨_, rfl⟩
  rw [← hAe] at hD
  have hA : ∀ q : Nat, s.heap.size ≤ q → A q := fun q h => by rw [hAe]; exact Or.inr h
  have hS : va_S A s.heap s.heap [] := va_S.rf
  have B126 : ∀ (n : Nat), ∀ (pd_ : Nat → Int32) (ln_ : Int32) (x3 : Int32) (x5 : Int32), f_X8_put_b126 k p1 n pd_ ln_ x3 x5 = some (r, pd', ln') → ∀ (H : Heap) (locs : List Loc), va_P D vwCl (wX8 ct a ms ah hi kp sl sv pd_ ln_ so po wr to) H → va_D A (wX8 ct a ms ah hi kp sl sv pd_ ln_ so po wr to) → va_S A s.heap H locs → ∀ (ls : Array Slot), lv_has ls 8 [(0, .ref (a 30)), (1, .long p1), (3, .int x3), (5, .int x5)] → W p l e ({ frames := 1, cells := 0, slots := 0, locals := 22 } : Room) s m ([.ref (a 30), .long p1] : List Value).toArray below meth c H locs 0 0 (MQ below (va_Qi (fun r' (_ : Unit) => r' = r) (zQW D (wX8 ct a ms ah hi kp sl sv pd ln so po wr to) s.heap.size (wX8 ct a ms ah hi kp sl sv pd' ln' so po wr to)) (va_A (wX8 ct a ms ah hi kp sl sv pd ln so po wr to) s.heap.size)) ([.ref (a 30), .long p1] : List Value).toArray s 0 0 (va_A (wX8 ct a ms ah hi kp sl sv pd ln so po wr to) s.heap.size)) (F0 m 126 ls []) := by
    intro n
    induction n with
    | zero => intro pd_ ln_ x3 x5 h; exact absurd h (by rw [f_X8_put_b126]; exact fun q => nomatch q)
    | succ n ih126 =>
      intro pd_ ln_ x3 x5 h H locs hP hD hS ls hl
      rw [f_X8_put_b126] at h
      refine lv_iload hx hb dX8_put_126 (lv_at hl 3 rfl) ?_
      refine lv_iload_n hx hb dX8_put_128 rfl (lv_at hl 2 rfl) ?_
      refine zc_ge (tgt := 166) hx hb dX8_put_129 (by decide) h (fun h => ?_) (fun h => ?_)
      · refine lv_aload_n hx hb dX8_put_166 rfl (lv_at hl 0 rfl) ?_
        refine lv_dup hx hb dX8_put_167 rfl ?_
        refine z_get (C := RX8) (T := TX8) (N := 12) (ci := 7) hx hb hts zin_X8 hown hK.1 hP 0 7 rfl rfl (by decide) tw802 rfl rfl dX8_put_168 ?_
        refine lv_iload_n hx hb dX8_put_171 rfl (lv_at hl 2 rfl) ?_
        refine o_iadd hx hb dX8_put_172 h (fun v2 h => ?_)
        refine z_puti (C := RX8) (T := TX8) (N := 12) (ci := 7) hx hb hts zin_X8 tyX8 tyX8_ok nmX8 hown hK.1 hP hD hS 0 7 rfl rfl (by decide) tw802 rfl rfl (by decide +kernel) (Nat.le_of_ble_eq_true rfl) h dX8_put_173 (fun ln3 H locs h hP hD hS => ?_)
        have hP : va_P D vwCl (wX8 ct a ms ah hi kp sl sv pd_ ln3 so po wr to) H := hP
        have hD : va_D A (wX8 ct a ms ah hi kp sl sv pd_ ln3 so po wr to) := hD
        refine lv_aload_n hx hb dX8_put_176 rfl (lv_at hl 0 rfl) ?_
        refine z_get (C := RX8) (T := TX8) (N := 12) (ci := 7) hx hb hts zin_X8 hown hK.1 hP 0 7 rfl rfl (by decide) tw802 rfl rfl dX8_put_177 ?_
        cases h
        exact zX_i hx hb hr hlocks hP hD hS hAe dX8_put_180 rfl
      · refine lv_aload_n hx hb dX8_put_132 rfl (lv_at hl 0 rfl) ?_
        refine z_get (C := RX8) (T := TX8) (N := 12) (ci := 7) hx hb hts zin_X8 hown hK.1 hP 0 6 rfl rfl (by decide) tw801 rfl rfl dX8_put_133 ?_
        refine lv_aload_n hx hb dX8_put_136 rfl (lv_at hl 0 rfl) ?_
        refine z_get (C := RX8) (T := TX8) (N := 12) (ci := 7) hx hb hts zin_X8 hown hK.1 hP 0 7 rfl rfl (by decide) tw802 rfl rfl dX8_put_137 ?_
        refine lv_iload_n hx hb dX8_put_140 rfl (lv_at hl 2 rfl) ?_
        refine o_iadd hx hb dX8_put_141 h (fun v4 h => ?_)
        refine lv_iconst (v := (1 : Int32)) hx hb dX8_put_142 (by decide) ?_
        refine o_isub hx hb dX8_put_143 h (fun v5 h => ?_)
        refine lv_iload hx hb dX8_put_144 (lv_at hl 3 rfl) ?_
        refine o_isub hx hb dX8_put_146 h (fun v6 h => ?_)
        refine lv_lload_n hx hb dX8_put_147 rfl (lv_at hl 1 rfl) ?_
        refine lv_bipush (v := (8 : Int32)) hx hb dX8_put_148 (by decide) ?_
        refine lv_iload hx hb dX8_put_150 (lv_at hl 3 rfl) ?_
        refine o_imul hx hb dX8_put_152 h (fun v7 h => ?_)
        refine o_lushr hx hb dX8_put_153 h (fun v8 h => ?_)
        refine lv_ldc2 (v := (255 : Int64)) hx hb hown (hts _ (List.mem_cons_of_mem _ tw1110)) dX8_put_154 ?_
        refine o_land hx hb dX8_put_157 h (fun v9 h => ?_)
        refine o_l2i hx hb dX8_put_158 h (fun v10 h => ?_)
        refine z_iast hx hb hK.1 hP hD hS 6 0 rfl rfl h dX8_put_159 (fun pd11 H locs h hP hD hS => ?_)
        have hP : va_P D vwCl (wX8 ct a ms ah hi kp sl sv pd11 ln_ so po wr to) H := hP
        have hD : va_D A (wX8 ct a ms ah hi kp sl sv pd11 ln_ so po wr to) := hD
        refine o_nm h (fun v12 ey h => ?_)
        refine lv_iinc (v := v12) (lv' := [(5, .int v12), (0, .ref (a 30)), (1, .long p1), (3, .int x3)]) hx hb dX8_put_160 hl (k := 3) rfl (Eq.trans rfl ey) (by decide) rfl (fun ls hl => ?_)
        refine lv_goto (tgt := 126) hx hb dX8_put_163 (by decide) ?_
        exact ih126 pd11 ln_ x3 v12 h _ _ hP hD hS ls (lv_sub hl [1, 2, 3, 0] rfl)
  have B93 : ∀ (k8 : (Nat → Int32) → Int32 → Int32 → Int32 → Int32 → Option (Int32 × (Nat → Int32) × Int32)) (hk8 : ∀ (pd_ : Nat → Int32) (ln_ : Int32) (x3 : Int32) (x4 : Int32) (x5 : Int32), k8 pd_ ln_ x3 x4 x5 = some (r, pd', ln') → ∀ (H : Heap) (locs : List Loc), va_P D vwCl (wX8 ct a ms ah hi kp sl sv pd_ ln_ so po wr to) H → va_D A (wX8 ct a ms ah hi kp sl sv pd_ ln_ so po wr to) → va_S A s.heap H locs → ∀ (ls : Array Slot), lv_has ls 8 [(0, .ref (a 30)), (1, .long p1), (3, .int x3), (4, .int x4), (5, .int x5)] → W p l e ({ frames := 1, cells := 0, slots := 0, locals := 22 } : Room) s m ([.ref (a 30), .long p1] : List Value).toArray below meth c H locs 0 0 (MQ below (va_Qi (fun r' (_ : Unit) => r' = r) (zQW D (wX8 ct a ms ah hi kp sl sv pd ln so po wr to) s.heap.size (wX8 ct a ms ah hi kp sl sv pd' ln' so po wr to)) (va_A (wX8 ct a ms ah hi kp sl sv pd ln so po wr to) s.heap.size)) ([.ref (a 30), .long p1] : List Value).toArray s 0 0 (va_A (wX8 ct a ms ah hi kp sl sv pd ln so po wr to) s.heap.size)) (F0 m 8 ls [])), ∀ (pd_ : Nat → Int32) (ln_ : Int32) (x4 : Int32) (x5 : Int32) (y0 : Int32) (y1 : Int32), f_X8_put_b93 k p1 k8 pd_ ln_ x4 x5 y0 y1 = some (r, pd', ln') → ∀ (H : Heap) (locs : List Loc), va_P D vwCl (wX8 ct a ms ah hi kp sl sv pd_ ln_ so po wr to) H → va_D A (wX8 ct a ms ah hi kp sl sv pd_ ln_ so po wr to) → va_S A s.heap H locs → ∀ (ls : Array Slot), lv_has ls 8 [(0, .ref (a 30)), (1, .long p1), (4, .int x4), (5, .int x5)] → W p l e ({ frames := 1, cells := 0, slots := 0, locals := 22 } : Room) s m ([.ref (a 30), .long p1] : List Value).toArray below meth c H locs 0 0 (MQ below (va_Qi (fun r' (_ : Unit) => r' = r) (zQW D (wX8 ct a ms ah hi kp sl sv pd ln so po wr to) s.heap.size (wX8 ct a ms ah hi kp sl sv pd' ln' so po wr to)) (va_A (wX8 ct a ms ah hi kp sl sv pd ln so po wr to) s.heap.size)) ([.ref (a 30), .long p1] : List Value).toArray s 0 0 (va_A (wX8 ct a ms ah hi kp sl sv pd ln so po wr to) s.heap.size)) (F0 m 93 ls [.int y0, .int y1]) := by
    intro k8 hk8
    intro pd_ ln_ x4 x5 y0 y1 h H locs hP hD hS ls hl
    rw [f_X8_put_b93] at h
    refine o_iadd hx hb dX8_put_93 h (fun v17 h => ?_)
    refine lv_istore_n (lv' := [(3, .int v17), (0, .ref (a 30)), (1, .long p1), (4, .int x4), (5, .int x5)]) hx hb dX8_put_94 rfl hl (by decide) rfl (fun ls hl => ?_)
    refine o_nm h (fun v18 ey h => ?_)
    refine lv_iinc (v := v18) (lv' := [(5, .int v18), (3, .int v17), (0, .ref (a 30)), (1, .long p1), (4, .int x4)]) hx hb dX8_put_95 hl (k := 4) rfl (Eq.trans rfl ey) (by decide) rfl (fun ls hl => ?_)
    refine lv_goto (tgt := 8) hx hb dX8_put_98 (by decide) ?_
    exact hk8 pd_ ln_ v17 x4 v18 h _ _ hP hD hS ls (lv_sub hl [2, 3, 1, 4, 0] rfl)
  have B80 : ∀ (k8 : (Nat → Int32) → Int32 → Int32 → Int32 → Int32 → Option (Int32 × (Nat → Int32) × Int32)) (hk8 : ∀ (pd_ : Nat → Int32) (ln_ : Int32) (x3 : Int32) (x4 : Int32) (x5 : Int32), k8 pd_ ln_ x3 x4 x5 = some (r, pd', ln') → ∀ (H : Heap) (locs : List Loc), va_P D vwCl (wX8 ct a ms ah hi kp sl sv pd_ ln_ so po wr to) H → va_D A (wX8 ct a ms ah hi kp sl sv pd_ ln_ so po wr to) → va_S A s.heap H locs → ∀ (ls : Array Slot), lv_has ls 8 [(0, .ref (a 30)), (1, .long p1), (3, .int x3), (4, .int x4), (5, .int x5)] → W p l e ({ frames := 1, cells := 0, slots := 0, locals := 22 } : Room) s m ([.ref (a 30), .long p1] : List Value).toArray below meth c H locs 0 0 (MQ below (va_Qi (fun r' (_ : Unit) => r' = r) (zQW D (wX8 ct a ms ah hi kp sl sv pd ln so po wr to) s.heap.size (wX8 ct a ms ah hi kp sl sv pd' ln' so po wr to)) (va_A (wX8 ct a ms ah hi kp sl sv pd ln so po wr to) s.heap.size)) ([.ref (a 30), .long p1] : List Value).toArray s 0 0 (va_A (wX8 ct a ms ah hi kp sl sv pd ln so po wr to) s.heap.size)) (F0 m 8 ls [])), ∀ (pd_ : Nat → Int32) (ln_ : Int32) (x3 : Int32) (x5 : Int32) (x7 : Int32) (y0 : Int32), f_X8_put_b80 k p1 k8 pd_ ln_ x3 x5 x7 y0 = some (r, pd', ln') → ∀ (H : Heap) (locs : List Loc), va_P D vwCl (wX8 ct a ms ah hi kp sl sv pd_ ln_ so po wr to) H → va_D A (wX8 ct a ms ah hi kp sl sv pd_ ln_ so po wr to) → va_S A s.heap H locs → ∀ (ls : Array Slot), lv_has ls 8 [(0, .ref (a 30)), (1, .long p1), (3, .int x3), (5, .int x5), (7, .int x7)] → W p l e ({ frames := 1, cells := 0, slots := 0, locals := 22 } : Room) s m ([.ref (a 30), .long p1] : List Value).toArray below meth c H locs 0 0 (MQ below (va_Qi (fun r' (_ : Unit) => r' = r) (zQW D (wX8 ct a ms ah hi kp sl sv pd ln so po wr to) s.heap.size (wX8 ct a ms ah hi kp sl sv pd' ln' so po wr to)) (va_A (wX8 ct a ms ah hi kp sl sv pd ln so po wr to) s.heap.size)) ([.ref (a 30), .long p1] : List Value).toArray s 0 0 (va_A (wX8 ct a ms ah hi kp sl sv pd ln so po wr to) s.heap.size)) (F0 m 80 ls [.int y0]) := by
    intro k8 hk8
    intro pd_ ln_ x3 x5 x7 y0 h H locs hP hD hS ls hl
    rw [f_X8_put_b80] at h
    refine lv_istore (lv' := [(4, .int y0), (0, .ref (a 30)), (1, .long p1), (3, .int x3), (5, .int x5), (7, .int x7)]) hx hb dX8_put_80 hl (by decide) rfl (fun ls hl => ?_)
    refine lv_iload_n hx hb dX8_put_82 rfl (lv_at hl 3 rfl) ?_
    refine lv_iload hx hb dX8_put_83 (lv_at hl 5 rfl) ?_
    refine zi_eq (tgt := 92) hx hb dX8_put_85 (by decide) h (fun h => ?_) (fun h => ?_)
    · refine lv_iconst (v := (1 : Int32)) hx hb dX8_put_92 (by decide) ?_
      exact B93 (k8) hk8 pd_ ln_ y0 x5 (1 : Int32) x3 h _ _ hP hD hS ls (lv_sub hl [1, 2, 0, 4] rfl)
    · refine lv_iconst (v := (0 : Int32)) hx hb dX8_put_88 (by decide) ?_
      refine lv_goto (tgt := 93) hx hb dX8_put_89 (by decide) ?_
      exact B93 (k8) hk8 pd_ ln_ y0 x5 (0 : Int32) x3 h _ _ hP hD hS ls (lv_sub hl [1, 2, 0, 4] rfl)
  have B8 : ∀ (n : Nat), ∀ (pd_ : Nat → Int32) (ln_ : Int32) (x3 : Int32) (x4 : Int32) (x5 : Int32), f_X8_put_b8 k p1 n pd_ ln_ x3 x4 x5 = some (r, pd', ln') → ∀ (H : Heap) (locs : List Loc), va_P D vwCl (wX8 ct a ms ah hi kp sl sv pd_ ln_ so po wr to) H → va_D A (wX8 ct a ms ah hi kp sl sv pd_ ln_ so po wr to) → va_S A s.heap H locs → ∀ (ls : Array Slot), lv_has ls 8 [(0, .ref (a 30)), (1, .long p1), (3, .int x3), (4, .int x4), (5, .int x5)] → W p l e ({ frames := 1, cells := 0, slots := 0, locals := 22 } : Room) s m ([.ref (a 30), .long p1] : List Value).toArray below meth c H locs 0 0 (MQ below (va_Qi (fun r' (_ : Unit) => r' = r) (zQW D (wX8 ct a ms ah hi kp sl sv pd ln so po wr to) s.heap.size (wX8 ct a ms ah hi kp sl sv pd' ln' so po wr to)) (va_A (wX8 ct a ms ah hi kp sl sv pd ln so po wr to) s.heap.size)) ([.ref (a 30), .long p1] : List Value).toArray s 0 0 (va_A (wX8 ct a ms ah hi kp sl sv pd ln so po wr to) s.heap.size)) (F0 m 8 ls []) := by
    intro n
    induction n with
    | zero => intro pd_ ln_ x3 x4 x5 h; exact absurd h (by rw [f_X8_put_b8]; exact fun q => nomatch q)
    | succ n ih8 =>
      intro pd_ ln_ x3 x4 x5 h H locs hP hD hS ls hl
      rw [f_X8_put_b8] at h
      refine lv_iload hx hb dX8_put_8 (lv_at hl 4 rfl) ?_
      refine lv_bipush (v := (8 : Int32)) hx hb dX8_put_10 (by decide) ?_
      refine zc_ge (tgt := 101) hx hb dX8_put_12 (by decide) h (fun h => ?_) (fun h => ?_)
      · refine lv_iload hx hb dX8_put_101 (lv_at hl 3 rfl) ?_
        refine zi_eq (tgt := 109) hx hb dX8_put_103 (by decide) h (fun h => ?_) (fun h => ?_)
        · refine lv_aload_n hx hb dX8_put_109 rfl (lv_at hl 0 rfl) ?_
          refine z_get (C := RX8) (T := TX8) (N := 12) (ci := 7) hx hb hts zin_X8 hown hK.1 hP 0 7 rfl rfl (by decide) tw802 rfl rfl dX8_put_110 ?_
          refine lv_iload_n hx hb dX8_put_113 rfl (lv_at hl 2 rfl) ?_
          refine o_iadd hx hb dX8_put_114 h (fun v1 h => ?_)
          refine lv_bipush (v := (80 : Int32)) hx hb dX8_put_115 (by decide) ?_
          refine zc_le (tgt := 123) hx hb dX8_put_117 (by decide) h (fun h => ?_) (fun h => ?_)
          · refine lv_iconst (v := (0 : Int32)) hx hb dX8_put_123 (by decide) ?_
            refine lv_istore (lv' := [(5, .int (0 : Int32)), (0, .ref (a 30)), (1, .long p1), (3, .int x3), (4, .int x4)]) hx hb dX8_put_124 hl (by decide) rfl (fun ls hl => ?_)
            exact B126 k pd_ ln_ x3 (0 : Int32) h _ _ hP hD hS ls (lv_sub hl [1, 2, 3, 0] rfl)
          · refine lv_bipush (v := (-4 : Int32)) hx hb dX8_put_120 (by decide) ?_
            cases h
            exact zX_i hx hb hr hlocks hP hD hS hAe dX8_put_122 rfl
        · refine lv_bipush (v := (-2 : Int32)) hx hb dX8_put_106 (by decide) ?_
          cases h
          exact zX_i hx hb hr hlocks hP hD hS hAe dX8_put_108 rfl
      · refine lv_lload_n hx hb dX8_put_15 rfl (lv_at hl 1 rfl) ?_
        refine lv_bipush (v := (8 : Int32)) hx hb dX8_put_16 (by decide) ?_
        refine lv_iload hx hb dX8_put_18 (lv_at hl 4 rfl) ?_
        refine o_imul hx hb dX8_put_20 h (fun v13 h => ?_)
        refine o_lushr hx hb dX8_put_21 h (fun v14 h => ?_)
        refine lv_ldc2 (v := (255 : Int64)) hx hb hown (hts _ (List.mem_cons_of_mem _ tw1110)) dX8_put_22 ?_
        refine o_land hx hb dX8_put_25 h (fun v15 h => ?_)
        refine o_l2i hx hb dX8_put_26 h (fun v16 h => ?_)
        refine lv_istore (lv' := [(6, .int v16), (0, .ref (a 30)), (1, .long p1), (3, .int x3), (4, .int x4), (5, .int x5)]) hx hb dX8_put_27 hl (by decide) rfl (fun ls hl => ?_)
        refine lv_iload hx hb dX8_put_29 (lv_at hl 5 rfl) ?_
        refine zi_le (tgt := 50) hx hb dX8_put_31 (by decide) h (fun h => ?_) (fun h => ?_)
        · refine lv_iconst (v := (0 : Int32)) hx hb dX8_put_50 (by decide) ?_
          refine lv_istore (lv' := [(7, .int (0 : Int32)), (6, .int v16), (0, .ref (a 30)), (1, .long p1), (3, .int x3), (4, .int x4), (5, .int x5)]) hx hb dX8_put_51 hl (by decide) rfl (fun ls hl => ?_)
          refine lv_iload hx hb dX8_put_53 (lv_at hl 5 rfl) ?_
          refine zi_ne (tgt := 75) hx hb dX8_put_55 (by decide) h (fun h => ?_) (fun h => ?_)
          · refine lv_iconst (v := (1 : Int32)) hx hb dX8_put_75 (by decide) ?_
            refine lv_goto (tgt := 80) hx hb dX8_put_76 (by decide) ?_
            exact B80 (f_X8_put_b8 k p1 n) ih8 pd_ ln_ x3 x5 (0 : Int32) (1 : Int32) h _ _ hP hD hS ls (lv_sub hl [2, 3, 4, 6, 0] rfl)
          · refine lv_iload hx hb dX8_put_58 (lv_at hl 0 rfl) ?_
            refine zi_ne (tgt := 79) hx hb dX8_put_60 (by decide) h (fun h => ?_) (fun h => ?_)
            · refine lv_iconst (v := (0 : Int32)) hx hb dX8_put_79 (by decide) ?_
              exact B80 (f_X8_put_b8 k p1 n) ih8 pd_ ln_ x3 x5 (0 : Int32) (0 : Int32) h _ _ hP hD hS ls (lv_sub hl [2, 3, 4, 6, 0] rfl)
            · refine lv_iload hx hb dX8_put_63 (lv_at hl 1 rfl) ?_
              refine lv_bipush (v := (33 : Int32)) hx hb dX8_put_65 (by decide) ?_
              refine lv_bipush (v := (126 : Int32)) hx hb dX8_put_67 (by decide) ?_
              obtain ⟨v19, hc, h⟩ := zb1_s h
              refine zE_i (zrS (As := [.int v16, .int (33 : Int32), .int (126 : Int32)]) (rest := []) hx hb hml hown hts tw836 ms_X8_in ⟨Nat.le_of_ble_eq_true rfl, Nat.le_of_ble_eq_true rfl⟩ rfl rfl (ct_X8_in l v16 (33 : Int32) (126 : Int32) k v19 hc) z_p0 hl.1 rfl rfl (Nat.le_of_ble_eq_true rfl) dX8_put_69 ⟨Nat.le_refl _, Nat.le_refl _⟩) ?_
              refine zi_ne (tgt := 79) hx hb dX8_put_72 (by decide) h (fun h => ?_) (fun h => ?_)
              · refine lv_iconst (v := (0 : Int32)) hx hb dX8_put_79 (by decide) ?_
                exact B80 (f_X8_put_b8 k p1 n) ih8 pd_ ln_ x3 x5 (0 : Int32) (0 : Int32) h _ _ hP hD hS ls (lv_sub hl [2, 3, 4, 6, 0] rfl)
              · refine lv_iconst (v := (1 : Int32)) hx hb dX8_put_75 (by decide) ?_
                refine lv_goto (tgt := 80) hx hb dX8_put_76 (by decide) ?_
                exact B80 (f_X8_put_b8 k p1 n) ih8 pd_ ln_ x3 x5 (0 : Int32) (1 : Int32) h _ _ hP hD hS ls (lv_sub hl [2, 3, 4, 6, 0] rfl)
        · refine lv_lload_n hx hb dX8_put_34 rfl (lv_at hl 2 rfl) ?_
          refine lv_bipush (v := (8 : Int32)) hx hb dX8_put_35 (by decide) ?_
          refine lv_iload hx hb dX8_put_37 (lv_at hl 5 rfl) ?_
          refine o_imul hx hb dX8_put_39 h (fun v20 h => ?_)
          refine o_lushr hx hb dX8_put_40 h (fun v21 h => ?_)
          refine lv_lconst (v := (0 : Int64)) hx hb dX8_put_41 (by decide) ?_
          refine o_lcmp hx hb dX8_put_42 h (fun v22 h => ?_)
          refine zi_ne (tgt := 50) hx hb dX8_put_43 (by decide) h (fun h => ?_) (fun h => ?_)
          · refine lv_iconst (v := (0 : Int32)) hx hb dX8_put_50 (by decide) ?_
            refine lv_istore (lv' := [(7, .int (0 : Int32)), (6, .int v16), (0, .ref (a 30)), (1, .long p1), (3, .int x3), (4, .int x4), (5, .int x5)]) hx hb dX8_put_51 hl (by decide) rfl (fun ls hl => ?_)
            refine lv_iload hx hb dX8_put_53 (lv_at hl 5 rfl) ?_
            refine zi_ne (tgt := 75) hx hb dX8_put_55 (by decide) h (fun h => ?_) (fun h => ?_)
            · refine lv_iconst (v := (1 : Int32)) hx hb dX8_put_75 (by decide) ?_
              refine lv_goto (tgt := 80) hx hb dX8_put_76 (by decide) ?_
              exact B80 (f_X8_put_b8 k p1 n) ih8 pd_ ln_ x3 x5 (0 : Int32) (1 : Int32) h _ _ hP hD hS ls (lv_sub hl [2, 3, 4, 6, 0] rfl)
            · refine lv_iload hx hb dX8_put_58 (lv_at hl 0 rfl) ?_
              refine zi_ne (tgt := 79) hx hb dX8_put_60 (by decide) h (fun h => ?_) (fun h => ?_)
              · refine lv_iconst (v := (0 : Int32)) hx hb dX8_put_79 (by decide) ?_
                exact B80 (f_X8_put_b8 k p1 n) ih8 pd_ ln_ x3 x5 (0 : Int32) (0 : Int32) h _ _ hP hD hS ls (lv_sub hl [2, 3, 4, 6, 0] rfl)
              · refine lv_iload hx hb dX8_put_63 (lv_at hl 1 rfl) ?_
                refine lv_bipush (v := (33 : Int32)) hx hb dX8_put_65 (by decide) ?_
                refine lv_bipush (v := (126 : Int32)) hx hb dX8_put_67 (by decide) ?_
                obtain ⟨v23, hc, h⟩ := zb1_s h
                refine zE_i (zrS (As := [.int v16, .int (33 : Int32), .int (126 : Int32)]) (rest := []) hx hb hml hown hts tw836 ms_X8_in ⟨Nat.le_of_ble_eq_true rfl, Nat.le_of_ble_eq_true rfl⟩ rfl rfl (ct_X8_in l v16 (33 : Int32) (126 : Int32) k v23 hc) z_p0 hl.1 rfl rfl (Nat.le_of_ble_eq_true rfl) dX8_put_69 ⟨Nat.le_refl _, Nat.le_refl _⟩) ?_
                refine zi_ne (tgt := 79) hx hb dX8_put_72 (by decide) h (fun h => ?_) (fun h => ?_)
                · refine lv_iconst (v := (0 : Int32)) hx hb dX8_put_79 (by decide) ?_
                  exact B80 (f_X8_put_b8 k p1 n) ih8 pd_ ln_ x3 x5 (0 : Int32) (0 : Int32) h _ _ hP hD hS ls (lv_sub hl [2, 3, 4, 6, 0] rfl)
                · refine lv_iconst (v := (1 : Int32)) hx hb dX8_put_75 (by decide) ?_
                  refine lv_goto (tgt := 80) hx hb dX8_put_76 (by decide) ?_
                  exact B80 (f_X8_put_b8 k p1 n) ih8 pd_ ln_ x3 x5 (0 : Int32) (1 : Int32) h _ _ hP hD hS ls (lv_sub hl [2, 3, 4, 6, 0] rfl)
          · refine lv_iconst (v := (1 : Int32)) hx hb dX8_put_46 (by decide) ?_
            refine lv_goto (tgt := 51) hx hb dX8_put_47 (by decide) ?_
            refine lv_istore (lv' := [(7, .int (1 : Int32)), (6, .int v16), (0, .ref (a 30)), (1, .long p1), (3, .int x3), (4, .int x4), (5, .int x5)]) hx hb dX8_put_51 hl (by decide) rfl (fun ls hl => ?_)
            refine lv_iload hx hb dX8_put_53 (lv_at hl 5 rfl) ?_
            refine zi_ne (tgt := 75) hx hb dX8_put_55 (by decide) h (fun h => ?_) (fun h => ?_)
            · refine lv_iconst (v := (1 : Int32)) hx hb dX8_put_75 (by decide) ?_
              refine lv_goto (tgt := 80) hx hb dX8_put_76 (by decide) ?_
              exact B80 (f_X8_put_b8 k p1 n) ih8 pd_ ln_ x3 x5 (1 : Int32) (1 : Int32) h _ _ hP hD hS ls (lv_sub hl [2, 3, 4, 6, 0] rfl)
            · refine lv_iload hx hb dX8_put_58 (lv_at hl 0 rfl) ?_
              refine zi_ne (tgt := 79) hx hb dX8_put_60 (by decide) h (fun h => ?_) (fun h => ?_)
              · refine lv_iconst (v := (0 : Int32)) hx hb dX8_put_79 (by decide) ?_
                exact B80 (f_X8_put_b8 k p1 n) ih8 pd_ ln_ x3 x5 (1 : Int32) (0 : Int32) h _ _ hP hD hS ls (lv_sub hl [2, 3, 4, 6, 0] rfl)
              · refine lv_iload hx hb dX8_put_63 (lv_at hl 1 rfl) ?_
                refine lv_bipush (v := (33 : Int32)) hx hb dX8_put_65 (by decide) ?_
                refine lv_bipush (v := (126 : Int32)) hx hb dX8_put_67 (by decide) ?_
                obtain ⟨v24, hc, h⟩ := zb1_s h
                refine zE_i (zrS (As := [.int v16, .int (33 : Int32), .int (126 : Int32)]) (rest := []) hx hb hml hown hts tw836 ms_X8_in ⟨Nat.le_of_ble_eq_true rfl, Nat.le_of_ble_eq_true rfl⟩ rfl rfl (ct_X8_in l v16 (33 : Int32) (126 : Int32) k v24 hc) z_p0 hl.1 rfl rfl (Nat.le_of_ble_eq_true rfl) dX8_put_69 ⟨Nat.le_refl _, Nat.le_refl _⟩) ?_
                refine zi_ne (tgt := 79) hx hb dX8_put_72 (by decide) h (fun h => ?_) (fun h => ?_)
                · refine lv_iconst (v := (0 : Int32)) hx hb dX8_put_79 (by decide) ?_
                  exact B80 (f_X8_put_b8 k p1 n) ih8 pd_ ln_ x3 x5 (1 : Int32) (0 : Int32) h _ _ hP hD hS ls (lv_sub hl [2, 3, 4, 6, 0] rfl)
                · refine lv_iconst (v := (1 : Int32)) hx hb dX8_put_75 (by decide) ?_
                  refine lv_goto (tgt := 80) hx hb dX8_put_76 (by decide) ?_
                  exact B80 (f_X8_put_b8 k p1 n) ih8 pd_ ln_ x3 x5 (1 : Int32) (1 : Int32) h _ _ hP hD hS ls (lv_sub hl [2, 3, 4, 6, 0] rfl)
  rw [f_X8_put] at h
  refine lv_iconst (v := (0 : Int32)) hx hb dX8_put_0 (by decide) ?_
  refine lv_istore_n (lv' := [(3, .int (0 : Int32)), (0, .ref (a 30)), (1, .long p1)]) hx hb dX8_put_1 rfl hl (by decide) rfl (fun ls hl => ?_)
  refine lv_iconst (v := (0 : Int32)) hx hb dX8_put_2 (by decide) ?_
  refine lv_istore (lv' := [(4, .int (0 : Int32)), (3, .int (0 : Int32)), (0, .ref (a 30)), (1, .long p1)]) hx hb dX8_put_3 hl (by decide) rfl (fun ls hl => ?_)
  refine lv_iconst (v := (0 : Int32)) hx hb dX8_put_5 (by decide) ?_
  refine lv_istore (lv' := [(5, .int (0 : Int32)), (4, .int (0 : Int32)), (3, .int (0 : Int32)), (0, .ref (a 30)), (1, .long p1)]) hx hb dX8_put_6 hl (by decide) rfl (fun ls hl => ?_)
  exact B8 k pd ln (0 : Int32) (0 : Int32) (0 : Int32) h _ _ hP hD hS ls (lv_sub hl [3, 4, 2, 1, 0] rfl)

def f_X8_wipe (k : Nat) (ln : Int32) : Option (Int32 × Int32) :=
  zl (0 : Int32) fun ln1 =>
  some (ln, ln1)
set_option maxRecDepth 100000 in
set_option maxHeartbeats 4000000 in
theorem ct_X8_wipe (l : Launch) (D : va_G) (ct a : Nat → Nat) (ms : Nat → Int32) (ah : Nat → Int32) (hi : Nat → Int32) (kp : Int32) (sl : Nat → Int32) (sv : Nat → Int32) (pd : Nat → Int32) (ln : Int32) (so : Nat → Int32) (po : Int32) (wr : Int32) (to : Nat → Int32) (sz : Nat) (k : Nat) (r : Int32) (ln' : Int32) (h : f_X8_wipe k ln = some (r, ln')) : Met l yX8_wipe (Cond.code yX8_wipe cX8_wipe 2 (some .int) :: zT) ({ frames := 0, cells := 0, slots := 0, locals := 0 } : Room) (va_Pc [.ref (a 30)] (zPW D (zTys ct) (wX8 ct a ms ah hi kp sl sv pd ln so po wr to) sz)) (va_Qi (fun r' (_ : Unit) => r' = r) (zQW D (wX8 ct a ms ah hi kp sl sv pd ln so po wr to) sz (wX8 ct a ms ah hi kp sl sv pd ln' so po wr to)) (va_A (wX8 ct a ms ah hi kp sl sv pd ln so po wr to) sz)) 0 0 (va_A (wX8 ct a ms ah hi kp sl sv pd ln so po wr to) sz) := by
  refine zMet (cc := cX8_wipe) (maxL := 2) (ret := (some .int)) (av := [.ref (a 30)]) (by decide) (Nat.le_of_ble_eq_true rfl) (fun p e s m below meth c ls hx hb hr hml hts hown hlocks hin hB hl => ?_)
  have hl : lv_has ls 2 [(0, .ref (a 30))] := hl
  have hown : s.vm.findClass RX8 = some m.cls := hown
  obtain ⟨hsz, hP, hK, hD0⟩ := hB
  subst hsz
  have hD := hD0.self (sz := s.heap.size)
  obtain ⟨A, hAe⟩ : ∃ A, A = va_A (wX8 ct a ms ah hi kp sl sv pd ln so po wr to) s.heap.size := ⟨_, rfl⟩
  rw [← hAe] at hD
  have hA : ∀ q : Nat, s.heap.size ≤ q → A q := fun q h => by rw [hAe]; exact Or.inr h
  have hS : va_S A s.heap s.heap [] := va_S.rf
  rw [f_X8_wipe] at h
  refine lv_aload_n hx hb dX8_wipe_0 rfl (lv_at hl 0 rfl) ?_
  refine z_get (C := RX8) (T := TX8) (N := 12) (ci := 7) hx hb hts zin_X8 hown hK.1 hP 0 7 rfl rfl (by decide) tw802 rfl rfl dX8_wipe_1 ?_
  refine lv_istore_n (lv' := [(1, .int ln), (0, .ref (a 30))]) hx hb dX8_wipe_4 rfl hl (by decide) rfl (fun ls hl => ?_)
  refine lv_aload_n hx hb dX8_wipe_5 rfl (lv_at hl 1 rfl) ?_
  refine lv_iconst (v := (0 : Int32)) hx hb dX8_wipe_6 (by decide) ?_
  refine z_puti (C := RX8) (T := TX8) (N := 12) (ci := 7) hx hb hts zin_X8 tyX8 tyX8_ok nmX8 hown hK.1 hP hD hS 0 7 rfl rfl (by decide) tw802 rfl rfl (by decide +kernel) (Nat.le_of_ble_eq_true rfl) h dX8_wipe_7 (fun ln1 H locs h hP hD hS => ?_)
  have hP : va_P D vwCl (wX8 ct a ms ah hi kp sl sv pd ln1 so po wr to) H := hP
  have hD : va_D A (wX8 ct a ms ah hi kp sl sv pd ln1 so po wr to) := hD
  refine lv_iload_n hx hb dX8_wipe_10 rfl (lv_at hl 0 rfl) ?_
  cases h
  exact zX_i hx hb hr hlocks hP hD hS hAe dX8_wipe_11 rfl

def f_X8_isNext (k : Nat) (pd : Nat → Int32) (ln : Int32) (po : Int32) (wr : Int32) (p1 : Int32) (p2 : Int32) : Option (Int32) :=
  if wr = 0 then
    if ln ≤ po then
      some (0 : Int32)
    else
      zg (zin po 80) (zl (pd po.toNatClampNeg) fun v1 =>
      zb1 (f_X8_in k v1 p1 p2) fun v2 =>
      if v2 = 0 then
        some (0 : Int32)
      else
        some (1 : Int32))
  else
    some (0 : Int32)
set_option maxRecDepth 100000 in
set_option maxHeartbeats 4000000 in
theorem ct_X8_isNext (l : Launch) (D : va_G) (ct a : Nat → Nat) (ms : Nat → Int32) (ah : Nat → Int32) (hi : Nat → Int32) (kp : Int32) (sl : Nat → Int32) (sv : Nat → Int32) (pd : Nat → Int32) (ln : Int32) (so : Nat → Int32) (po : Int32) (wr : Int32) (to : Nat → Int32) (p1 : Int32) (p2 : Int32) (k : Nat) (r : Int32) (h : f_X8_isNext k pd ln po wr p1 p2 = some r) : Met l yX8_isNext (Cond.code yX8_isNext cX8_isNext 3 (some .boolean) :: zT) ({ frames := 1, cells := 0, slots := 0, locals := 22 } : Room) (va_Pc [.ref (a 30), .int p1, .int p2] (zPR D (zTys ct) (wX8 ct a ms ah hi kp sl sv pd ln so po wr to))) (vp_Si (fun r' => r' = r)) 0 0 (fun _ => False) := by
  refine zMet (cc := cX8_isNext) (maxL := 3) (ret := (some .boolean)) (av := [.ref (a 30), .int p1, .int p2]) (by decide) (Nat.le_of_ble_eq_true rfl) (fun p e s m below meth c ls hx hb hr hml hts hown hlocks hin hB hl => ?_)
  have hl : lv_has ls 3 [(0, .ref (a 30)), (1, .int p1), (2, .int p2)] := hl
  have hown : s.vm.findClass RX8 = some m.cls := hown
  obtain ⟨hP, hK⟩ := hB
  rw [f_X8_isNext] at h
  refine lv_aload_n hx hb dX8_isNext_0 rfl (lv_at hl 0 rfl) ?_
  refine z_get (C := RX8) (T := TX8) (N := 12) (ci := 7) hx hb hts zin_X8 hown hK.1 hP 0 10 rfl rfl (by decide) tw805 rfl rfl dX8_isNext_1 ?_
  refine zi_ne (tgt := 39) hx hb dX8_isNext_4 (by decide) h (fun h => ?_) (fun h => ?_)
  · refine lv_iconst (v := (0 : Int32)) hx hb dX8_isNext_39 (by decide) ?_
    exact zR_z hx hb hr hlocks dX8_isNext_40 h
  · refine lv_aload_n hx hb dX8_isNext_7 rfl (lv_at hl 0 rfl) ?_
    refine z_get (C := RX8) (T := TX8) (N := 12) (ci := 7) hx hb hts zin_X8 hown hK.1 hP 0 9 rfl rfl (by decide) tw804 rfl rfl dX8_isNext_8 ?_
    refine lv_aload_n hx hb dX8_isNext_11 rfl (lv_at hl 0 rfl) ?_
    refine z_get (C := RX8) (T := TX8) (N := 12) (ci := 7) hx hb hts zin_X8 hown hK.1 hP 0 7 rfl rfl (by decide) tw802 rfl rfl dX8_isNext_12 ?_
    refine zc_ge (tgt := 39) hx hb dX8_isNext_15 (by decide) h (fun h => ?_) (fun h => ?_)
    · refine lv_iconst (v := (0 : Int32)) hx hb dX8_isNext_39 (by decide) ?_
      exact zR_z hx hb hr hlocks dX8_isNext_40 h
    · refine lv_aload_n hx hb dX8_isNext_18 rfl (lv_at hl 0 rfl) ?_
      refine z_get (C := RX8) (T := TX8) (N := 12) (ci := 7) hx hb hts zin_X8 hown hK.1 hP 0 6 rfl rfl (by decide) tw801 rfl rfl dX8_isNext_19 ?_
      refine lv_aload_n hx hb dX8_isNext_22 rfl (lv_at hl 0 rfl) ?_
      refine z_get (C := RX8) (T := TX8) (N := 12) (ci := 7) hx hb hts zin_X8 hown hK.1 hP 0 9 rfl rfl (by decide) tw804 rfl rfl dX8_isNext_23 ?_
      refine y_iald hx hb hK hP 6 0 rfl rfl h dX8_isNext_26 (fun v1 h => ?_)
      refine lv_iload_n hx hb dX8_isNext_27 rfl (lv_at hl 1 rfl) ?_
      refine lv_iload_n hx hb dX8_isNext_28 rfl (lv_at hl 2 rfl) ?_
      obtain ⟨v2, hc, h⟩ := zb1_s h
      refine zE_i (zrS (As := [.int v1, .int p1, .int p2]) (rest := []) hx hb hml hown hts tw836 ms_X8_in ⟨Nat.le_of_ble_eq_true rfl, Nat.le_of_ble_eq_true rfl⟩ rfl rfl (ct_X8_in l v1 p1 p2 k v2 hc) z_p0 hl.1 rfl rfl (Nat.le_of_ble_eq_true rfl) dX8_isNext_29 ⟨Nat.le_refl _, Nat.le_refl _⟩) ?_
      refine zi_eq (tgt := 39) hx hb dX8_isNext_32 (by decide) h (fun h => ?_) (fun h => ?_)
      · refine lv_iconst (v := (0 : Int32)) hx hb dX8_isNext_39 (by decide) ?_
        exact zR_z hx hb hr hlocks dX8_isNext_40 h
      · refine lv_iconst (v := (1 : Int32)) hx hb dX8_isNext_35 (by decide) ?_
        refine lv_goto (tgt := 40) hx hb dX8_isNext_36 (by decide) ?_
        exact zR_z hx hb hr hlocks dX8_isNext_40 h

def f_X8_takes_b67 (k : Nat) (pd : Nat → Int32) (ln : Int32) (p1 : Int32) (p2 : Int32)  (po_ : Int32) (wr_ : Int32) (x3 : Int32) (y0 : Int32) (y1 : Int32) : Option (Int32 × Int32 × Int32) :=
  zl (y1 + y0) fun v2 =>
  zl v2 fun po3 =>
  zl (x3 - p1) fun v4 =>
  some (v4, po3, wr_)
def f_X8_takes_b47 (k : Nat) (pd : Nat → Int32) (ln : Int32) (p1 : Int32) (p2 : Int32)  (po_ : Int32) (wr_ : Int32) (x3 : Int32) (y0 : Int32) : Option (Int32 × Int32 × Int32) :=
  zg (zbo y0) (zl y0 fun wr1 =>
  if wr1 = 0 then
    f_X8_takes_b67 k pd ln p1 p2 po_ wr1 x3 (1 : Int32) po_
  else
    f_X8_takes_b67 k pd ln p1 p2 po_ wr1 x3 (0 : Int32) po_)
def f_X8_takes_b24 (k : Nat) (pd : Nat → Int32) (ln : Int32) (p1 : Int32) (p2 : Int32)  (po_ : Int32) (wr_ : Int32) (y0 : Int32) : Option (Int32 × Int32 × Int32) :=
  if wr_ = 0 then
    zb1 (f_X8_in k y0 p1 p2) fun v5 =>
    if v5 = 0 then
      f_X8_takes_b47 k pd ln p1 p2 po_ wr_ y0 (1 : Int32)
    else
      f_X8_takes_b47 k pd ln p1 p2 po_ wr_ y0 (0 : Int32)
  else
    f_X8_takes_b47 k pd ln p1 p2 po_ wr_ y0 (1 : Int32)
def f_X8_takes (k : Nat) (pd : Nat → Int32) (ln : Int32) (po : Int32) (wr : Int32) (p1 : Int32) (p2 : Int32) : Option (Int32 × Int32 × Int32) :=
  if ln ≤ po then
    f_X8_takes_b24 k pd ln p1 p2 po wr (0 : Int32)
  else
    zg (zin po 80) (zl (pd po.toNatClampNeg) fun v6 =>
    f_X8_takes_b24 k pd ln p1 p2 po wr v6)
set_option maxRecDepth 100000 in
set_option maxHeartbeats 4000000 in
theorem ct_X8_takes (l : Launch) (D : va_G) (ct a : Nat → Nat) (ms : Nat → Int32) (ah : Nat → Int32) (hi : Nat → Int32) (kp : Int32) (sl : Nat → Int32) (sv : Nat → Int32) (pd : Nat → Int32) (ln : Int32) (so : Nat → Int32) (po : Int32) (wr : Int32) (to : Nat → Int32) (sz : Nat) (p1 : Int32) (p2 : Int32) (k : Nat) (r : Int32) (po' : Int32) (wr' : Int32) (h : f_X8_takes k pd ln po wr p1 p2 = some (r, po', wr')) : Met l yX8_takes (Cond.code yX8_takes cX8_takes 4 (some .int) :: zT) ({ frames := 1, cells := 0, slots := 0, locals := 22 } : Room) (va_Pc [.ref (a 30), .int p1, .int p2] (zPW D (zTys ct) (wX8 ct a ms ah hi kp sl sv pd ln so po wr to) sz)) (va_Qi (fun r' (_ : Unit) => r' = r) (zQW D (wX8 ct a ms ah hi kp sl sv pd ln so po wr to) sz (wX8 ct a ms ah hi kp sl sv pd ln so po' wr' to)) (va_A (wX8 ct a ms ah hi kp sl sv pd ln so po wr to) sz)) 0 0 (va_A (wX8 ct a ms ah hi kp sl sv pd ln so po wr to) sz) := by
  refine zMet (cc := cX8_takes) (maxL := 4) (ret := (some .int)) (av := [.ref (a 30), .int p1, .int p2]) (by decide) (Nat.le_of_ble_eq_true rfl) (fun p e s m below meth c ls hx hb hr hml hts hown hlocks hin hB hl => ?_)
  have hl : lv_has ls 4 [(0, .ref (a 30)), (1, .int p1), (2, .int p2)] := hl
  have hown : s.vm.findClass RX8 = some m.cls := hown
  obtain ⟨hsz, hP, hK, hD0⟩ := hB
  subst hsz
  have hD := hD0.self (sz := s.heap.size)
  obtain ⟨A, hAe⟩ : ∃ A, A = va_A (wX8 ct a ms ah hi kp sl sv pd ln so po wr to) s.heap.size := ⟨_, rfl⟩
  rw [← hAe] at hD
  have hA : ∀ q : Nat, s.heap.size ≤ q → A q := fun q h => by rw [hAe]; exact Or.inr h
  have hS : va_S A s.heap s.heap [] := va_S.rf
  have B67 : ∀ (po_ : Int32) (wr_ : Int32) (x3 : Int32) (y0 : Int32) (y1 : Int32), f_X8_takes_b67 k pd ln p1 p2 po_ wr_ x3 y0 y1 = some (r, po', wr') → ∀ (H : Heap) (locs : List Loc), va_P D vwCl (wX8 ct a ms ah hi kp sl sv pd ln so po_ wr_ to) H → va_D A (wX8 ct a ms ah hi kp sl sv pd ln so po_ wr_ to) → va_S A s.heap H locs → ∀ (ls : Array Slot), lv_has ls 4 [(1, .int p1), (3, .int x3)] → W p l e ({ frames := 1, cells := 0, slots := 0, locals := 22 } : Room) s m ([.ref (a 30), .int p1, .int p2] : List Value).toArray below meth c H locs 0 0 (MQ below (va_Qi (fun r' (_ : Unit) => r' = r) (zQW D (wX8 ct a ms ah hi kp sl sv pd ln so po wr to) s.heap.size (wX8 ct a ms ah hi kp sl sv pd ln so po' wr' to)) (va_A (wX8 ct a ms ah hi kp sl sv pd ln so po wr to) s.heap.size)) ([.ref (a 30), .int p1, .int p2] : List Value).toArray s 0 0 (va_A (wX8 ct a ms ah hi kp sl sv pd ln so po wr to) s.heap.size)) (F0 m 67 ls [.int y0, .int y1, .ref (a 30)]) := by
    intro po_ wr_ x3 y0 y1 h H locs hP hD hS ls hl
    rw [f_X8_takes_b67] at h
    refine o_iadd hx hb dX8_takes_67 h (fun v2 h => ?_)
    refine z_puti (C := RX8) (T := TX8) (N := 12) (ci := 7) hx hb hts zin_X8 tyX8 tyX8_ok nmX8 hown hK.1 hP hD hS 0 9 rfl rfl (by decide) tw804 rfl rfl (by decide +kernel) (Nat.le_of_ble_eq_true rfl) h dX8_takes_68 (fun po3 H locs h hP hD hS => ?_)
    have hP : va_P D vwCl (wX8 ct a ms ah hi kp sl sv pd ln so po3 wr_ to) H := hP
    have hD : va_D A (wX8 ct a ms ah hi kp sl sv pd ln so po3 wr_ to) := hD
    refine lv_iload_n hx hb dX8_takes_71 rfl (lv_at hl 1 rfl) ?_
    refine lv_iload_n hx hb dX8_takes_72 rfl (lv_at hl 0 rfl) ?_
    refine o_isub hx hb dX8_takes_73 h (fun v4 h => ?_)
    cases h
    exact zX_i hx hb hr hlocks hP hD hS hAe dX8_takes_74 rfl
  have B47 : ∀ (po_ : Int32) (wr_ : Int32) (x3 : Int32) (y0 : Int32), f_X8_takes_b47 k pd ln p1 p2 po_ wr_ x3 y0 = some (r, po', wr') → ∀ (H : Heap) (locs : List Loc), va_P D vwCl (wX8 ct a ms ah hi kp sl sv pd ln so po_ wr_ to) H → va_D A (wX8 ct a ms ah hi kp sl sv pd ln so po_ wr_ to) → va_S A s.heap H locs → ∀ (ls : Array Slot), lv_has ls 4 [(0, .ref (a 30)), (1, .int p1), (3, .int x3)] → W p l e ({ frames := 1, cells := 0, slots := 0, locals := 22 } : Room) s m ([.ref (a 30), .int p1, .int p2] : List Value).toArray below meth c H locs 0 0 (MQ below (va_Qi (fun r' (_ : Unit) => r' = r) (zQW D (wX8 ct a ms ah hi kp sl sv pd ln so po wr to) s.heap.size (wX8 ct a ms ah hi kp sl sv pd ln so po' wr' to)) (va_A (wX8 ct a ms ah hi kp sl sv pd ln so po wr to) s.heap.size)) ([.ref (a 30), .int p1, .int p2] : List Value).toArray s 0 0 (va_A (wX8 ct a ms ah hi kp sl sv pd ln so po wr to) s.heap.size)) (F0 m 47 ls [.int y0, .ref (a 30)]) := by
    intro po_ wr_ x3 y0 h H locs hP hD hS ls hl
    rw [f_X8_takes_b47] at h
    refine z_putz (C := RX8) (T := TX8) (N := 12) (ci := 7) hx hb hts zin_X8 tyX8 tyX8_ok nmX8 hown hK.1 hP hD hS 0 10 rfl rfl (by decide) tw805 rfl rfl (by decide +kernel) (Nat.le_of_ble_eq_true rfl) h dX8_takes_47 (fun wr1 H locs h hP hD hS => ?_)
    have hP : va_P D vwCl (wX8 ct a ms ah hi kp sl sv pd ln so po_ wr1 to) H := hP
    have hD : va_D A (wX8 ct a ms ah hi kp sl sv pd ln so po_ wr1 to) := hD
    refine lv_aload_n hx hb dX8_takes_50 rfl (lv_at hl 0 rfl) ?_
    refine lv_dup hx hb dX8_takes_51 rfl ?_
    refine z_get (C := RX8) (T := TX8) (N := 12) (ci := 7) hx hb hts zin_X8 hown hK.1 hP 0 9 rfl rfl (by decide) tw804 rfl rfl dX8_takes_52 ?_
    refine lv_aload_n hx hb dX8_takes_55 rfl (lv_at hl 0 rfl) ?_
    refine z_get (C := RX8) (T := TX8) (N := 12) (ci := 7) hx hb hts zin_X8 hown hK.1 hP 0 10 rfl rfl (by decide) tw805 rfl rfl dX8_takes_56 ?_
    refine zi_eq (tgt := 66) hx hb dX8_takes_59 (by decide) h (fun h => ?_) (fun h => ?_)
    · refine lv_iconst (v := (1 : Int32)) hx hb dX8_takes_66 (by decide) ?_
      exact B67 po_ wr1 x3 (1 : Int32) po_ h _ _ hP hD hS ls (lv_sub hl [1, 2] rfl)
    · refine lv_iconst (v := (0 : Int32)) hx hb dX8_takes_62 (by decide) ?_
      refine lv_goto (tgt := 67) hx hb dX8_takes_63 (by decide) ?_
      exact B67 po_ wr1 x3 (0 : Int32) po_ h _ _ hP hD hS ls (lv_sub hl [1, 2] rfl)
  have B24 : ∀ (po_ : Int32) (wr_ : Int32) (y0 : Int32), f_X8_takes_b24 k pd ln p1 p2 po_ wr_ y0 = some (r, po', wr') → ∀ (H : Heap) (locs : List Loc), va_P D vwCl (wX8 ct a ms ah hi kp sl sv pd ln so po_ wr_ to) H → va_D A (wX8 ct a ms ah hi kp sl sv pd ln so po_ wr_ to) → va_S A s.heap H locs → ∀ (ls : Array Slot), lv_has ls 4 [(0, .ref (a 30)), (1, .int p1), (2, .int p2)] → W p l e ({ frames := 1, cells := 0, slots := 0, locals := 22 } : Room) s m ([.ref (a 30), .int p1, .int p2] : List Value).toArray below meth c H locs 0 0 (MQ below (va_Qi (fun r' (_ : Unit) => r' = r) (zQW D (wX8 ct a ms ah hi kp sl sv pd ln so po wr to) s.heap.size (wX8 ct a ms ah hi kp sl sv pd ln so po' wr' to)) (va_A (wX8 ct a ms ah hi kp sl sv pd ln so po wr to) s.heap.size)) ([.ref (a 30), .int p1, .int p2] : List Value).toArray s 0 0 (va_A (wX8 ct a ms ah hi kp sl sv pd ln so po wr to) s.heap.size)) (F0 m 24 ls [.int y0]) := by
    intro po_ wr_ y0 h H locs hP hD hS ls hl
    rw [f_X8_takes_b24] at h
    refine lv_istore_n (lv' := [(3, .int y0), (0, .ref (a 30)), (1, .int p1), (2, .int p2)]) hx hb dX8_takes_24 rfl hl (by decide) rfl (fun ls hl => ?_)
    refine lv_aload_n hx hb dX8_takes_25 rfl (lv_at hl 1 rfl) ?_
    refine lv_aload_n hx hb dX8_takes_26 rfl (lv_at hl 1 rfl) ?_
    refine z_get (C := RX8) (T := TX8) (N := 12) (ci := 7) hx hb hts zin_X8 hown hK.1 hP 0 10 rfl rfl (by decide) tw805 rfl rfl dX8_takes_27 ?_
    refine zi_ne (tgt := 42) hx hb dX8_takes_30 (by decide) h (fun h => ?_) (fun h => ?_)
    · refine lv_iconst (v := (1 : Int32)) hx hb dX8_takes_42 (by decide) ?_
      refine lv_goto (tgt := 47) hx hb dX8_takes_43 (by decide) ?_
      exact B47 po_ wr_ y0 (1 : Int32) h _ _ hP hD hS ls (lv_sub hl [1, 2, 0] rfl)
    · refine lv_iload_n hx hb dX8_takes_33 rfl (lv_at hl 0 rfl) ?_
      refine lv_iload_n hx hb dX8_takes_34 rfl (lv_at hl 2 rfl) ?_
      refine lv_iload_n hx hb dX8_takes_35 rfl (lv_at hl 3 rfl) ?_
      obtain ⟨v5, hc, h⟩ := zb1_s h
      refine zE_i (zrS (As := [.int y0, .int p1, .int p2]) (rest := [.ref (a 30)]) hx hb hml hown hts tw836 ms_X8_in ⟨Nat.le_of_ble_eq_true rfl, Nat.le_of_ble_eq_true rfl⟩ rfl rfl (ct_X8_in l y0 p1 p2 k v5 hc) z_p0 hl.1 rfl rfl (Nat.le_of_ble_eq_true rfl) dX8_takes_36 ⟨Nat.le_refl _, Nat.le_refl _⟩) ?_
      refine zi_ne (tgt := 46) hx hb dX8_takes_39 (by decide) h (fun h => ?_) (fun h => ?_)
      · refine lv_iconst (v := (0 : Int32)) hx hb dX8_takes_46 (by decide) ?_
        exact B47 po_ wr_ y0 (0 : Int32) h _ _ hP hD hS ls (lv_sub hl [1, 2, 0] rfl)
      · refine lv_iconst (v := (1 : Int32)) hx hb dX8_takes_42 (by decide) ?_
        refine lv_goto (tgt := 47) hx hb dX8_takes_43 (by decide) ?_
        exact B47 po_ wr_ y0 (1 : Int32) h _ _ hP hD hS ls (lv_sub hl [1, 2, 0] rfl)
  rw [f_X8_takes] at h
  refine lv_aload_n hx hb dX8_takes_0 rfl (lv_at hl 0 rfl) ?_
  refine z_get (C := RX8) (T := TX8) (N := 12) (ci := 7) hx hb hts zin_X8 hown hK.1 hP 0 9 rfl rfl (by decide) tw804 rfl rfl dX8_takes_1 ?_
  refine lv_aload_n hx hb dX8_takes_4 rfl (lv_at hl 0 rfl) ?_
  refine z_get (C := RX8) (T := TX8) (N := 12) (ci := 7) hx hb hts zin_X8 hown hK.1 hP 0 7 rfl rfl (by decide) tw802 rfl rfl dX8_takes_5 ?_
  refine zc_ge (tgt := 23) hx hb dX8_takes_8 (by decide) h (fun h => ?_) (fun h => ?_)
  · refine lv_iconst (v := (0 : Int32)) hx hb dX8_takes_23 (by decide) ?_
    exact B24 po wr (0 : Int32) h _ _ hP hD hS ls (lv_sub hl [0, 1, 2] rfl)
  · refine lv_aload_n hx hb dX8_takes_11 rfl (lv_at hl 0 rfl) ?_
    refine z_get (C := RX8) (T := TX8) (N := 12) (ci := 7) hx hb hts zin_X8 hown hK.1 hP 0 6 rfl rfl (by decide) tw801 rfl rfl dX8_takes_12 ?_
    refine lv_aload_n hx hb dX8_takes_15 rfl (lv_at hl 0 rfl) ?_
    refine z_get (C := RX8) (T := TX8) (N := 12) (ci := 7) hx hb hts zin_X8 hown hK.1 hP 0 9 rfl rfl (by decide) tw804 rfl rfl dX8_takes_16 ?_
    refine y_iald hx hb hK hP 6 0 rfl rfl h dX8_takes_19 (fun v6 h => ?_)
    refine lv_goto (tgt := 24) hx hb dX8_takes_20 (by decide) ?_
    exact B24 po wr v6 h _ _ hP hD hS ls (lv_sub hl [0, 1, 2] rfl)

def f_X8_takesNumber_b11 (k : Nat) (pd : Nat → Int32) (ln : Int32)  : Nat → Int32 → Int32 → Int32 → Int32 → Option (Int32 × Int32 × Int32)
  | 0, _, _, _, _ => none
  | n + 1, po_, wr_, x1, x2 =>
    if (2 : Int32) ≤ x2 then
      some (x1, po_, wr_)
    else
      if x1 ≤ 0 then
        some (x1, po_, wr_)
      else
        zb1 (f_X8_isNext k pd ln po_ wr_ (48 : Int32) (57 : Int32)) fun v4 =>
        if v4 = 0 then
          some (x1, po_, wr_)
        else
          zl ((10 : Int32) * x1) fun v5 =>
          zb3 (f_X8_takes k pd ln po_ wr_ (48 : Int32) (57 : Int32)) fun v6 po7 wr8 =>
          zl (v5 + v6) fun v9 =>
          zl (x2 + (1 : Int32)) fun v10 =>
          f_X8_takesNumber_b11 k pd ln n po7 wr8 v9 v10
def f_X8_takesNumber (k : Nat) (pd : Nat → Int32) (ln : Int32) (po : Int32) (wr : Int32) : Option (Int32 × Int32 × Int32) :=
  zb3 (f_X8_takes k pd ln po wr (48 : Int32) (57 : Int32)) fun v1 po2 wr3 =>
  f_X8_takesNumber_b11 k pd ln k po2 wr3 v1 (0 : Int32)
set_option maxRecDepth 100000 in
set_option maxHeartbeats 4000000 in
theorem ct_X8_takesNumber (l : Launch) (D : va_G) (ct a : Nat → Nat) (ms : Nat → Int32) (ah : Nat → Int32) (hi : Nat → Int32) (kp : Int32) (sl : Nat → Int32) (sv : Nat → Int32) (pd : Nat → Int32) (ln : Int32) (so : Nat → Int32) (po : Int32) (wr : Int32) (to : Nat → Int32) (sz : Nat) (k : Nat) (r : Int32) (po' : Int32) (wr' : Int32) (h : f_X8_takesNumber k pd ln po wr = some (r, po', wr')) : Met l yX8_takesNumber (Cond.code yX8_takesNumber cX8_takesNumber 3 (some .int) :: zT) ({ frames := 2, cells := 0, slots := 0, locals := 45 } : Room) (va_Pc [.ref (a 30)] (zPW D (zTys ct) (wX8 ct a ms ah hi kp sl sv pd ln so po wr to) sz)) (va_Qi (fun r' (_ : Unit) => r' = r) (zQW D (wX8 ct a ms ah hi kp sl sv pd ln so po wr to) sz (wX8 ct a ms ah hi kp sl sv pd ln so po' wr' to)) (va_A (wX8 ct a ms ah hi kp sl sv pd ln so po wr to) sz)) 0 0 (va_A (wX8 ct a ms ah hi kp sl sv pd ln so po wr to) sz) := by
  refine zMet (cc := cX8_takesNumber) (maxL := 3) (ret := (some .int)) (av := [.ref (a 30)]) (by decide) (Nat.le_of_ble_eq_true rfl) (fun p e s m below meth c ls hx hb hr hml hts hown hlocks hin hB hl => ?_)
  have hl : lv_has ls 3 [(0, .ref (a 30))] := hl
  have hown : s.vm.findClass RX8 = some m.cls := hown
  obtain ⟨hsz, hP, hK, hD0⟩ := hB
  subst hsz
  have hD := hD0.self (sz := s.heap.size)
  obtain ⟨A, hAe⟩ : ∃ A, A = va_A (wX8 ct a ms ah hi kp sl sv pd ln so po wr to) s.heap.size := ⟨_, rfl⟩
  rw [← hAe] at hD
  have hA : ∀ q : Nat, s.heap.size ≤ q → A q := fun q h => by rw [hAe]; exact Or.inr h
  have hS : va_S A s.heap s.heap [] := va_S.rf
  have B11 : ∀ (n : Nat), ∀ (po_ : Int32) (wr_ : Int32) (x1 : Int32) (x2 : Int32), f_X8_takesNumber_b11 k pd ln n po_ wr_ x1 x2 = some (r, po', wr') → ∀ (H : Heap) (locs : List Loc), va_P D vwCl (wX8 ct a ms ah hi kp sl sv pd ln so po_ wr_ to) H → va_D A (wX8 ct a ms ah hi kp sl sv pd ln so po_ wr_ to) → va_S A s.heap H locs → ∀ (ls : Array Slot), lv_has ls 3 [(0, .ref (a 30)), (1, .int x1), (2, .int x2)] → W p l e ({ frames := 2, cells := 0, slots := 0, locals := 45 } : Room) s m ([.ref (a 30)] : List Value).toArray below meth c H locs 0 0 (MQ below (va_Qi (fun r' (_ : Unit) => r' = r) (zQW D (wX8 ct a ms ah hi kp sl sv pd ln so po wr to) s.heap.size (wX8 ct a ms ah hi kp sl sv pd ln so po' wr' to)) (va_A (wX8 ct a ms ah hi kp sl sv pd ln so po wr to) s.heap.size)) ([.ref (a 30)] : List Value).toArray s 0 0 (va_A (wX8 ct a ms ah hi kp sl sv pd ln so po wr to) s.heap.size)) (F0 m 11 ls []) := by
    intro n
    induction n with
    | zero => intro po_ wr_ x1 x2 h; exact absurd h (by rw [f_X8_takesNumber_b11]; exact fun q => nomatch q)
    | succ n ih11 =>
      intro po_ wr_ x1 x2 h H locs hP hD hS ls hl
      rw [f_X8_takesNumber_b11] at h
      refine lv_iload_n hx hb dX8_takesNumber_11 rfl (lv_at hl 2 rfl) ?_
      refine lv_iconst (v := (2 : Int32)) hx hb dX8_takesNumber_12 (by decide) ?_
      refine zc_ge (tgt := 51) hx hb dX8_takesNumber_13 (by decide) h (fun h => ?_) (fun h => ?_)
      · refine lv_iload_n hx hb dX8_takesNumber_51 rfl (lv_at hl 1 rfl) ?_
        cases h
        exact zX_i hx hb hr hlocks hP hD hS hAe dX8_takesNumber_52 rfl
      · refine lv_iload_n hx hb dX8_takesNumber_16 rfl (lv_at hl 1 rfl) ?_
        refine zi_le (tgt := 51) hx hb dX8_takesNumber_17 (by decide) h (fun h => ?_) (fun h => ?_)
        · refine lv_iload_n hx hb dX8_takesNumber_51 rfl (lv_at hl 1 rfl) ?_
          cases h
          exact zX_i hx hb hr hlocks hP hD hS hAe dX8_takesNumber_52 rfl
        · refine lv_aload_n hx hb dX8_takesNumber_20 rfl (lv_at hl 0 rfl) ?_
          refine lv_bipush (v := (48 : Int32)) hx hb dX8_takesNumber_21 (by decide) ?_
          refine lv_bipush (v := (57 : Int32)) hx hb dX8_takesNumber_23 (by decide) ?_
          obtain ⟨v4, hc, h⟩ := zb1_s h
          refine zE_i (zrV (C := RX8) (As := [.int (48 : Int32), .int (57 : Int32)]) (rest := []) hx hb hml hown hts tw1127 mv_X8_isNext ⟨Nat.le_of_ble_eq_true rfl, Nat.le_of_ble_eq_true rfl⟩ rfl rfl (ct_X8_isNext l D ct a ms ah hi kp sl sv pd ln so po_ wr_ to (48 : Int32) (57 : Int32) k v4 hc) (z_pv hK hP [0, 1, 2, 3, 4, 5, 6, 7, 8] rfl 0 rfl rfl) hl.1 rfl rfl (Nat.le_of_ble_eq_true rfl) dX8_takesNumber_25 ⟨Nat.le_refl _, Nat.le_refl _⟩) ?_
          refine zi_eq (tgt := 51) hx hb dX8_takesNumber_28 (by decide) h (fun h => ?_) (fun h => ?_)
          · refine lv_iload_n hx hb dX8_takesNumber_51 rfl (lv_at hl 1 rfl) ?_
            cases h
            exact zX_i hx hb hr hlocks hP hD hS hAe dX8_takesNumber_52 rfl
          · refine lv_bipush (v := (10 : Int32)) hx hb dX8_takesNumber_31 (by decide) ?_
            refine lv_iload_n hx hb dX8_takesNumber_33 rfl (lv_at hl 1 rfl) ?_
            refine o_imul hx hb dX8_takesNumber_34 h (fun v5 h => ?_)
            refine lv_aload_n hx hb dX8_takesNumber_35 rfl (lv_at hl 0 rfl) ?_
            refine lv_bipush (v := (48 : Int32)) hx hb dX8_takesNumber_36 (by decide) ?_
            refine lv_bipush (v := (57 : Int32)) hx hb dX8_takesNumber_38 (by decide) ?_
            obtain ⟨v6, po7, wr8, hc, h⟩ := zb3_s h
            refine zG_i (w1 := wX8 ct a ms ah hi kp sl sv pd ln so po7 wr8 to) (ws' := wX8 ct a ms ah hi kp sl sv pd ln so po7 wr8 to) hP hD hS hA [0, 1, 2, 3, 4, 5, 6, 7, 8] [] [0, 1, 2, 3, 4, 5, 6, 7, 8] rfl rfl (by decide) (by decide) rfl (by decide) (zrV (C := RX8) (As := [.int (48 : Int32), .int (57 : Int32)]) (rest := [.int v5]) hx hb hml hown hts tw1131 mv_X8_takes ⟨Nat.le_of_ble_eq_true rfl, Nat.le_of_ble_eq_true rfl⟩ rfl rfl (ct_X8_takes l D ct a ms ah hi kp sl sv pd ln so po_ wr_ to _ (48 : Int32) (57 : Int32) k v6 po7 wr8 hc) (z_wv hK hP hD [0, 1, 2, 3, 4, 5, 6, 7, 8] (by decide) rfl 0 rfl rfl) hl.1 rfl rfl (Nat.le_of_ble_eq_true rfl) dX8_takesNumber_40 ⟨Nat.le_refl _, Nat.le_refl _⟩) (fun H locs hP hD hS => ?_)
            refine o_iadd hx hb dX8_takesNumber_43 h (fun v9 h => ?_)
            refine lv_istore_n (lv' := [(1, .int v9), (0, .ref (a 30)), (2, .int x2)]) hx hb dX8_takesNumber_44 rfl hl (by decide) rfl (fun ls hl => ?_)
            refine o_nm h (fun v10 ey h => ?_)
            refine lv_iinc (v := v10) (lv' := [(2, .int v10), (1, .int v9), (0, .ref (a 30))]) hx hb dX8_takesNumber_45 hl (k := 2) rfl (Eq.trans rfl ey) (by decide) rfl (fun ls hl => ?_)
            refine lv_goto (tgt := 11) hx hb dX8_takesNumber_48 (by decide) ?_
            exact ih11 po7 wr8 v9 v10 h _ _ hP hD hS ls (lv_sub hl [2, 1, 0] rfl)
  rw [f_X8_takesNumber] at h
  refine lv_aload_n hx hb dX8_takesNumber_0 rfl (lv_at hl 0 rfl) ?_
  refine lv_bipush (v := (48 : Int32)) hx hb dX8_takesNumber_1 (by decide) ?_
  refine lv_bipush (v := (57 : Int32)) hx hb dX8_takesNumber_3 (by decide) ?_
  obtain ⟨v1, po2, wr3, hc, h⟩ := zb3_s h
  refine zG_i (w1 := wX8 ct a ms ah hi kp sl sv pd ln so po2 wr3 to) (ws' := wX8 ct a ms ah hi kp sl sv pd ln so po2 wr3 to) hP hD hS hA [0, 1, 2, 3, 4, 5, 6, 7, 8] [] [0, 1, 2, 3, 4, 5, 6, 7, 8] rfl rfl (by decide) (by decide) rfl (by decide) (zrV (C := RX8) (As := [.int (48 : Int32), .int (57 : Int32)]) (rest := []) hx hb hml hown hts tw1131 mv_X8_takes ⟨Nat.le_of_ble_eq_true rfl, Nat.le_of_ble_eq_true rfl⟩ rfl rfl (ct_X8_takes l D ct a ms ah hi kp sl sv pd ln so po wr to _ (48 : Int32) (57 : Int32) k v1 po2 wr3 hc) (z_wv hK hP hD [0, 1, 2, 3, 4, 5, 6, 7, 8] (by decide) rfl 0 rfl rfl) hl.1 rfl rfl (Nat.le_of_ble_eq_true rfl) dX8_takesNumber_5 ⟨Nat.le_refl _, Nat.le_refl _⟩) (fun H locs hP hD hS => ?_)
  refine lv_istore_n (lv' := [(1, .int v1), (0, .ref (a 30))]) hx hb dX8_takesNumber_8 rfl hl (by decide) rfl (fun ls hl => ?_)
  refine lv_iconst (v := (0 : Int32)) hx hb dX8_takesNumber_9 (by decide) ?_
  refine lv_istore_n (lv' := [(2, .int (0 : Int32)), (1, .int v1), (0, .ref (a 30))]) hx hb dX8_takesNumber_10 rfl hl (by decide) rfl (fun ls hl => ?_)
  exact B11 k po2 wr3 v1 (0 : Int32) h _ _ hP hD hS ls (lv_sub hl [2, 1, 0] rfl)

def f_X8_takesBehind (k : Nat) (pd : Nat → Int32) (ln : Int32) (po : Int32) (wr : Int32) (p1 : Int32) : Option (Int32 × Int32 × Int32) :=
  zb3 (f_X8_takes k pd ln po wr p1 p1) fun v1 po2 wr3 =>
  zb3 (f_X8_takesNumber k pd ln po2 wr3) fun v4 po5 wr6 =>
  some (v4, po5, wr6)
set_option maxRecDepth 100000 in
set_option maxHeartbeats 4000000 in
theorem ct_X8_takesBehind (l : Launch) (D : va_G) (ct a : Nat → Nat) (ms : Nat → Int32) (ah : Nat → Int32) (hi : Nat → Int32) (kp : Int32) (sl : Nat → Int32) (sv : Nat → Int32) (pd : Nat → Int32) (ln : Int32) (so : Nat → Int32) (po : Int32) (wr : Int32) (to : Nat → Int32) (sz : Nat) (p1 : Int32) (k : Nat) (r : Int32) (po' : Int32) (wr' : Int32) (h : f_X8_takesBehind k pd ln po wr p1 = some (r, po', wr')) : Met l yX8_takesBehind (Cond.code yX8_takesBehind cX8_takesBehind 3 (some .int) :: zT) ({ frames := 3, cells := 0, slots := 0, locals := 67 } : Room) (va_Pc [.ref (a 30), .int p1] (zPW D (zTys ct) (wX8 ct a ms ah hi kp sl sv pd ln so po wr to) sz)) (va_Qi (fun r' (_ : Unit) => r' = r) (zQW D (wX8 ct a ms ah hi kp sl sv pd ln so po wr to) sz (wX8 ct a ms ah hi kp sl sv pd ln so po' wr' to)) (va_A (wX8 ct a ms ah hi kp sl sv pd ln so po wr to) sz)) 0 0 (va_A (wX8 ct a ms ah hi kp sl sv pd ln so po wr to) sz) := by
  refine zMet (cc := cX8_takesBehind) (maxL := 3) (ret := (some .int)) (av := [.ref (a 30), .int p1]) (by decide) (Nat.le_of_ble_eq_true rfl) (fun p e s m below meth c ls hx hb hr hml hts hown hlocks hin hB hl => ?_)
  have hl : lv_has ls 3 [(0, .ref (a 30)), (1, .int p1)] := hl
  have hown : s.vm.findClass RX8 = some m.cls := hown
  obtain ⟨hsz, hP, hK, hD0⟩ := hB
  subst hsz
  have hD := hD0.self (sz := s.heap.size)
  obtain ⟨A, hAe⟩ : ∃ A, A = va_A (wX8 ct a ms ah hi kp sl sv pd ln so po wr to) s.heap.size := ⟨_, rfl⟩
  rw [← hAe] at hD
  have hA : ∀ q : Nat, s.heap.size ≤ q → A q := fun q h => by rw [hAe]; exact Or.inr h
  have hS : va_S A s.heap s.heap [] := va_S.rf
  rw [f_X8_takesBehind] at h
  refine lv_aload_n hx hb dX8_takesBehind_0 rfl (lv_at hl 0 rfl) ?_
  refine lv_iload_n hx hb dX8_takesBehind_1 rfl (lv_at hl 1 rfl) ?_
  refine lv_iload_n hx hb dX8_takesBehind_2 rfl (lv_at hl 1 rfl) ?_
  obtain ⟨v1, po2, wr3, hc, h⟩ := zb3_s h
  refine zG_i (w1 := wX8 ct a ms ah hi kp sl sv pd ln so po2 wr3 to) (ws' := wX8 ct a ms ah hi kp sl sv pd ln so po2 wr3 to) hP hD hS hA [0, 1, 2, 3, 4, 5, 6, 7, 8] [] [0, 1, 2, 3, 4, 5, 6, 7, 8] rfl rfl (by decide) (by decide) rfl (by decide) (zrV (C := RX8) (As := [.int p1, .int p1]) (rest := []) hx hb hml hown hts tw1131 mv_X8_takes ⟨Nat.le_of_ble_eq_true rfl, Nat.le_of_ble_eq_true rfl⟩ rfl rfl (ct_X8_takes l D ct a ms ah hi kp sl sv pd ln so po wr to _ p1 p1 k v1 po2 wr3 hc) (z_wv hK hP hD [0, 1, 2, 3, 4, 5, 6, 7, 8] (by decide) rfl 0 rfl rfl) hl.1 rfl rfl (Nat.le_of_ble_eq_true rfl) dX8_takesBehind_3 ⟨Nat.le_refl _, Nat.le_refl _⟩) (fun H locs hP hD hS => ?_)
  refine lv_istore_n (lv' := [(2, .int v1), (0, .ref (a 30)), (1, .int p1)]) hx hb dX8_takesBehind_6 rfl hl (by decide) rfl (fun ls hl => ?_)
  refine lv_aload_n hx hb dX8_takesBehind_7 rfl (lv_at hl 1 rfl) ?_
  obtain ⟨v4, po5, wr6, hc, h⟩ := zb3_s h
  refine zG_i (w1 := wX8 ct a ms ah hi kp sl sv pd ln so po5 wr6 to) (ws' := wX8 ct a ms ah hi kp sl sv pd ln so po5 wr6 to) hP hD hS hA [0, 1, 2, 3, 4, 5, 6, 7, 8] [] [0, 1, 2, 3, 4, 5, 6, 7, 8] rfl rfl (by decide) (by decide) rfl (by decide) (zrV (C := RX8) (As := []) (rest := []) hx hb hml hown hts tw1135 mv_X8_takesNumber ⟨Nat.le_of_ble_eq_true rfl, Nat.le_of_ble_eq_true rfl⟩ rfl rfl (ct_X8_takesNumber l D ct a ms ah hi kp sl sv pd ln so po2 wr3 to _  k v4 po5 wr6 hc) (z_wv hK hP hD [0, 1, 2, 3, 4, 5, 6, 7, 8] (by decide) rfl 0 rfl rfl) hl.1 rfl rfl (Nat.le_of_ble_eq_true rfl) dX8_takesBehind_8 ⟨Nat.le_refl _, Nat.le_refl _⟩) (fun H locs hP hD hS => ?_)
  cases h
  exact zX_i hx hb hr hlocks hP hD hS hAe dX8_takesBehind_11 rfl

def f_X8_readOrder_b227 (k : Nat) (pd : Nat → Int32) (ln : Int32)  (po_ : Int32) (wr_ : Int32) (to_ : Nat → Int32) (x1 : Int32) : Option (Int32 × Int32 × (Nat → Int32)) :=
  zb3 (f_X8_takesBehind k pd ln po_ wr_ (120 : Int32)) fun v13 po14 wr15 =>
  zl (upd to_ 2 v13) fun to16 =>
  zb3 (f_X8_takesBehind k pd ln po14 wr15 (120 : Int32)) fun v17 po18 wr19 =>
  zl (upd to16 3 v17) fun to20 =>
  if x1 = (113 : Int32) then
    zb3 (f_X8_takesBehind k pd ln po18 wr19 (42 : Int32)) fun v22 po23 wr24 =>
    zl (upd to20 4 v22) fun to25 =>
    some (po23, wr24, to25)
  else
    zl (upd to20 4 (0 : Int32)) fun to21 =>
    some (po18, wr19, to21)
def f_X8_readOrder_b309 (k : Nat) (pd : Nat → Int32) (ln : Int32)  (po_ : Int32) (wr_ : Int32) (to_ : Nat → Int32) (x1 : Int32) : Option (Int32 × Int32 × (Nat → Int32)) :=
  zb3 (f_X8_takes k pd ln po_ wr_ (46 : Int32) (46 : Int32)) fun v26 po27 wr28 =>
  zb3 (f_X8_takes k pd ln po27 wr28 (48 : Int32) (57 : Int32)) fun v29 po30 wr31 =>
  zl (upd to_ 2 v29) fun to32 =>
  if x1 = (99 : Int32) then
    zb3 (f_X8_takesBehind k pd ln po30 wr31 (64 : Int32)) fun v37 po38 wr39 =>
    zl (upd to32 3 v37) fun to40 =>
    some (po38, wr39, to40)
  else
    zb3 (f_X8_takes k pd ln po30 wr31 (48 : Int32) (57 : Int32)) fun v33 po34 wr35 =>
    zl (upd to32 3 v33) fun to36 =>
    some (po34, wr35, to36)
def f_X8_readOrder_b214 (k : Nat) (pd : Nat → Int32) (ln : Int32)  (po_ : Int32) (wr_ : Int32) (to_ : Nat → Int32) (x1 : Int32) (y0 : Int32) (y1 : Int32) : Option (Int32 × Int32 × (Nat → Int32)) :=
  zg (zin y1 5) (zl (upd to_ y1.toNatClampNeg y0) fun to12 =>
  if x1 = (113 : Int32) then
    f_X8_readOrder_b227 k pd ln po_ wr_ to12 x1
  else
    if x1 = (111 : Int32) then
      f_X8_readOrder_b227 k pd ln po_ wr_ to12 x1
    else
      if x1 = (103 : Int32) then
        zb3 (f_X8_takesBehind k pd ln po_ wr_ (61 : Int32)) fun v41 po42 wr43 =>
        zl (upd to12 2 v41) fun to44 =>
        some (po42, wr43, to44)
      else
        if x1 = (99 : Int32) then
          f_X8_readOrder_b309 k pd ln po_ wr_ to12 x1
        else
          if x1 = (108 : Int32) then
            f_X8_readOrder_b309 k pd ln po_ wr_ to12 x1
          else
            some (po_, wr_, to12))
def f_X8_readOrder_b188 (k : Nat) (pd : Nat → Int32) (ln : Int32)  (po_ : Int32) (wr_ : Int32) (to_ : Nat → Int32) (x1 : Int32) (x3 : Int32) (y0 : Int32) (y1 : Int32) : Option (Int32 × Int32 × (Nat → Int32)) :=
  zg (zin y1 5) (zl (upd to_ y1.toNatClampNeg y0) fun to10 =>
  if x3 = 0 then
    zl (to10 1) fun v11 =>
    f_X8_readOrder_b214 k pd ln po_ wr_ to10 x1 v11 (1 : Int32)
  else
    zl (to10 1) fun v45 =>
    zl (-v45) fun v46 =>
    f_X8_readOrder_b214 k pd ln po_ wr_ to10 x1 v46 (1 : Int32))
def f_X8_readOrder_b158 (k : Nat) (pd : Nat → Int32) (ln : Int32)  (po_ : Int32) (wr_ : Int32) (to_ : Nat → Int32) (x1 : Int32) (x3 : Int32) (y0 : Int32) (y1 : Int32) : Option (Int32 × Int32 × (Nat → Int32)) :=
  zl (y1 + y0) fun v5 =>
  zl v5 fun po6 =>
  if x1 = (100 : Int32) then
    zb3 (f_X8_takes k pd ln po6 wr_ (48 : Int32) (57 : Int32)) fun v47 po48 wr49 =>
    f_X8_readOrder_b188 k pd ln po48 wr49 to_ x1 x3 v47 (1 : Int32)
  else
    zb3 (f_X8_takesNumber k pd ln po6 wr_) fun v7 po8 wr9 =>
    f_X8_readOrder_b188 k pd ln po8 wr9 to_ x1 x3 v7 (1 : Int32)
def f_X8_readOrder_b143 (k : Nat) (pd : Nat → Int32) (ln : Int32)  (po_ : Int32) (wr_ : Int32) (to_ : Nat → Int32) (x1 : Int32) (y0 : Int32) : Option (Int32 × Int32 × (Nat → Int32)) :=
  if y0 = 0 then
    f_X8_readOrder_b158 k pd ln po_ wr_ to_ x1 y0 (0 : Int32) po_
  else
    f_X8_readOrder_b158 k pd ln po_ wr_ to_ x1 y0 (1 : Int32) po_
def f_X8_readOrder_b110 (k : Nat) (pd : Nat → Int32) (ln : Int32)  (po_ : Int32) (wr_ : Int32) (to_ : Nat → Int32) (x1 : Int32) (y0 : Int32) (y1 : Int32) : Option (Int32 × Int32 × (Nat → Int32)) :=
  zl (y1 + y0) fun v2 =>
  zl v2 fun po3 =>
  zl (upd to_ 0 x1) fun to4 =>
  if x1 = (110 : Int32) then
    zb1 (f_X8_isNext k pd ln po3 wr_ (45 : Int32) (45 : Int32)) fun v50 =>
    if v50 = 0 then
      f_X8_readOrder_b143 k pd ln po3 wr_ to4 x1 (0 : Int32)
    else
      f_X8_readOrder_b143 k pd ln po3 wr_ to4 x1 (1 : Int32)
  else
    f_X8_readOrder_b143 k pd ln po3 wr_ to4 x1 (0 : Int32)
def f_X8_readOrder_b90 (k : Nat) (pd : Nat → Int32) (ln : Int32)  (po_ : Int32) (wr_ : Int32) (to_ : Nat → Int32) (x1 : Int32) (y0 : Int32) : Option (Int32 × Int32 × (Nat → Int32)) :=
  zg (zbo y0) (zl y0 fun wr1 =>
  if wr1 = 0 then
    f_X8_readOrder_b110 k pd ln po_ wr1 to_ x1 (1 : Int32) po_
  else
    f_X8_readOrder_b110 k pd ln po_ wr1 to_ x1 (0 : Int32) po_)
def f_X8_readOrder_b72 (k : Nat) (pd : Nat → Int32) (ln : Int32)  (po_ : Int32) (wr_ : Int32) (to_ : Nat → Int32) (x1 : Int32) (y0 : Int32) : Option (Int32 × Int32 × (Nat → Int32)) :=
  if wr_ = 0 then
    if y0 = 0 then
      f_X8_readOrder_b90 k pd ln po_ wr_ to_ x1 (1 : Int32)
    else
      f_X8_readOrder_b90 k pd ln po_ wr_ to_ x1 (0 : Int32)
  else
    f_X8_readOrder_b90 k pd ln po_ wr_ to_ x1 (1 : Int32)
def f_X8_readOrder_b24 (k : Nat) (pd : Nat → Int32) (ln : Int32)  (po_ : Int32) (wr_ : Int32) (to_ : Nat → Int32) (y0 : Int32) : Option (Int32 × Int32 × (Nat → Int32)) :=
  if y0 = (113 : Int32) then
    f_X8_readOrder_b72 k pd ln po_ wr_ to_ y0 (1 : Int32)
  else
    if y0 = (99 : Int32) then
      f_X8_readOrder_b72 k pd ln po_ wr_ to_ y0 (1 : Int32)
    else
      if y0 = (111 : Int32) then
        f_X8_readOrder_b72 k pd ln po_ wr_ to_ y0 (1 : Int32)
      else
        if y0 = (103 : Int32) then
          f_X8_readOrder_b72 k pd ln po_ wr_ to_ y0 (1 : Int32)
        else
          if y0 = (108 : Int32) then
            f_X8_readOrder_b72 k pd ln po_ wr_ to_ y0 (1 : Int32)
          else
            if y0 = (110 : Int32) then
              f_X8_readOrder_b72 k pd ln po_ wr_ to_ y0 (1 : Int32)
            else
              if y0 = (100 : Int32) then
                f_X8_readOrder_b72 k pd ln po_ wr_ to_ y0 (1 : Int32)
              else
                f_X8_readOrder_b72 k pd ln po_ wr_ to_ y0 (0 : Int32)
def f_X8_readOrder (k : Nat) (pd : Nat → Int32) (ln : Int32) (po : Int32) (wr : Int32) (to : Nat → Int32) : Option (Int32 × Int32 × (Nat → Int32)) :=
  if ln ≤ po then
    f_X8_readOrder_b24 k pd ln po wr to (0 : Int32)
  else
    zg (zin po 80) (zl (pd po.toNatClampNeg) fun v51 =>
    f_X8_readOrder_b24 k pd ln po wr to v51)
set_option maxRecDepth 100000 in
set_option maxHeartbeats 4000000 in
theorem ct_X8_readOrder (l : Launch) (D : va_G) (ct a : Nat → Nat) (ms : Nat → Int32) (ah : Nat → Int32) (hi : Nat → Int32) (kp : Int32) (sl : Nat → Int32) (sv : Nat → Int32) (pd : Nat → Int32) (ln : Int32) (so : Nat → Int32) (po : Int32) (wr : Int32) (to : Nat → Int32) (sz : Nat) (k : Nat) (po' : Int32) (wr' : Int32) (to' : Nat → Int32) (h : f_X8_readOrder k pd ln po wr to = some (po', wr', to')) : Met l yX8_readOrder (Cond.code yX8_readOrder cX8_readOrder 5 none :: zT) ({ frames := 4, cells := 0, slots := 0, locals := 89 } : Room) (va_Pc [.ref (a 30)] (zPW D (zTys ct) (wX8 ct a ms ah hi kp sl sv pd ln so po wr to) sz)) (va_Qv (fun (_ : Unit) => True) (zQW D (wX8 ct a ms ah hi kp sl sv pd ln so po wr to) sz (wX8 ct a ms ah hi kp sl sv pd ln so po' wr' to')) (va_A (wX8 ct a ms ah hi kp sl sv pd ln so po wr to) sz)) 0 0 (va_A (wX8 ct a ms ah hi kp sl sv pd ln so po wr to) sz) := by
  refine zMet (cc := cX8_readOrder) (maxL := 5) (ret := none) (av := [.ref (a 30)]) (by decide) (Nat.le_of_ble_eq_true rfl) (fun p e s m below meth c ls hx hb hr hml hts hown hlocks hin hB hl => ?_)
  have hl : lv_has ls 5 [(0, .ref (a 30))] := hl
  have hown : s.vm.findClass RX8 = some m.cls := hown
  obtain ⟨hsz, hP, hK, hD0⟩ := hB
  subst hsz
  have hD := hD0.self (sz := s.heap.size)
  obtain ⟨A, hAe⟩ : ∃ A, A = va_A (wX8 ct a ms ah hi kp sl sv pd ln so po wr to) s.heap.size := ⟨_, rfl⟩
  rw [← hAe] at hD
  have hA : ∀ q : Nat, s.heap.size ≤ q → A q := fun q h => by rw [hAe]; exact Or.inr h
  have hS : va_S A s.heap s.heap [] := va_S.rf
  have B227 : ∀ (po_ : Int32) (wr_ : Int32) (to_ : Nat → Int32) (x1 : Int32), f_X8_readOrder_b227 k pd ln po_ wr_ to_ x1 = some (po', wr', to') → ∀ (H : Heap) (locs : List Loc), va_P D vwCl (wX8 ct a ms ah hi kp sl sv pd ln so po_ wr_ to_) H → va_D A (wX8 ct a ms ah hi kp sl sv pd ln so po_ wr_ to_) → va_S A s.heap H locs → ∀ (ls : Array Slot), lv_has ls 5 [(0, .ref (a 30)), (1, .int x1)] → W p l e ({ frames := 4, cells := 0, slots := 0, locals := 89 } : Room) s m ([.ref (a 30)] : List Value).toArray below meth c H locs 0 0 (MQ below (va_Qv (fun (_ : Unit) => True) (zQW D (wX8 ct a ms ah hi kp sl sv pd ln so po wr to) s.heap.size (wX8 ct a ms ah hi kp sl sv pd ln so po' wr' to')) (va_A (wX8 ct a ms ah hi kp sl sv pd ln so po wr to) s.heap.size)) ([.ref (a 30)] : List Value).toArray s 0 0 (va_A (wX8 ct a ms ah hi kp sl sv pd ln so po wr to) s.heap.size)) (F0 m 227 ls []) := by
    intro po_ wr_ to_ x1 h H locs hP hD hS ls hl
    rw [f_X8_readOrder_b227] at h
    refine lv_aload_n hx hb dX8_readOrder_227 rfl (lv_at hl 0 rfl) ?_
    refine z_get (C := RX8) (T := TX8) (N := 12) (ci := 7) hx hb hts zin_X8 hown hK.1 hP 0 11 rfl rfl (by decide) tw806 rfl rfl dX8_readOrder_228 ?_
    refine lv_iconst (v := (2 : Int32)) hx hb dX8_readOrder_231 (by decide) ?_
    refine lv_aload_n hx hb dX8_readOrder_232 rfl (lv_at hl 0 rfl) ?_
    refine lv_bipush (v := (120 : Int32)) hx hb dX8_readOrder_233 (by decide) ?_
    obtain ⟨v13, po14, wr15, hc, h⟩ := zb3_s h
    refine zG_i (w1 := wX8 ct a ms ah hi kp sl sv pd ln so po14 wr15 to_) (ws' := wX8 ct a ms ah hi kp sl sv pd ln so po14 wr15 to_) hP hD hS hA [0, 1, 2, 3, 4, 5, 6, 7, 8] [] [0, 1, 2, 3, 4, 5, 6, 7, 8] rfl rfl (by decide) (by decide) rfl (by decide) (zrV (C := RX8) (As := [.int (120 : Int32)]) (rest := [.int (2 : Int32), .ref (a 38)]) hx hb hml hown hts tw1139 mv_X8_takesBehind ⟨Nat.le_of_ble_eq_true rfl, Nat.le_of_ble_eq_true rfl⟩ rfl rfl (ct_X8_takesBehind l D ct a ms ah hi kp sl sv pd ln so po_ wr_ to_ _ (120 : Int32) k v13 po14 wr15 hc) (z_wv hK hP hD [0, 1, 2, 3, 4, 5, 6, 7, 8] (by decide) rfl 0 rfl rfl) hl.1 rfl rfl (Nat.le_of_ble_eq_true rfl) dX8_readOrder_235 ⟨Nat.le_refl _, Nat.le_refl _⟩) (fun H locs hP hD hS => ?_)
    refine z_iastc hx hb hK.1 hP hD hS 8 0 2 rfl rfl (by decide) (by decide) h dX8_readOrder_238 (fun to16 H locs h hP hD hS => ?_)
    have hP : va_P D vwCl (wX8 ct a ms ah hi kp sl sv pd ln so po14 wr15 to16) H := hP
    have hD : va_D A (wX8 ct a ms ah hi kp sl sv pd ln so po14 wr15 to16) := hD
    refine lv_aload_n hx hb dX8_readOrder_239 rfl (lv_at hl 0 rfl) ?_
    refine z_get (C := RX8) (T := TX8) (N := 12) (ci := 7) hx hb hts zin_X8 hown hK.1 hP 0 11 rfl rfl (by decide) tw806 rfl rfl dX8_readOrder_240 ?_
    refine lv_iconst (v := (3 : Int32)) hx hb dX8_readOrder_243 (by decide) ?_
    refine lv_aload_n hx hb dX8_readOrder_244 rfl (lv_at hl 0 rfl) ?_
    refine lv_bipush (v := (120 : Int32)) hx hb dX8_readOrder_245 (by decide) ?_
    obtain ⟨v17, po18, wr19, hc, h⟩ := zb3_s h
    refine zG_i (w1 := wX8 ct a ms ah hi kp sl sv pd ln so po18 wr19 to16) (ws' := wX8 ct a ms ah hi kp sl sv pd ln so po18 wr19 to16) hP hD hS hA [0, 1, 2, 3, 4, 5, 6, 7, 8] [] [0, 1, 2, 3, 4, 5, 6, 7, 8] rfl rfl (by decide) (by decide) rfl (by decide) (zrV (C := RX8) (As := [.int (120 : Int32)]) (rest := [.int (3 : Int32), .ref (a 38)]) hx hb hml hown hts tw1139 mv_X8_takesBehind ⟨Nat.le_of_ble_eq_true rfl, Nat.le_of_ble_eq_true rfl⟩ rfl rfl (ct_X8_takesBehind l D ct a ms ah hi kp sl sv pd ln so po14 wr15 to16 _ (120 : Int32) k v17 po18 wr19 hc) (z_wv hK hP hD [0, 1, 2, 3, 4, 5, 6, 7, 8] (by decide) rfl 0 rfl rfl) hl.1 rfl rfl (Nat.le_of_ble_eq_true rfl) dX8_readOrder_247 ⟨Nat.le_refl _, Nat.le_refl _⟩) (fun H locs hP hD hS => ?_)
    refine z_iastc hx hb hK.1 hP hD hS 8 0 3 rfl rfl (by decide) (by decide) h dX8_readOrder_250 (fun to20 H locs h hP hD hS => ?_)
    have hP : va_P D vwCl (wX8 ct a ms ah hi kp sl sv pd ln so po18 wr19 to20) H := hP
    have hD : va_D A (wX8 ct a ms ah hi kp sl sv pd ln so po18 wr19 to20) := hD
    refine lv_aload_n hx hb dX8_readOrder_251 rfl (lv_at hl 0 rfl) ?_
    refine z_get (C := RX8) (T := TX8) (N := 12) (ci := 7) hx hb hts zin_X8 hown hK.1 hP 0 11 rfl rfl (by decide) tw806 rfl rfl dX8_readOrder_252 ?_
    refine lv_iconst (v := (4 : Int32)) hx hb dX8_readOrder_255 (by decide) ?_
    refine lv_iload_n hx hb dX8_readOrder_256 rfl (lv_at hl 1 rfl) ?_
    refine lv_bipush (v := (113 : Int32)) hx hb dX8_readOrder_257 (by decide) ?_
    refine zc_ne (tgt := 271) hx hb dX8_readOrder_259 (by decide) h (fun h => ?_) (fun h => ?_)
    · refine lv_iconst (v := (0 : Int32)) hx hb dX8_readOrder_271 (by decide) ?_
      refine z_iastc hx hb hK.1 hP hD hS 8 0 4 rfl rfl (by decide) (by decide) h dX8_readOrder_272 (fun to21 H locs h hP hD hS => ?_)
      have hP : va_P D vwCl (wX8 ct a ms ah hi kp sl sv pd ln so po18 wr19 to21) H := hP
      have hD : va_D A (wX8 ct a ms ah hi kp sl sv pd ln so po18 wr19 to21) := hD
      refine lv_goto (tgt := 362) hx hb dX8_readOrder_273 (by decide) ?_
      cases h
      exact zX_v hx hb hr hlocks hP hD hS hAe dX8_readOrder_362
    · refine lv_aload_n hx hb dX8_readOrder_262 rfl (lv_at hl 0 rfl) ?_
      refine lv_bipush (v := (42 : Int32)) hx hb dX8_readOrder_263 (by decide) ?_
      obtain ⟨v22, po23, wr24, hc, h⟩ := zb3_s h
      refine zG_i (w1 := wX8 ct a ms ah hi kp sl sv pd ln so po23 wr24 to20) (ws' := wX8 ct a ms ah hi kp sl sv pd ln so po23 wr24 to20) hP hD hS hA [0, 1, 2, 3, 4, 5, 6, 7, 8] [] [0, 1, 2, 3, 4, 5, 6, 7, 8] rfl rfl (by decide) (by decide) rfl (by decide) (zrV (C := RX8) (As := [.int (42 : Int32)]) (rest := [.int (4 : Int32), .ref (a 38)]) hx hb hml hown hts tw1139 mv_X8_takesBehind ⟨Nat.le_of_ble_eq_true rfl, Nat.le_of_ble_eq_true rfl⟩ rfl rfl (ct_X8_takesBehind l D ct a ms ah hi kp sl sv pd ln so po18 wr19 to20 _ (42 : Int32) k v22 po23 wr24 hc) (z_wv hK hP hD [0, 1, 2, 3, 4, 5, 6, 7, 8] (by decide) rfl 0 rfl rfl) hl.1 rfl rfl (Nat.le_of_ble_eq_true rfl) dX8_readOrder_265 ⟨Nat.le_refl _, Nat.le_refl _⟩) (fun H locs hP hD hS => ?_)
      refine lv_goto (tgt := 272) hx hb dX8_readOrder_268 (by decide) ?_
      refine z_iastc hx hb hK.1 hP hD hS 8 0 4 rfl rfl (by decide) (by decide) h dX8_readOrder_272 (fun to25 H locs h hP hD hS => ?_)
      have hP : va_P D vwCl (wX8 ct a ms ah hi kp sl sv pd ln so po23 wr24 to25) H := hP
      have hD : va_D A (wX8 ct a ms ah hi kp sl sv pd ln so po23 wr24 to25) := hD
      refine lv_goto (tgt := 362) hx hb dX8_readOrder_273 (by decide) ?_
      cases h
      exact zX_v hx hb hr hlocks hP hD hS hAe dX8_readOrder_362
  have B309 : ∀ (po_ : Int32) (wr_ : Int32) (to_ : Nat → Int32) (x1 : Int32), f_X8_readOrder_b309 k pd ln po_ wr_ to_ x1 = some (po', wr', to') → ∀ (H : Heap) (locs : List Loc), va_P D vwCl (wX8 ct a ms ah hi kp sl sv pd ln so po_ wr_ to_) H → va_D A (wX8 ct a ms ah hi kp sl sv pd ln so po_ wr_ to_) → va_S A s.heap H locs → ∀ (ls : Array Slot), lv_has ls 5 [(0, .ref (a 30)), (1, .int x1)] → W p l e ({ frames := 4, cells := 0, slots := 0, locals := 89 } : Room) s m ([.ref (a 30)] : List Value).toArray below meth c H locs 0 0 (MQ below (va_Qv (fun (_ : Unit) => True) (zQW D (wX8 ct a ms ah hi kp sl sv pd ln so po wr to) s.heap.size (wX8 ct a ms ah hi kp sl sv pd ln so po' wr' to')) (va_A (wX8 ct a ms ah hi kp sl sv pd ln so po wr to) s.heap.size)) ([.ref (a 30)] : List Value).toArray s 0 0 (va_A (wX8 ct a ms ah hi kp sl sv pd ln so po wr to) s.heap.size)) (F0 m 309 ls []) := by
    intro po_ wr_ to_ x1 h H locs hP hD hS ls hl
    rw [f_X8_readOrder_b309] at h
    refine lv_aload_n hx hb dX8_readOrder_309 rfl (lv_at hl 0 rfl) ?_
    refine lv_bipush (v := (46 : Int32)) hx hb dX8_readOrder_310 (by decide) ?_
    refine lv_bipush (v := (46 : Int32)) hx hb dX8_readOrder_312 (by decide) ?_
    obtain ⟨v26, po27, wr28, hc, h⟩ := zb3_s h
    refine zG_i (w1 := wX8 ct a ms ah hi kp sl sv pd ln so po27 wr28 to_) (ws' := wX8 ct a ms ah hi kp sl sv pd ln so po27 wr28 to_) hP hD hS hA [0, 1, 2, 3, 4, 5, 6, 7, 8] [] [0, 1, 2, 3, 4, 5, 6, 7, 8] rfl rfl (by decide) (by decide) rfl (by decide) (zrV (C := RX8) (As := [.int (46 : Int32), .int (46 : Int32)]) (rest := []) hx hb hml hown hts tw1131 mv_X8_takes ⟨Nat.le_of_ble_eq_true rfl, Nat.le_of_ble_eq_true rfl⟩ rfl rfl (ct_X8_takes l D ct a ms ah hi kp sl sv pd ln so po_ wr_ to_ _ (46 : Int32) (46 : Int32) k v26 po27 wr28 hc) (z_wv hK hP hD [0, 1, 2, 3, 4, 5, 6, 7, 8] (by decide) rfl 0 rfl rfl) hl.1 rfl rfl (Nat.le_of_ble_eq_true rfl) dX8_readOrder_314 ⟨Nat.le_refl _, Nat.le_refl _⟩) (fun H locs hP hD hS => ?_)
    refine lv_istore (lv' := [(4, .int v26), (0, .ref (a 30)), (1, .int x1)]) hx hb dX8_readOrder_317 hl (by decide) rfl (fun ls hl => ?_)
    refine lv_aload_n hx hb dX8_readOrder_319 rfl (lv_at hl 1 rfl) ?_
    refine z_get (C := RX8) (T := TX8) (N := 12) (ci := 7) hx hb hts zin_X8 hown hK.1 hP 0 11 rfl rfl (by decide) tw806 rfl rfl dX8_readOrder_320 ?_
    refine lv_iconst (v := (2 : Int32)) hx hb dX8_readOrder_323 (by decide) ?_
    refine lv_aload_n hx hb dX8_readOrder_324 rfl (lv_at hl 1 rfl) ?_
    refine lv_bipush (v := (48 : Int32)) hx hb dX8_readOrder_325 (by decide) ?_
    refine lv_bipush (v := (57 : Int32)) hx hb dX8_readOrder_327 (by decide) ?_
    obtain ⟨v29, po30, wr31, hc, h⟩ := zb3_s h
    refine zG_i (w1 := wX8 ct a ms ah hi kp sl sv pd ln so po30 wr31 to_) (ws' := wX8 ct a ms ah hi kp sl sv pd ln so po30 wr31 to_) hP hD hS hA [0, 1, 2, 3, 4, 5, 6, 7, 8] [] [0, 1, 2, 3, 4, 5, 6, 7, 8] rfl rfl (by decide) (by decide) rfl (by decide) (zrV (C := RX8) (As := [.int (48 : Int32), .int (57 : Int32)]) (rest := [.int (2 : Int32), .ref (a 38)]) hx hb hml hown hts tw1131 mv_X8_takes ⟨Nat.le_of_ble_eq_true rfl, Nat.le_of_ble_eq_true rfl⟩ rfl rfl (ct_X8_takes l D ct a ms ah hi kp sl sv pd ln so po27 wr28 to_ _ (48 : Int32) (57 : Int32) k v29 po30 wr31 hc) (z_wv hK hP hD [0, 1, 2, 3, 4, 5, 6, 7, 8] (by decide) rfl 0 rfl rfl) hl.1 rfl rfl (Nat.le_of_ble_eq_true rfl) dX8_readOrder_329 ⟨Nat.le_refl _, Nat.le_refl _⟩) (fun H locs hP hD hS => ?_)
    refine z_iastc hx hb hK.1 hP hD hS 8 0 2 rfl rfl (by decide) (by decide) h dX8_readOrder_332 (fun to32 H locs h hP hD hS => ?_)
    have hP : va_P D vwCl (wX8 ct a ms ah hi kp sl sv pd ln so po30 wr31 to32) H := hP
    have hD : va_D A (wX8 ct a ms ah hi kp sl sv pd ln so po30 wr31 to32) := hD
    refine lv_aload_n hx hb dX8_readOrder_333 rfl (lv_at hl 1 rfl) ?_
    refine z_get (C := RX8) (T := TX8) (N := 12) (ci := 7) hx hb hts zin_X8 hown hK.1 hP 0 11 rfl rfl (by decide) tw806 rfl rfl dX8_readOrder_334 ?_
    refine lv_iconst (v := (3 : Int32)) hx hb dX8_readOrder_337 (by decide) ?_
    refine lv_iload_n hx hb dX8_readOrder_338 rfl (lv_at hl 2 rfl) ?_
    refine lv_bipush (v := (99 : Int32)) hx hb dX8_readOrder_339 (by decide) ?_
    refine zc_ne (tgt := 353) hx hb dX8_readOrder_341 (by decide) h (fun h => ?_) (fun h => ?_)
    · refine lv_aload_n hx hb dX8_readOrder_353 rfl (lv_at hl 1 rfl) ?_
      refine lv_bipush (v := (48 : Int32)) hx hb dX8_readOrder_354 (by decide) ?_
      refine lv_bipush (v := (57 : Int32)) hx hb dX8_readOrder_356 (by decide) ?_
      obtain ⟨v33, po34, wr35, hc, h⟩ := zb3_s h
      refine zG_i (w1 := wX8 ct a ms ah hi kp sl sv pd ln so po34 wr35 to32) (ws' := wX8 ct a ms ah hi kp sl sv pd ln so po34 wr35 to32) hP hD hS hA [0, 1, 2, 3, 4, 5, 6, 7, 8] [] [0, 1, 2, 3, 4, 5, 6, 7, 8] rfl rfl (by decide) (by decide) rfl (by decide) (zrV (C := RX8) (As := [.int (48 : Int32), .int (57 : Int32)]) (rest := [.int (3 : Int32), .ref (a 38)]) hx hb hml hown hts tw1131 mv_X8_takes ⟨Nat.le_of_ble_eq_true rfl, Nat.le_of_ble_eq_true rfl⟩ rfl rfl (ct_X8_takes l D ct a ms ah hi kp sl sv pd ln so po30 wr31 to32 _ (48 : Int32) (57 : Int32) k v33 po34 wr35 hc) (z_wv hK hP hD [0, 1, 2, 3, 4, 5, 6, 7, 8] (by decide) rfl 0 rfl rfl) hl.1 rfl rfl (Nat.le_of_ble_eq_true rfl) dX8_readOrder_358 ⟨Nat.le_refl _, Nat.le_refl _⟩) (fun H locs hP hD hS => ?_)
      refine z_iastc hx hb hK.1 hP hD hS 8 0 3 rfl rfl (by decide) (by decide) h dX8_readOrder_361 (fun to36 H locs h hP hD hS => ?_)
      have hP : va_P D vwCl (wX8 ct a ms ah hi kp sl sv pd ln so po34 wr35 to36) H := hP
      have hD : va_D A (wX8 ct a ms ah hi kp sl sv pd ln so po34 wr35 to36) := hD
      cases h
      exact zX_v hx hb hr hlocks hP hD hS hAe dX8_readOrder_362
    · refine lv_aload_n hx hb dX8_readOrder_344 rfl (lv_at hl 1 rfl) ?_
      refine lv_bipush (v := (64 : Int32)) hx hb dX8_readOrder_345 (by decide) ?_
      obtain ⟨v37, po38, wr39, hc, h⟩ := zb3_s h
      refine zG_i (w1 := wX8 ct a ms ah hi kp sl sv pd ln so po38 wr39 to32) (ws' := wX8 ct a ms ah hi kp sl sv pd ln so po38 wr39 to32) hP hD hS hA [0, 1, 2, 3, 4, 5, 6, 7, 8] [] [0, 1, 2, 3, 4, 5, 6, 7, 8] rfl rfl (by decide) (by decide) rfl (by decide) (zrV (C := RX8) (As := [.int (64 : Int32)]) (rest := [.int (3 : Int32), .ref (a 38)]) hx hb hml hown hts tw1139 mv_X8_takesBehind ⟨Nat.le_of_ble_eq_true rfl, Nat.le_of_ble_eq_true rfl⟩ rfl rfl (ct_X8_takesBehind l D ct a ms ah hi kp sl sv pd ln so po30 wr31 to32 _ (64 : Int32) k v37 po38 wr39 hc) (z_wv hK hP hD [0, 1, 2, 3, 4, 5, 6, 7, 8] (by decide) rfl 0 rfl rfl) hl.1 rfl rfl (Nat.le_of_ble_eq_true rfl) dX8_readOrder_347 ⟨Nat.le_refl _, Nat.le_refl _⟩) (fun H locs hP hD hS => ?_)
      refine lv_goto (tgt := 361) hx hb dX8_readOrder_350 (by decide) ?_
      refine z_iastc hx hb hK.1 hP hD hS 8 0 3 rfl rfl (by decide) (by decide) h dX8_readOrder_361 (fun to40 H locs h hP hD hS => ?_)
      have hP : va_P D vwCl (wX8 ct a ms ah hi kp sl sv pd ln so po38 wr39 to40) H := hP
      have hD : va_D A (wX8 ct a ms ah hi kp sl sv pd ln so po38 wr39 to40) := hD
      cases h
      exact zX_v hx hb hr hlocks hP hD hS hAe dX8_readOrder_362
  have B214 : ∀ (po_ : Int32) (wr_ : Int32) (to_ : Nat → Int32) (x1 : Int32) (y0 : Int32) (y1 : Int32), f_X8_readOrder_b214 k pd ln po_ wr_ to_ x1 y0 y1 = some (po', wr', to') → ∀ (H : Heap) (locs : List Loc), va_P D vwCl (wX8 ct a ms ah hi kp sl sv pd ln so po_ wr_ to_) H → va_D A (wX8 ct a ms ah hi kp sl sv pd ln so po_ wr_ to_) → va_S A s.heap H locs → ∀ (ls : Array Slot), lv_has ls 5 [(0, .ref (a 30)), (1, .int x1)] → W p l e ({ frames := 4, cells := 0, slots := 0, locals := 89 } : Room) s m ([.ref (a 30)] : List Value).toArray below meth c H locs 0 0 (MQ below (va_Qv (fun (_ : Unit) => True) (zQW D (wX8 ct a ms ah hi kp sl sv pd ln so po wr to) s.heap.size (wX8 ct a ms ah hi kp sl sv pd ln so po' wr' to')) (va_A (wX8 ct a ms ah hi kp sl sv pd ln so po wr to) s.heap.size)) ([.ref (a 30)] : List Value).toArray s 0 0 (va_A (wX8 ct a ms ah hi kp sl sv pd ln so po wr to) s.heap.size)) (F0 m 214 ls [.int y0, .int y1, .ref (a 38)]) := by
    intro po_ wr_ to_ x1 y0 y1 h H locs hP hD hS ls hl
    rw [f_X8_readOrder_b214] at h
    refine z_iast hx hb hK.1 hP hD hS 8 0 rfl rfl h dX8_readOrder_214 (fun to12 H locs h hP hD hS => ?_)
    have hP : va_P D vwCl (wX8 ct a ms ah hi kp sl sv pd ln so po_ wr_ to12) H := hP
    have hD : va_D A (wX8 ct a ms ah hi kp sl sv pd ln so po_ wr_ to12) := hD
    refine lv_iload_n hx hb dX8_readOrder_215 rfl (lv_at hl 1 rfl) ?_
    refine lv_bipush (v := (113 : Int32)) hx hb dX8_readOrder_216 (by decide) ?_
    refine zc_eq (tgt := 227) hx hb dX8_readOrder_218 (by decide) h (fun h => ?_) (fun h => ?_)
    · exact B227 po_ wr_ to12 x1 h _ _ hP hD hS ls (lv_sub hl [0, 1] rfl)
    · refine lv_iload_n hx hb dX8_readOrder_221 rfl (lv_at hl 1 rfl) ?_
      refine lv_bipush (v := (111 : Int32)) hx hb dX8_readOrder_222 (by decide) ?_
      refine zc_ne (tgt := 276) hx hb dX8_readOrder_224 (by decide) h (fun h => ?_) (fun h => ?_)
      · refine lv_iload_n hx hb dX8_readOrder_276 rfl (lv_at hl 1 rfl) ?_
        refine lv_bipush (v := (103 : Int32)) hx hb dX8_readOrder_277 (by decide) ?_
        refine zc_ne (tgt := 297) hx hb dX8_readOrder_279 (by decide) h (fun h => ?_) (fun h => ?_)
        · refine lv_iload_n hx hb dX8_readOrder_297 rfl (lv_at hl 1 rfl) ?_
          refine lv_bipush (v := (99 : Int32)) hx hb dX8_readOrder_298 (by decide) ?_
          refine zc_eq (tgt := 309) hx hb dX8_readOrder_300 (by decide) h (fun h => ?_) (fun h => ?_)
          · exact B309 po_ wr_ to12 x1 h _ _ hP hD hS ls (lv_sub hl [0, 1] rfl)
          · refine lv_iload_n hx hb dX8_readOrder_303 rfl (lv_at hl 1 rfl) ?_
            refine lv_bipush (v := (108 : Int32)) hx hb dX8_readOrder_304 (by decide) ?_
            refine zc_ne (tgt := 362) hx hb dX8_readOrder_306 (by decide) h (fun h => ?_) (fun h => ?_)
            · cases h
              exact zX_v hx hb hr hlocks hP hD hS hAe dX8_readOrder_362
            · exact B309 po_ wr_ to12 x1 h _ _ hP hD hS ls (lv_sub hl [0, 1] rfl)
        · refine lv_aload_n hx hb dX8_readOrder_282 rfl (lv_at hl 0 rfl) ?_
          refine z_get (C := RX8) (T := TX8) (N := 12) (ci := 7) hx hb hts zin_X8 hown hK.1 hP 0 11 rfl rfl (by decide) tw806 rfl rfl dX8_readOrder_283 ?_
          refine lv_iconst (v := (2 : Int32)) hx hb dX8_readOrder_286 (by decide) ?_
          refine lv_aload_n hx hb dX8_readOrder_287 rfl (lv_at hl 0 rfl) ?_
          refine lv_bipush (v := (61 : Int32)) hx hb dX8_readOrder_288 (by decide) ?_
          obtain ⟨v41, po42, wr43, hc, h⟩ := zb3_s h
          refine zG_i (w1 := wX8 ct a ms ah hi kp sl sv pd ln so po42 wr43 to12) (ws' := wX8 ct a ms ah hi kp sl sv pd ln so po42 wr43 to12) hP hD hS hA [0, 1, 2, 3, 4, 5, 6, 7, 8] [] [0, 1, 2, 3, 4, 5, 6, 7, 8] rfl rfl (by decide) (by decide) rfl (by decide) (zrV (C := RX8) (As := [.int (61 : Int32)]) (rest := [.int (2 : Int32), .ref (a 38)]) hx hb hml hown hts tw1139 mv_X8_takesBehind ⟨Nat.le_of_ble_eq_true rfl, Nat.le_of_ble_eq_true rfl⟩ rfl rfl (ct_X8_takesBehind l D ct a ms ah hi kp sl sv pd ln so po_ wr_ to12 _ (61 : Int32) k v41 po42 wr43 hc) (z_wv hK hP hD [0, 1, 2, 3, 4, 5, 6, 7, 8] (by decide) rfl 0 rfl rfl) hl.1 rfl rfl (Nat.le_of_ble_eq_true rfl) dX8_readOrder_290 ⟨Nat.le_refl _, Nat.le_refl _⟩) (fun H locs hP hD hS => ?_)
          refine z_iastc hx hb hK.1 hP hD hS 8 0 2 rfl rfl (by decide) (by decide) h dX8_readOrder_293 (fun to44 H locs h hP hD hS => ?_)
          have hP : va_P D vwCl (wX8 ct a ms ah hi kp sl sv pd ln so po42 wr43 to44) H := hP
          have hD : va_D A (wX8 ct a ms ah hi kp sl sv pd ln so po42 wr43 to44) := hD
          refine lv_goto (tgt := 362) hx hb dX8_readOrder_294 (by decide) ?_
          cases h
          exact zX_v hx hb hr hlocks hP hD hS hAe dX8_readOrder_362
      · exact B227 po_ wr_ to12 x1 h _ _ hP hD hS ls (lv_sub hl [0, 1] rfl)
  have B188 : ∀ (po_ : Int32) (wr_ : Int32) (to_ : Nat → Int32) (x1 : Int32) (x3 : Int32) (y0 : Int32) (y1 : Int32), f_X8_readOrder_b188 k pd ln po_ wr_ to_ x1 x3 y0 y1 = some (po', wr', to') → ∀ (H : Heap) (locs : List Loc), va_P D vwCl (wX8 ct a ms ah hi kp sl sv pd ln so po_ wr_ to_) H → va_D A (wX8 ct a ms ah hi kp sl sv pd ln so po_ wr_ to_) → va_S A s.heap H locs → ∀ (ls : Array Slot), lv_has ls 5 [(0, .ref (a 30)), (1, .int x1), (3, .int x3)] → W p l e ({ frames := 4, cells := 0, slots := 0, locals := 89 } : Room) s m ([.ref (a 30)] : List Value).toArray below meth c H locs 0 0 (MQ below (va_Qv (fun (_ : Unit) => True) (zQW D (wX8 ct a ms ah hi kp sl sv pd ln so po wr to) s.heap.size (wX8 ct a ms ah hi kp sl sv pd ln so po' wr' to')) (va_A (wX8 ct a ms ah hi kp sl sv pd ln so po wr to) s.heap.size)) ([.ref (a 30)] : List Value).toArray s 0 0 (va_A (wX8 ct a ms ah hi kp sl sv pd ln so po wr to) s.heap.size)) (F0 m 188 ls [.int y0, .int y1, .ref (a 38)]) := by
    intro po_ wr_ to_ x1 x3 y0 y1 h H locs hP hD hS ls hl
    rw [f_X8_readOrder_b188] at h
    refine z_iast hx hb hK.1 hP hD hS 8 0 rfl rfl h dX8_readOrder_188 (fun to10 H locs h hP hD hS => ?_)
    have hP : va_P D vwCl (wX8 ct a ms ah hi kp sl sv pd ln so po_ wr_ to10) H := hP
    have hD : va_D A (wX8 ct a ms ah hi kp sl sv pd ln so po_ wr_ to10) := hD
    refine lv_aload_n hx hb dX8_readOrder_189 rfl (lv_at hl 0 rfl) ?_
    refine z_get (C := RX8) (T := TX8) (N := 12) (ci := 7) hx hb hts zin_X8 hown hK.1 hP 0 11 rfl rfl (by decide) tw806 rfl rfl dX8_readOrder_190 ?_
    refine lv_iconst (v := (1 : Int32)) hx hb dX8_readOrder_193 (by decide) ?_
    refine lv_iload_n hx hb dX8_readOrder_194 rfl (lv_at hl 2 rfl) ?_
    refine zi_eq (tgt := 208) hx hb dX8_readOrder_195 (by decide) h (fun h => ?_) (fun h => ?_)
    · refine lv_aload_n hx hb dX8_readOrder_208 rfl (lv_at hl 0 rfl) ?_
      refine z_get (C := RX8) (T := TX8) (N := 12) (ci := 7) hx hb hts zin_X8 hown hK.1 hP 0 11 rfl rfl (by decide) tw806 rfl rfl dX8_readOrder_209 ?_
      refine lv_iconst (v := (1 : Int32)) hx hb dX8_readOrder_212 (by decide) ?_
      refine y_ialdc hx hb hK hP 8 0 1 rfl rfl (by decide) (by decide) h dX8_readOrder_213 (fun v11 h => ?_)
      exact B214 po_ wr_ to10 x1 v11 (1 : Int32) h _ _ hP hD hS ls (lv_sub hl [0, 1] rfl)
    · refine lv_aload_n hx hb dX8_readOrder_198 rfl (lv_at hl 0 rfl) ?_
      refine z_get (C := RX8) (T := TX8) (N := 12) (ci := 7) hx hb hts zin_X8 hown hK.1 hP 0 11 rfl rfl (by decide) tw806 rfl rfl dX8_readOrder_199 ?_
      refine lv_iconst (v := (1 : Int32)) hx hb dX8_readOrder_202 (by decide) ?_
      refine y_ialdc hx hb hK hP 8 0 1 rfl rfl (by decide) (by decide) h dX8_readOrder_203 (fun v45 h => ?_)
      refine o_ineg hx hb dX8_readOrder_204 h (fun v46 h => ?_)
      refine lv_goto (tgt := 214) hx hb dX8_readOrder_205 (by decide) ?_
      exact B214 po_ wr_ to10 x1 v46 (1 : Int32) h _ _ hP hD hS ls (lv_sub hl [0, 1] rfl)
  have B158 : ∀ (po_ : Int32) (wr_ : Int32) (to_ : Nat → Int32) (x1 : Int32) (x3 : Int32) (y0 : Int32) (y1 : Int32), f_X8_readOrder_b158 k pd ln po_ wr_ to_ x1 x3 y0 y1 = some (po', wr', to') → ∀ (H : Heap) (locs : List Loc), va_P D vwCl (wX8 ct a ms ah hi kp sl sv pd ln so po_ wr_ to_) H → va_D A (wX8 ct a ms ah hi kp sl sv pd ln so po_ wr_ to_) → va_S A s.heap H locs → ∀ (ls : Array Slot), lv_has ls 5 [(0, .ref (a 30)), (1, .int x1), (3, .int x3)] → W p l e ({ frames := 4, cells := 0, slots := 0, locals := 89 } : Room) s m ([.ref (a 30)] : List Value).toArray below meth c H locs 0 0 (MQ below (va_Qv (fun (_ : Unit) => True) (zQW D (wX8 ct a ms ah hi kp sl sv pd ln so po wr to) s.heap.size (wX8 ct a ms ah hi kp sl sv pd ln so po' wr' to')) (va_A (wX8 ct a ms ah hi kp sl sv pd ln so po wr to) s.heap.size)) ([.ref (a 30)] : List Value).toArray s 0 0 (va_A (wX8 ct a ms ah hi kp sl sv pd ln so po wr to) s.heap.size)) (F0 m 158 ls [.int y0, .int y1, .ref (a 30)]) := by
    intro po_ wr_ to_ x1 x3 y0 y1 h H locs hP hD hS ls hl
    rw [f_X8_readOrder_b158] at h
    refine o_iadd hx hb dX8_readOrder_158 h (fun v5 h => ?_)
    refine z_puti (C := RX8) (T := TX8) (N := 12) (ci := 7) hx hb hts zin_X8 tyX8 tyX8_ok nmX8 hown hK.1 hP hD hS 0 9 rfl rfl (by decide) tw804 rfl rfl (by decide +kernel) (Nat.le_of_ble_eq_true rfl) h dX8_readOrder_159 (fun po6 H locs h hP hD hS => ?_)
    have hP : va_P D vwCl (wX8 ct a ms ah hi kp sl sv pd ln so po6 wr_ to_) H := hP
    have hD : va_D A (wX8 ct a ms ah hi kp sl sv pd ln so po6 wr_ to_) := hD
    refine lv_aload_n hx hb dX8_readOrder_162 rfl (lv_at hl 0 rfl) ?_
    refine z_get (C := RX8) (T := TX8) (N := 12) (ci := 7) hx hb hts zin_X8 hown hK.1 hP 0 11 rfl rfl (by decide) tw806 rfl rfl dX8_readOrder_163 ?_
    refine lv_iconst (v := (1 : Int32)) hx hb dX8_readOrder_166 (by decide) ?_
    refine lv_iload_n hx hb dX8_readOrder_167 rfl (lv_at hl 1 rfl) ?_
    refine lv_bipush (v := (100 : Int32)) hx hb dX8_readOrder_168 (by decide) ?_
    refine zc_ne (tgt := 184) hx hb dX8_readOrder_170 (by decide) h (fun h => ?_) (fun h => ?_)
    · refine lv_aload_n hx hb dX8_readOrder_184 rfl (lv_at hl 0 rfl) ?_
      obtain ⟨v7, po8, wr9, hc, h⟩ := zb3_s h
      refine zG_i (w1 := wX8 ct a ms ah hi kp sl sv pd ln so po8 wr9 to_) (ws' := wX8 ct a ms ah hi kp sl sv pd ln so po8 wr9 to_) hP hD hS hA [0, 1, 2, 3, 4, 5, 6, 7, 8] [] [0, 1, 2, 3, 4, 5, 6, 7, 8] rfl rfl (by decide) (by decide) rfl (by decide) (zrV (C := RX8) (As := []) (rest := [.int (1 : Int32), .ref (a 38)]) hx hb hml hown hts tw1135 mv_X8_takesNumber ⟨Nat.le_of_ble_eq_true rfl, Nat.le_of_ble_eq_true rfl⟩ rfl rfl (ct_X8_takesNumber l D ct a ms ah hi kp sl sv pd ln so po6 wr_ to_ _  k v7 po8 wr9 hc) (z_wv hK hP hD [0, 1, 2, 3, 4, 5, 6, 7, 8] (by decide) rfl 0 rfl rfl) hl.1 rfl rfl (Nat.le_of_ble_eq_true rfl) dX8_readOrder_185 ⟨Nat.le_refl _, Nat.le_refl _⟩) (fun H locs hP hD hS => ?_)
      exact B188 po8 wr9 to_ x1 x3 v7 (1 : Int32) h _ _ hP hD hS ls (lv_sub hl [0, 1, 2] rfl)
    · refine lv_aload_n hx hb dX8_readOrder_173 rfl (lv_at hl 0 rfl) ?_
      refine lv_bipush (v := (48 : Int32)) hx hb dX8_readOrder_174 (by decide) ?_
      refine lv_bipush (v := (57 : Int32)) hx hb dX8_readOrder_176 (by decide) ?_
      obtain ⟨v47, po48, wr49, hc, h⟩ := zb3_s h
      refine zG_i (w1 := wX8 ct a ms ah hi kp sl sv pd ln so po48 wr49 to_) (ws' := wX8 ct a ms ah hi kp sl sv pd ln so po48 wr49 to_) hP hD hS hA [0, 1, 2, 3, 4, 5, 6, 7, 8] [] [0, 1, 2, 3, 4, 5, 6, 7, 8] rfl rfl (by decide) (by decide) rfl (by decide) (zrV (C := RX8) (As := [.int (48 : Int32), .int (57 : Int32)]) (rest := [.int (1 : Int32), .ref (a 38)]) hx hb hml hown hts tw1131 mv_X8_takes ⟨Nat.le_of_ble_eq_true rfl, Nat.le_of_ble_eq_true rfl⟩ rfl rfl (ct_X8_takes l D ct a ms ah hi kp sl sv pd ln so po6 wr_ to_ _ (48 : Int32) (57 : Int32) k v47 po48 wr49 hc) (z_wv hK hP hD [0, 1, 2, 3, 4, 5, 6, 7, 8] (by decide) rfl 0 rfl rfl) hl.1 rfl rfl (Nat.le_of_ble_eq_true rfl) dX8_readOrder_178 ⟨Nat.le_refl _, Nat.le_refl _⟩) (fun H locs hP hD hS => ?_)
      refine lv_goto (tgt := 188) hx hb dX8_readOrder_181 (by decide) ?_
      exact B188 po48 wr49 to_ x1 x3 v47 (1 : Int32) h _ _ hP hD hS ls (lv_sub hl [0, 1, 2] rfl)
  have B143 : ∀ (po_ : Int32) (wr_ : Int32) (to_ : Nat → Int32) (x1 : Int32) (y0 : Int32), f_X8_readOrder_b143 k pd ln po_ wr_ to_ x1 y0 = some (po', wr', to') → ∀ (H : Heap) (locs : List Loc), va_P D vwCl (wX8 ct a ms ah hi kp sl sv pd ln so po_ wr_ to_) H → va_D A (wX8 ct a ms ah hi kp sl sv pd ln so po_ wr_ to_) → va_S A s.heap H locs → ∀ (ls : Array Slot), lv_has ls 5 [(0, .ref (a 30)), (1, .int x1)] → W p l e ({ frames := 4, cells := 0, slots := 0, locals := 89 } : Room) s m ([.ref (a 30)] : List Value).toArray below meth c H locs 0 0 (MQ below (va_Qv (fun (_ : Unit) => True) (zQW D (wX8 ct a ms ah hi kp sl sv pd ln so po wr to) s.heap.size (wX8 ct a ms ah hi kp sl sv pd ln so po' wr' to')) (va_A (wX8 ct a ms ah hi kp sl sv pd ln so po wr to) s.heap.size)) ([.ref (a 30)] : List Value).toArray s 0 0 (va_A (wX8 ct a ms ah hi kp sl sv pd ln so po wr to) s.heap.size)) (F0 m 143 ls [.int y0]) := by
    intro po_ wr_ to_ x1 y0 h H locs hP hD hS ls hl
    rw [f_X8_readOrder_b143] at h
    refine lv_istore_n (lv' := [(3, .int y0), (0, .ref (a 30)), (1, .int x1)]) hx hb dX8_readOrder_143 rfl hl (by decide) rfl (fun ls hl => ?_)
    refine lv_aload_n hx hb dX8_readOrder_144 rfl (lv_at hl 1 rfl) ?_
    refine lv_dup hx hb dX8_readOrder_145 rfl ?_
    refine z_get (C := RX8) (T := TX8) (N := 12) (ci := 7) hx hb hts zin_X8 hown hK.1 hP 0 9 rfl rfl (by decide) tw804 rfl rfl dX8_readOrder_146 ?_
    refine lv_iload_n hx hb dX8_readOrder_149 rfl (lv_at hl 0 rfl) ?_
    refine zi_eq (tgt := 157) hx hb dX8_readOrder_150 (by decide) h (fun h => ?_) (fun h => ?_)
    · refine lv_iconst (v := (0 : Int32)) hx hb dX8_readOrder_157 (by decide) ?_
      exact B158 po_ wr_ to_ x1 y0 (0 : Int32) po_ h _ _ hP hD hS ls (lv_sub hl [1, 2, 0] rfl)
    · refine lv_iconst (v := (1 : Int32)) hx hb dX8_readOrder_153 (by decide) ?_
      refine lv_goto (tgt := 158) hx hb dX8_readOrder_154 (by decide) ?_
      exact B158 po_ wr_ to_ x1 y0 (1 : Int32) po_ h _ _ hP hD hS ls (lv_sub hl [1, 2, 0] rfl)
  have B110 : ∀ (po_ : Int32) (wr_ : Int32) (to_ : Nat → Int32) (x1 : Int32) (y0 : Int32) (y1 : Int32), f_X8_readOrder_b110 k pd ln po_ wr_ to_ x1 y0 y1 = some (po', wr', to') → ∀ (H : Heap) (locs : List Loc), va_P D vwCl (wX8 ct a ms ah hi kp sl sv pd ln so po_ wr_ to_) H → va_D A (wX8 ct a ms ah hi kp sl sv pd ln so po_ wr_ to_) → va_S A s.heap H locs → ∀ (ls : Array Slot), lv_has ls 5 [(0, .ref (a 30)), (1, .int x1)] → W p l e ({ frames := 4, cells := 0, slots := 0, locals := 89 } : Room) s m ([.ref (a 30)] : List Value).toArray below meth c H locs 0 0 (MQ below (va_Qv (fun (_ : Unit) => True) (zQW D (wX8 ct a ms ah hi kp sl sv pd ln so po wr to) s.heap.size (wX8 ct a ms ah hi kp sl sv pd ln so po' wr' to')) (va_A (wX8 ct a ms ah hi kp sl sv pd ln so po wr to) s.heap.size)) ([.ref (a 30)] : List Value).toArray s 0 0 (va_A (wX8 ct a ms ah hi kp sl sv pd ln so po wr to) s.heap.size)) (F0 m 110 ls [.int y0, .int y1, .ref (a 30)]) := by
    intro po_ wr_ to_ x1 y0 y1 h H locs hP hD hS ls hl
    rw [f_X8_readOrder_b110] at h
    refine o_iadd hx hb dX8_readOrder_110 h (fun v2 h => ?_)
    refine z_puti (C := RX8) (T := TX8) (N := 12) (ci := 7) hx hb hts zin_X8 tyX8 tyX8_ok nmX8 hown hK.1 hP hD hS 0 9 rfl rfl (by decide) tw804 rfl rfl (by decide +kernel) (Nat.le_of_ble_eq_true rfl) h dX8_readOrder_111 (fun po3 H locs h hP hD hS => ?_)
    have hP : va_P D vwCl (wX8 ct a ms ah hi kp sl sv pd ln so po3 wr_ to_) H := hP
    have hD : va_D A (wX8 ct a ms ah hi kp sl sv pd ln so po3 wr_ to_) := hD
    refine lv_aload_n hx hb dX8_readOrder_114 rfl (lv_at hl 0 rfl) ?_
    refine z_get (C := RX8) (T := TX8) (N := 12) (ci := 7) hx hb hts zin_X8 hown hK.1 hP 0 11 rfl rfl (by decide) tw806 rfl rfl dX8_readOrder_115 ?_
    refine lv_iconst (v := (0 : Int32)) hx hb dX8_readOrder_118 (by decide) ?_
    refine lv_iload_n hx hb dX8_readOrder_119 rfl (lv_at hl 1 rfl) ?_
    refine z_iastc hx hb hK.1 hP hD hS 8 0 0 rfl rfl (by decide) (by decide) h dX8_readOrder_120 (fun to4 H locs h hP hD hS => ?_)
    have hP : va_P D vwCl (wX8 ct a ms ah hi kp sl sv pd ln so po3 wr_ to4) H := hP
    have hD : va_D A (wX8 ct a ms ah hi kp sl sv pd ln so po3 wr_ to4) := hD
    refine lv_iload_n hx hb dX8_readOrder_121 rfl (lv_at hl 1 rfl) ?_
    refine lv_bipush (v := (110 : Int32)) hx hb dX8_readOrder_122 (by decide) ?_
    refine zc_ne (tgt := 142) hx hb dX8_readOrder_124 (by decide) h (fun h => ?_) (fun h => ?_)
    · refine lv_iconst (v := (0 : Int32)) hx hb dX8_readOrder_142 (by decide) ?_
      exact B143 po3 wr_ to4 x1 (0 : Int32) h _ _ hP hD hS ls (lv_sub hl [0, 1] rfl)
    · refine lv_aload_n hx hb dX8_readOrder_127 rfl (lv_at hl 0 rfl) ?_
      refine lv_bipush (v := (45 : Int32)) hx hb dX8_readOrder_128 (by decide) ?_
      refine lv_bipush (v := (45 : Int32)) hx hb dX8_readOrder_130 (by decide) ?_
      obtain ⟨v50, hc, h⟩ := zb1_s h
      refine zE_i (zrV (C := RX8) (As := [.int (45 : Int32), .int (45 : Int32)]) (rest := []) hx hb hml hown hts tw1127 mv_X8_isNext ⟨Nat.le_of_ble_eq_true rfl, Nat.le_of_ble_eq_true rfl⟩ rfl rfl (ct_X8_isNext l D ct a ms ah hi kp sl sv pd ln so po3 wr_ to4 (45 : Int32) (45 : Int32) k v50 hc) (z_pv hK hP [0, 1, 2, 3, 4, 5, 6, 7, 8] rfl 0 rfl rfl) hl.1 rfl rfl (Nat.le_of_ble_eq_true rfl) dX8_readOrder_132 ⟨Nat.le_refl _, Nat.le_refl _⟩) ?_
      refine zi_eq (tgt := 142) hx hb dX8_readOrder_135 (by decide) h (fun h => ?_) (fun h => ?_)
      · refine lv_iconst (v := (0 : Int32)) hx hb dX8_readOrder_142 (by decide) ?_
        exact B143 po3 wr_ to4 x1 (0 : Int32) h _ _ hP hD hS ls (lv_sub hl [0, 1] rfl)
      · refine lv_iconst (v := (1 : Int32)) hx hb dX8_readOrder_138 (by decide) ?_
        refine lv_goto (tgt := 143) hx hb dX8_readOrder_139 (by decide) ?_
        exact B143 po3 wr_ to4 x1 (1 : Int32) h _ _ hP hD hS ls (lv_sub hl [0, 1] rfl)
  have B90 : ∀ (po_ : Int32) (wr_ : Int32) (to_ : Nat → Int32) (x1 : Int32) (y0 : Int32), f_X8_readOrder_b90 k pd ln po_ wr_ to_ x1 y0 = some (po', wr', to') → ∀ (H : Heap) (locs : List Loc), va_P D vwCl (wX8 ct a ms ah hi kp sl sv pd ln so po_ wr_ to_) H → va_D A (wX8 ct a ms ah hi kp sl sv pd ln so po_ wr_ to_) → va_S A s.heap H locs → ∀ (ls : Array Slot), lv_has ls 5 [(0, .ref (a 30)), (1, .int x1)] → W p l e ({ frames := 4, cells := 0, slots := 0, locals := 89 } : Room) s m ([.ref (a 30)] : List Value).toArray below meth c H locs 0 0 (MQ below (va_Qv (fun (_ : Unit) => True) (zQW D (wX8 ct a ms ah hi kp sl sv pd ln so po wr to) s.heap.size (wX8 ct a ms ah hi kp sl sv pd ln so po' wr' to')) (va_A (wX8 ct a ms ah hi kp sl sv pd ln so po wr to) s.heap.size)) ([.ref (a 30)] : List Value).toArray s 0 0 (va_A (wX8 ct a ms ah hi kp sl sv pd ln so po wr to) s.heap.size)) (F0 m 90 ls [.int y0, .ref (a 30)]) := by
    intro po_ wr_ to_ x1 y0 h H locs hP hD hS ls hl
    rw [f_X8_readOrder_b90] at h
    refine z_putz (C := RX8) (T := TX8) (N := 12) (ci := 7) hx hb hts zin_X8 tyX8 tyX8_ok nmX8 hown hK.1 hP hD hS 0 10 rfl rfl (by decide) tw805 rfl rfl (by decide +kernel) (Nat.le_of_ble_eq_true rfl) h dX8_readOrder_90 (fun wr1 H locs h hP hD hS => ?_)
    have hP : va_P D vwCl (wX8 ct a ms ah hi kp sl sv pd ln so po_ wr1 to_) H := hP
    have hD : va_D A (wX8 ct a ms ah hi kp sl sv pd ln so po_ wr1 to_) := hD
    refine lv_aload_n hx hb dX8_readOrder_93 rfl (lv_at hl 0 rfl) ?_
    refine lv_dup hx hb dX8_readOrder_94 rfl ?_
    refine z_get (C := RX8) (T := TX8) (N := 12) (ci := 7) hx hb hts zin_X8 hown hK.1 hP 0 9 rfl rfl (by decide) tw804 rfl rfl dX8_readOrder_95 ?_
    refine lv_aload_n hx hb dX8_readOrder_98 rfl (lv_at hl 0 rfl) ?_
    refine z_get (C := RX8) (T := TX8) (N := 12) (ci := 7) hx hb hts zin_X8 hown hK.1 hP 0 10 rfl rfl (by decide) tw805 rfl rfl dX8_readOrder_99 ?_
    refine zi_eq (tgt := 109) hx hb dX8_readOrder_102 (by decide) h (fun h => ?_) (fun h => ?_)
    · refine lv_iconst (v := (1 : Int32)) hx hb dX8_readOrder_109 (by decide) ?_
      exact B110 po_ wr1 to_ x1 (1 : Int32) po_ h _ _ hP hD hS ls (lv_sub hl [0, 1] rfl)
    · refine lv_iconst (v := (0 : Int32)) hx hb dX8_readOrder_105 (by decide) ?_
      refine lv_goto (tgt := 110) hx hb dX8_readOrder_106 (by decide) ?_
      exact B110 po_ wr1 to_ x1 (0 : Int32) po_ h _ _ hP hD hS ls (lv_sub hl [0, 1] rfl)
  have B72 : ∀ (po_ : Int32) (wr_ : Int32) (to_ : Nat → Int32) (x1 : Int32) (y0 : Int32), f_X8_readOrder_b72 k pd ln po_ wr_ to_ x1 y0 = some (po', wr', to') → ∀ (H : Heap) (locs : List Loc), va_P D vwCl (wX8 ct a ms ah hi kp sl sv pd ln so po_ wr_ to_) H → va_D A (wX8 ct a ms ah hi kp sl sv pd ln so po_ wr_ to_) → va_S A s.heap H locs → ∀ (ls : Array Slot), lv_has ls 5 [(0, .ref (a 30)), (1, .int x1)] → W p l e ({ frames := 4, cells := 0, slots := 0, locals := 89 } : Room) s m ([.ref (a 30)] : List Value).toArray below meth c H locs 0 0 (MQ below (va_Qv (fun (_ : Unit) => True) (zQW D (wX8 ct a ms ah hi kp sl sv pd ln so po wr to) s.heap.size (wX8 ct a ms ah hi kp sl sv pd ln so po' wr' to')) (va_A (wX8 ct a ms ah hi kp sl sv pd ln so po wr to) s.heap.size)) ([.ref (a 30)] : List Value).toArray s 0 0 (va_A (wX8 ct a ms ah hi kp sl sv pd ln so po wr to) s.heap.size)) (F0 m 72 ls [.int y0]) := by
    intro po_ wr_ to_ x1 y0 h H locs hP hD hS ls hl
    rw [f_X8_readOrder_b72] at h
    refine lv_istore_n (lv' := [(2, .int y0), (0, .ref (a 30)), (1, .int x1)]) hx hb dX8_readOrder_72 rfl hl (by decide) rfl (fun ls hl => ?_)
    refine lv_aload_n hx hb dX8_readOrder_73 rfl (lv_at hl 1 rfl) ?_
    refine lv_aload_n hx hb dX8_readOrder_74 rfl (lv_at hl 1 rfl) ?_
    refine z_get (C := RX8) (T := TX8) (N := 12) (ci := 7) hx hb hts zin_X8 hown hK.1 hP 0 10 rfl rfl (by decide) tw805 rfl rfl dX8_readOrder_75 ?_
    refine zi_ne (tgt := 85) hx hb dX8_readOrder_78 (by decide) h (fun h => ?_) (fun h => ?_)
    · refine lv_iconst (v := (1 : Int32)) hx hb dX8_readOrder_85 (by decide) ?_
      refine lv_goto (tgt := 90) hx hb dX8_readOrder_86 (by decide) ?_
      exact B90 po_ wr_ to_ x1 (1 : Int32) h _ _ hP hD hS ls (lv_sub hl [1, 2] rfl)
    · refine lv_iload_n hx hb dX8_readOrder_81 rfl (lv_at hl 0 rfl) ?_
      refine zi_ne (tgt := 89) hx hb dX8_readOrder_82 (by decide) h (fun h => ?_) (fun h => ?_)
      · refine lv_iconst (v := (0 : Int32)) hx hb dX8_readOrder_89 (by decide) ?_
        exact B90 po_ wr_ to_ x1 (0 : Int32) h _ _ hP hD hS ls (lv_sub hl [1, 2] rfl)
      · refine lv_iconst (v := (1 : Int32)) hx hb dX8_readOrder_85 (by decide) ?_
        refine lv_goto (tgt := 90) hx hb dX8_readOrder_86 (by decide) ?_
        exact B90 po_ wr_ to_ x1 (1 : Int32) h _ _ hP hD hS ls (lv_sub hl [1, 2] rfl)
  have B24 : ∀ (po_ : Int32) (wr_ : Int32) (to_ : Nat → Int32) (y0 : Int32), f_X8_readOrder_b24 k pd ln po_ wr_ to_ y0 = some (po', wr', to') → ∀ (H : Heap) (locs : List Loc), va_P D vwCl (wX8 ct a ms ah hi kp sl sv pd ln so po_ wr_ to_) H → va_D A (wX8 ct a ms ah hi kp sl sv pd ln so po_ wr_ to_) → va_S A s.heap H locs → ∀ (ls : Array Slot), lv_has ls 5 [(0, .ref (a 30))] → W p l e ({ frames := 4, cells := 0, slots := 0, locals := 89 } : Room) s m ([.ref (a 30)] : List Value).toArray below meth c H locs 0 0 (MQ below (va_Qv (fun (_ : Unit) => True) (zQW D (wX8 ct a ms ah hi kp sl sv pd ln so po wr to) s.heap.size (wX8 ct a ms ah hi kp sl sv pd ln so po' wr' to')) (va_A (wX8 ct a ms ah hi kp sl sv pd ln so po wr to) s.heap.size)) ([.ref (a 30)] : List Value).toArray s 0 0 (va_A (wX8 ct a ms ah hi kp sl sv pd ln so po wr to) s.heap.size)) (F0 m 24 ls [.int y0]) := by
    intro po_ wr_ to_ y0 h H locs hP hD hS ls hl
    rw [f_X8_readOrder_b24] at h
    refine lv_istore_n (lv' := [(1, .int y0), (0, .ref (a 30))]) hx hb dX8_readOrder_24 rfl hl (by decide) rfl (fun ls hl => ?_)
    refine lv_iload_n hx hb dX8_readOrder_25 rfl (lv_at hl 0 rfl) ?_
    refine lv_bipush (v := (113 : Int32)) hx hb dX8_readOrder_26 (by decide) ?_
    refine zc_eq (tgt := 67) hx hb dX8_readOrder_28 (by decide) h (fun h => ?_) (fun h => ?_)
    · refine lv_iconst (v := (1 : Int32)) hx hb dX8_readOrder_67 (by decide) ?_
      refine lv_goto (tgt := 72) hx hb dX8_readOrder_68 (by decide) ?_
      exact B72 po_ wr_ to_ y0 (1 : Int32) h _ _ hP hD hS ls (lv_sub hl [1, 0] rfl)
    · refine lv_iload_n hx hb dX8_readOrder_31 rfl (lv_at hl 0 rfl) ?_
      refine lv_bipush (v := (99 : Int32)) hx hb dX8_readOrder_32 (by decide) ?_
      refine zc_eq (tgt := 67) hx hb dX8_readOrder_34 (by decide) h (fun h => ?_) (fun h => ?_)
      · refine lv_iconst (v := (1 : Int32)) hx hb dX8_readOrder_67 (by decide) ?_
        refine lv_goto (tgt := 72) hx hb dX8_readOrder_68 (by decide) ?_
        exact B72 po_ wr_ to_ y0 (1 : Int32) h _ _ hP hD hS ls (lv_sub hl [1, 0] rfl)
      · refine lv_iload_n hx hb dX8_readOrder_37 rfl (lv_at hl 0 rfl) ?_
        refine lv_bipush (v := (111 : Int32)) hx hb dX8_readOrder_38 (by decide) ?_
        refine zc_eq (tgt := 67) hx hb dX8_readOrder_40 (by decide) h (fun h => ?_) (fun h => ?_)
        · refine lv_iconst (v := (1 : Int32)) hx hb dX8_readOrder_67 (by decide) ?_
          refine lv_goto (tgt := 72) hx hb dX8_readOrder_68 (by decide) ?_
          exact B72 po_ wr_ to_ y0 (1 : Int32) h _ _ hP hD hS ls (lv_sub hl [1, 0] rfl)
        · refine lv_iload_n hx hb dX8_readOrder_43 rfl (lv_at hl 0 rfl) ?_
          refine lv_bipush (v := (103 : Int32)) hx hb dX8_readOrder_44 (by decide) ?_
          refine zc_eq (tgt := 67) hx hb dX8_readOrder_46 (by decide) h (fun h => ?_) (fun h => ?_)
          · refine lv_iconst (v := (1 : Int32)) hx hb dX8_readOrder_67 (by decide) ?_
            refine lv_goto (tgt := 72) hx hb dX8_readOrder_68 (by decide) ?_
            exact B72 po_ wr_ to_ y0 (1 : Int32) h _ _ hP hD hS ls (lv_sub hl [1, 0] rfl)
          · refine lv_iload_n hx hb dX8_readOrder_49 rfl (lv_at hl 0 rfl) ?_
            refine lv_bipush (v := (108 : Int32)) hx hb dX8_readOrder_50 (by decide) ?_
            refine zc_eq (tgt := 67) hx hb dX8_readOrder_52 (by decide) h (fun h => ?_) (fun h => ?_)
            · refine lv_iconst (v := (1 : Int32)) hx hb dX8_readOrder_67 (by decide) ?_
              refine lv_goto (tgt := 72) hx hb dX8_readOrder_68 (by decide) ?_
              exact B72 po_ wr_ to_ y0 (1 : Int32) h _ _ hP hD hS ls (lv_sub hl [1, 0] rfl)
            · refine lv_iload_n hx hb dX8_readOrder_55 rfl (lv_at hl 0 rfl) ?_
              refine lv_bipush (v := (110 : Int32)) hx hb dX8_readOrder_56 (by decide) ?_
              refine zc_eq (tgt := 67) hx hb dX8_readOrder_58 (by decide) h (fun h => ?_) (fun h => ?_)
              · refine lv_iconst (v := (1 : Int32)) hx hb dX8_readOrder_67 (by decide) ?_
                refine lv_goto (tgt := 72) hx hb dX8_readOrder_68 (by decide) ?_
                exact B72 po_ wr_ to_ y0 (1 : Int32) h _ _ hP hD hS ls (lv_sub hl [1, 0] rfl)
              · refine lv_iload_n hx hb dX8_readOrder_61 rfl (lv_at hl 0 rfl) ?_
                refine lv_bipush (v := (100 : Int32)) hx hb dX8_readOrder_62 (by decide) ?_
                refine zc_ne (tgt := 71) hx hb dX8_readOrder_64 (by decide) h (fun h => ?_) (fun h => ?_)
                · refine lv_iconst (v := (0 : Int32)) hx hb dX8_readOrder_71 (by decide) ?_
                  exact B72 po_ wr_ to_ y0 (0 : Int32) h _ _ hP hD hS ls (lv_sub hl [1, 0] rfl)
                · refine lv_iconst (v := (1 : Int32)) hx hb dX8_readOrder_67 (by decide) ?_
                  refine lv_goto (tgt := 72) hx hb dX8_readOrder_68 (by decide) ?_
                  exact B72 po_ wr_ to_ y0 (1 : Int32) h _ _ hP hD hS ls (lv_sub hl [1, 0] rfl)
  rw [f_X8_readOrder] at h
  refine lv_aload_n hx hb dX8_readOrder_0 rfl (lv_at hl 0 rfl) ?_
  refine z_get (C := RX8) (T := TX8) (N := 12) (ci := 7) hx hb hts zin_X8 hown hK.1 hP 0 9 rfl rfl (by decide) tw804 rfl rfl dX8_readOrder_1 ?_
  refine lv_aload_n hx hb dX8_readOrder_4 rfl (lv_at hl 0 rfl) ?_
  refine z_get (C := RX8) (T := TX8) (N := 12) (ci := 7) hx hb hts zin_X8 hown hK.1 hP 0 7 rfl rfl (by decide) tw802 rfl rfl dX8_readOrder_5 ?_
  refine zc_ge (tgt := 23) hx hb dX8_readOrder_8 (by decide) h (fun h => ?_) (fun h => ?_)
  · refine lv_iconst (v := (0 : Int32)) hx hb dX8_readOrder_23 (by decide) ?_
    exact B24 po wr to (0 : Int32) h _ _ hP hD hS ls (lv_sub hl [0] rfl)
  · refine lv_aload_n hx hb dX8_readOrder_11 rfl (lv_at hl 0 rfl) ?_
    refine z_get (C := RX8) (T := TX8) (N := 12) (ci := 7) hx hb hts zin_X8 hown hK.1 hP 0 6 rfl rfl (by decide) tw801 rfl rfl dX8_readOrder_12 ?_
    refine lv_aload_n hx hb dX8_readOrder_15 rfl (lv_at hl 0 rfl) ?_
    refine z_get (C := RX8) (T := TX8) (N := 12) (ci := 7) hx hb hts zin_X8 hown hK.1 hP 0 9 rfl rfl (by decide) tw804 rfl rfl dX8_readOrder_16 ?_
    refine y_iald hx hb hK hP 6 0 rfl rfl h dX8_readOrder_19 (fun v51 h => ?_)
    refine lv_goto (tgt := 24) hx hb dX8_readOrder_20 (by decide) ?_
    exact B24 po wr to v51 h _ _ hP hD hS ls (lv_sub hl [0] rfl)

