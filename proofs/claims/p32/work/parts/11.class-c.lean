/-! written by wip/p32/gen.py: each method as a function, and its contract -/
def f_X1_uncutBlocks (k : Nat) (f : Nat → Int32) : Option (Int32) :=
  zb1 (f_X5_cell k f (6 : Int32)) fun v1 =>
  zl ((1 : Int32) <<< (v1 &&& 31)) fun v2 =>
  zl (v2 - (1 : Int32)) fun v3 =>
  zb1 (f_X5_blocksWith k f (5 : Int32) (4 : Int32)) fun v4 =>
  zl (v4 ^^^ (-1 : Int32)) fun v5 =>
  zl (v3 &&& v5) fun v6 =>
  some v6
set_option maxRecDepth 100000 in
set_option maxHeartbeats 4000000 in
theorem ct_X1_uncutBlocks (l : Launch) (D : va_G) (ct a : Nat → Nat) (f : Nat → Int32) (k : Nat) (r : Int32) (h : f_X1_uncutBlocks k f = some r) : Met l yX1_uncutBlocks (Cond.code yX1_uncutBlocks cX1_uncutBlocks 2 (some .int) :: zT) ({ frames := 2, cells := 0, slots := 0, locals := 48 } : Room) (va_Pc [.ref (a 2)] (zPR D (zTys ct) (wX1 ct a f))) (vp_Si (fun r' => r' = r)) 0 0 (fun _ => False) := by
  refine zMet (cc := cX1_uncutBlocks) (maxL := 2) (ret := (some .int)) (av := [.ref (a 2)]) (by decide) (Nat.le_of_ble_eq_true rfl) (fun p e s m below meth c ls hx hb hr hml hts hown hlocks hin hB hl => ?_)
  have hl : lv_has ls 2 [(0, .ref (a 2))] := hl
  have hown : s.vm.findClass RX1 = some m.cls := hown
  obtain ⟨hP, hK⟩ := hB
  rw [f_X1_uncutBlocks] at h
  refine lv_iconst (v := (1 : Int32)) hx hb dX1_uncutBlocks_0 (by decide) ?_
  refine lv_aload_n hx hb dX1_uncutBlocks_1 rfl (lv_at hl 0 rfl) ?_
  refine z_get (C := RX1) (T := TX1) (N := 1) (ci := 0) hx hb hts zin_X1 hown hK.1 hP 0 0 rfl rfl (by decide) tw54 rfl rfl dX1_uncutBlocks_2 ?_
  refine lv_bipush (v := (6 : Int32)) hx hb dX1_uncutBlocks_5 (by decide) ?_
  obtain ⟨v1, hc, h⟩ := zb1_s h
  refine zE_i (zrV (C := RX5) (As := [.int (6 : Int32)]) (rest := [.int (1 : Int32)]) hx hb hml hown hts tw173 mv_X5_cell ⟨Nat.le_of_ble_eq_true rfl, Nat.le_of_ble_eq_true rfl⟩ rfl rfl (ct_X5_cell l D ct a f (6 : Int32) k v1 hc) (z_pv hK hP [1, 2] rfl 1 rfl rfl) hl.1 rfl rfl (Nat.le_of_ble_eq_true rfl) dX1_uncutBlocks_7 ⟨Nat.le_refl _, Nat.le_refl _⟩) ?_
  refine o_ishl hx hb dX1_uncutBlocks_10 h (fun v2 h => ?_)
  refine lv_iconst (v := (1 : Int32)) hx hb dX1_uncutBlocks_11 (by decide) ?_
  refine o_isub hx hb dX1_uncutBlocks_12 h (fun v3 h => ?_)
  refine lv_istore_n (lv' := [(1, .int v3), (0, .ref (a 2))]) hx hb dX1_uncutBlocks_13 rfl hl (by decide) rfl (fun ls hl => ?_)
  refine lv_iload_n hx hb dX1_uncutBlocks_14 rfl (lv_at hl 0 rfl) ?_
  refine lv_aload_n hx hb dX1_uncutBlocks_15 rfl (lv_at hl 1 rfl) ?_
  refine z_get (C := RX1) (T := TX1) (N := 1) (ci := 0) hx hb hts zin_X1 hown hK.1 hP 0 0 rfl rfl (by decide) tw54 rfl rfl dX1_uncutBlocks_16 ?_
  refine lv_iconst (v := (5 : Int32)) hx hb dX1_uncutBlocks_19 (by decide) ?_
  refine lv_iconst (v := (4 : Int32)) hx hb dX1_uncutBlocks_20 (by decide) ?_
  obtain ⟨v4, hc, h⟩ := zb1_s h
  refine zE_i (zrV (C := RX5) (As := [.int (5 : Int32), .int (4 : Int32)]) (rest := [.int v3]) hx hb hml hown hts tw174 mv_X5_blocksWith ⟨Nat.le_of_ble_eq_true rfl, Nat.le_of_ble_eq_true rfl⟩ rfl rfl (ct_X5_blocksWith l D ct a f (5 : Int32) (4 : Int32) k v4 hc) (z_pv hK hP [1, 2] rfl 1 rfl rfl) hl.1 rfl rfl (Nat.le_of_ble_eq_true rfl) dX1_uncutBlocks_21 ⟨Nat.le_refl _, Nat.le_refl _⟩) ?_
  refine lv_iconst (v := (-1 : Int32)) hx hb dX1_uncutBlocks_24 (by decide) ?_
  refine o_ixor hx hb dX1_uncutBlocks_25 h (fun v5 h => ?_)
  refine o_iand hx hb dX1_uncutBlocks_26 h (fun v6 h => ?_)
  exact zR_i hx hb hr hlocks dX1_uncutBlocks_27 h

def f_X1_quarriedWeight (k : Nat) (f : Nat → Int32) : Option (Int32) :=
  zb1 (f_X5_blocksWith k f (10 : Int32) (-6 : Int32)) fun v1 =>
  zb1 (f_X1_weightOf k f v1) fun v2 =>
  some v2
set_option maxRecDepth 100000 in
set_option maxHeartbeats 4000000 in
theorem ct_X1_quarriedWeight (l : Launch) (D : va_G) (ct a : Nat → Nat) (f : Nat → Int32) (k : Nat) (r : Int32) (h : f_X1_quarriedWeight k f = some r) : Met l yX1_quarriedWeight (Cond.code yX1_quarriedWeight cX1_quarriedWeight 1 (some .int) :: zT) ({ frames := 2, cells := 0, slots := 0, locals := 48 } : Room) (va_Pc [.ref (a 2)] (zPR D (zTys ct) (wX1 ct a f))) (vp_Si (fun r' => r' = r)) 0 0 (fun _ => False) := by
  refine zMet (cc := cX1_quarriedWeight) (maxL := 1) (ret := (some .int)) (av := [.ref (a 2)]) (by decide) (Nat.le_of_ble_eq_true rfl) (fun p e s m below meth c ls hx hb hr hml hts hown hlocks hin hB hl => ?_)
  have hl : lv_has ls 1 [(0, .ref (a 2))] := hl
  have hown : s.vm.findClass RX1 = some m.cls := hown
  obtain ⟨hP, hK⟩ := hB
  rw [f_X1_quarriedWeight] at h
  refine lv_aload_n hx hb dX1_quarriedWeight_0 rfl (lv_at hl 0 rfl) ?_
  refine lv_aload_n hx hb dX1_quarriedWeight_1 rfl (lv_at hl 0 rfl) ?_
  refine z_get (C := RX1) (T := TX1) (N := 1) (ci := 0) hx hb hts zin_X1 hown hK.1 hP 0 0 rfl rfl (by decide) tw54 rfl rfl dX1_quarriedWeight_2 ?_
  refine lv_bipush (v := (10 : Int32)) hx hb dX1_quarriedWeight_5 (by decide) ?_
  refine lv_bipush (v := (-6 : Int32)) hx hb dX1_quarriedWeight_7 (by decide) ?_
  obtain ⟨v1, hc, h⟩ := zb1_s h
  refine zE_i (zrV (C := RX5) (As := [.int (10 : Int32), .int (-6 : Int32)]) (rest := [.ref (a 2)]) hx hb hml hown hts tw174 mv_X5_blocksWith ⟨Nat.le_of_ble_eq_true rfl, Nat.le_of_ble_eq_true rfl⟩ rfl rfl (ct_X5_blocksWith l D ct a f (10 : Int32) (-6 : Int32) k v1 hc) (z_pv hK hP [1, 2] rfl 1 rfl rfl) hl.1 rfl rfl (Nat.le_of_ble_eq_true rfl) dX1_quarriedWeight_9 ⟨Nat.le_refl _, Nat.le_refl _⟩) ?_
  obtain ⟨v2, hc, h⟩ := zb1_s h
  refine zE_i (zrV (C := RX1) (As := [.int v1]) (rest := []) hx hb hml hown hts tw179 mv_X1_weightOf ⟨Nat.le_of_ble_eq_true rfl, Nat.le_of_ble_eq_true rfl⟩ rfl rfl (ct_X1_weightOf l D ct a f v1 k v2 hc) (z_pv hK hP [0, 1, 2] rfl 0 rfl rfl) hl.1 rfl rfl (Nat.le_of_ble_eq_true rfl) dX1_quarriedWeight_12 ⟨Nat.le_refl _, Nat.le_refl _⟩) ?_
  exact zR_i hx hb hr hlocks dX1_quarriedWeight_15 h

def f_X1_uncutWeight (k : Nat) (f : Nat → Int32) : Option (Int32) :=
  zb1 (f_X1_uncutBlocks k f) fun v1 =>
  zb1 (f_X1_weightOf k f v1) fun v2 =>
  some v2
set_option maxRecDepth 100000 in
set_option maxHeartbeats 4000000 in
theorem ct_X1_uncutWeight (l : Launch) (D : va_G) (ct a : Nat → Nat) (f : Nat → Int32) (k : Nat) (r : Int32) (h : f_X1_uncutWeight k f = some r) : Met l yX1_uncutWeight (Cond.code yX1_uncutWeight cX1_uncutWeight 1 (some .int) :: zT) ({ frames := 3, cells := 0, slots := 0, locals := 69 } : Room) (va_Pc [.ref (a 2)] (zPR D (zTys ct) (wX1 ct a f))) (vp_Si (fun r' => r' = r)) 0 0 (fun _ => False) := by
  refine zMet (cc := cX1_uncutWeight) (maxL := 1) (ret := (some .int)) (av := [.ref (a 2)]) (by decide) (Nat.le_of_ble_eq_true rfl) (fun p e s m below meth c ls hx hb hr hml hts hown hlocks hin hB hl => ?_)
  have hl : lv_has ls 1 [(0, .ref (a 2))] := hl
  have hown : s.vm.findClass RX1 = some m.cls := hown
  obtain ⟨hP, hK⟩ := hB
  rw [f_X1_uncutWeight] at h
  refine lv_aload_n hx hb dX1_uncutWeight_0 rfl (lv_at hl 0 rfl) ?_
  refine lv_aload_n hx hb dX1_uncutWeight_1 rfl (lv_at hl 0 rfl) ?_
  obtain ⟨v1, hc, h⟩ := zb1_s h
  refine zE_i (zrV (C := RX1) (As := []) (rest := [.ref (a 2)]) hx hb hml hown hts tw188 mv_X1_uncutBlocks ⟨Nat.le_of_ble_eq_true rfl, Nat.le_of_ble_eq_true rfl⟩ rfl rfl (ct_X1_uncutBlocks l D ct a f k v1 hc) (z_pv hK hP [0, 1, 2] rfl 0 rfl rfl) hl.1 rfl rfl (Nat.le_of_ble_eq_true rfl) dX1_uncutWeight_2 ⟨Nat.le_refl _, Nat.le_refl _⟩) ?_
  obtain ⟨v2, hc, h⟩ := zb1_s h
  refine zE_i (zrV (C := RX1) (As := [.int v1]) (rest := []) hx hb hml hown hts tw179 mv_X1_weightOf ⟨Nat.le_of_ble_eq_true rfl, Nat.le_of_ble_eq_true rfl⟩ rfl rfl (ct_X1_weightOf l D ct a f v1 k v2 hc) (z_pv hK hP [0, 1, 2] rfl 0 rfl rfl) hl.1 rfl rfl (Nat.le_of_ble_eq_true rfl) dX1_uncutWeight_5 ⟨Nat.le_refl _, Nat.le_refl _⟩) ?_
  exact zR_i hx hb hr hlocks dX1_uncutWeight_8 h

def f_X1_lostWeight (k : Nat) (f : Nat → Int32) : Option (Int32) :=
  zb1 (f_X1_quarriedWeight k f) fun v1 =>
  zb1 (f_X1_uncutWeight k f) fun v2 =>
  zl (v1 - v2) fun v3 =>
  some v3
set_option maxRecDepth 100000 in
set_option maxHeartbeats 4000000 in
theorem ct_X1_lostWeight (l : Launch) (D : va_G) (ct a : Nat → Nat) (f : Nat → Int32) (k : Nat) (r : Int32) (h : f_X1_lostWeight k f = some r) : Met l yX1_lostWeight (Cond.code yX1_lostWeight cX1_lostWeight 1 (some .int) :: zT) ({ frames := 4, cells := 0, slots := 0, locals := 89 } : Room) (va_Pc [.ref (a 2)] (zPR D (zTys ct) (wX1 ct a f))) (vp_Si (fun r' => r' = r)) 0 0 (fun _ => False) := by
  refine zMet (cc := cX1_lostWeight) (maxL := 1) (ret := (some .int)) (av := [.ref (a 2)]) (by decide) (Nat.le_of_ble_eq_true rfl) (fun p e s m below meth c ls hx hb hr hml hts hown hlocks hin hB hl => ?_)
  have hl : lv_has ls 1 [(0, .ref (a 2))] := hl
  have hown : s.vm.findClass RX1 = some m.cls := hown
  obtain ⟨hP, hK⟩ := hB
  rw [f_X1_lostWeight] at h
  refine lv_aload_n hx hb dX1_lostWeight_0 rfl (lv_at hl 0 rfl) ?_
  obtain ⟨v1, hc, h⟩ := zb1_s h
  refine zE_i (zrV (C := RX1) (As := []) (rest := []) hx hb hml hown hts tw193 mv_X1_quarriedWeight ⟨Nat.le_of_ble_eq_true rfl, Nat.le_of_ble_eq_true rfl⟩ rfl rfl (ct_X1_quarriedWeight l D ct a f k v1 hc) (z_pv hK hP [0, 1, 2] rfl 0 rfl rfl) hl.1 rfl rfl (Nat.le_of_ble_eq_true rfl) dX1_lostWeight_1 ⟨Nat.le_refl _, Nat.le_refl _⟩) ?_
  refine lv_aload_n hx hb dX1_lostWeight_4 rfl (lv_at hl 0 rfl) ?_
  obtain ⟨v2, hc, h⟩ := zb1_s h
  refine zE_i (zrV (C := RX1) (As := []) (rest := [.int v1]) hx hb hml hown hts tw194 mv_X1_uncutWeight ⟨Nat.le_of_ble_eq_true rfl, Nat.le_of_ble_eq_true rfl⟩ rfl rfl (ct_X1_uncutWeight l D ct a f k v2 hc) (z_pv hK hP [0, 1, 2] rfl 0 rfl rfl) hl.1 rfl rfl (Nat.le_of_ble_eq_true rfl) dX1_lostWeight_5 ⟨Nat.le_refl _, Nat.le_refl _⟩) ?_
  refine o_isub hx hb dX1_lostWeight_8 h (fun v3 h => ?_)
  exact zR_i hx hb hr hlocks dX1_lostWeight_9 h

def f_X1_allInvoices_b14 (k : Nat) (f : Nat → Int32)  : Nat → Int32 → Int32 → Int32 → Option (Int32)
  | 0, _, _, _ => none
  | n + 1, x1, x2, x3 =>
    if x1 ≤ x3 then
      some x2
    else
      zb1 (f_X5_orderCell k f x3 (3 : Int32)) fun v2 =>
      if v2 = (2 : Int32) then
        zb1 (f_X5_orderCell k f x3 (5 : Int32)) fun v4 =>
        zl (x2 + v4) fun v5 =>
        zl (x3 + (1 : Int32)) fun v6 =>
        f_X1_allInvoices_b14 k f n x1 v5 v6
      else
        zl (x3 + (1 : Int32)) fun v3 =>
        f_X1_allInvoices_b14 k f n x1 x2 v3
def f_X1_allInvoices (k : Nat) (f : Nat → Int32) : Option (Int32) :=
  zb1 (f_X5_cell k f (7 : Int32)) fun v1 =>
  f_X1_allInvoices_b14 k f k v1 (0 : Int32) (0 : Int32)
set_option maxRecDepth 100000 in
set_option maxHeartbeats 4000000 in
theorem ct_X1_allInvoices (l : Launch) (D : va_G) (ct a : Nat → Nat) (f : Nat → Int32) (k : Nat) (r : Int32) (h : f_X1_allInvoices k f = some r) : Met l yX1_allInvoices (Cond.code yX1_allInvoices cX1_allInvoices 4 (some .int) :: zT) ({ frames := 2, cells := 0, slots := 0, locals := 43 } : Room) (va_Pc [.ref (a 2)] (zPR D (zTys ct) (wX1 ct a f))) (vp_Si (fun r' => r' = r)) 0 0 (fun _ => False) := by
  refine zMet (cc := cX1_allInvoices) (maxL := 4) (ret := (some .int)) (av := [.ref (a 2)]) (by decide) (Nat.le_of_ble_eq_true rfl) (fun p e s m below meth c ls hx hb hr hml hts hown hlocks hin hB hl => ?_)
  have hl : lv_has ls 4 [(0, .ref (a 2))] := hl
  have hown : s.vm.findClass RX1 = some m.cls := hown
  obtain ⟨hP, hK⟩ := hB
  have B14 : ∀ (n : Nat), ∀ (x1 : Int32) (x2 : Int32) (x3 : Int32), f_X1_allInvoices_b14 k f n x1 x2 x3 = some r → ∀ (ls : Array Slot), lv_has ls 4 [(0, .ref (a 2)), (1, .int x1), (2, .int x2), (3, .int x3)] → W p l e ({ frames := 2, cells := 0, slots := 0, locals := 43 } : Room) s m ([.ref (a 2)] : List Value).toArray below meth c s.heap [] 0 0 (MQ below (vp_Si (fun r' => r' = r)) ([.ref (a 2)] : List Value).toArray s 0 0 (fun _ => False)) (F0 m 14 ls []) := by
    intro n
    induction n with
    | zero => intro x1 x2 x3 h; exact absurd h (by rw [f_X1_allInvoices_b14]; exact fun q => nomatch q)
    | succ n ih14 =>
      intro x1 x2 x3 h ls hl
      rw [f_X1_allInvoices_b14] at h
      refine lv_iload_n hx hb dX1_allInvoices_14 rfl (lv_at hl 3 rfl) ?_
      refine lv_iload_n hx hb dX1_allInvoices_15 rfl (lv_at hl 1 rfl) ?_
      refine zc_ge (tgt := 50) hx hb dX1_allInvoices_16 (by decide) h (fun h => ?_) (fun h => ?_)
      · refine lv_iload_n hx hb dX1_allInvoices_50 rfl (lv_at hl 2 rfl) ?_
        exact zR_i hx hb hr hlocks dX1_allInvoices_51 h
      · refine lv_aload_n hx hb dX1_allInvoices_19 rfl (lv_at hl 0 rfl) ?_
        refine z_get (C := RX1) (T := TX1) (N := 1) (ci := 0) hx hb hts zin_X1 hown hK.1 hP 0 0 rfl rfl (by decide) tw54 rfl rfl dX1_allInvoices_20 ?_
        refine lv_iload_n hx hb dX1_allInvoices_23 rfl (lv_at hl 3 rfl) ?_
        refine lv_iconst (v := (3 : Int32)) hx hb dX1_allInvoices_24 (by decide) ?_
        obtain ⟨v2, hc, h⟩ := zb1_s h
        refine zE_i (zrV (C := RX5) (As := [.int x3, .int (3 : Int32)]) (rest := []) hx hb hml hown hts tw200 mv_X5_orderCell ⟨Nat.le_of_ble_eq_true rfl, Nat.le_of_ble_eq_true rfl⟩ rfl rfl (ct_X5_orderCell l D ct a f x3 (3 : Int32) k v2 hc) (z_pv hK hP [1, 2] rfl 1 rfl rfl) hl.1 rfl rfl (Nat.le_of_ble_eq_true rfl) dX1_allInvoices_25 ⟨Nat.le_refl _, Nat.le_refl _⟩) ?_
        refine lv_iconst (v := (2 : Int32)) hx hb dX1_allInvoices_28 (by decide) ?_
        refine zc_ne (tgt := 44) hx hb dX1_allInvoices_29 (by decide) h (fun h => ?_) (fun h => ?_)
        · refine o_nm h (fun v3 ey h => ?_)
          refine lv_iinc (v := v3) (lv' := [(3, .int v3), (0, .ref (a 2)), (1, .int x1), (2, .int x2)]) hx hb dX1_allInvoices_44 hl (k := 3) rfl (Eq.trans rfl ey) (by decide) rfl (fun ls hl => ?_)
          refine lv_goto (tgt := 14) hx hb dX1_allInvoices_47 (by decide) ?_
          exact ih14 x1 x2 v3 h ls (lv_sub hl [1, 2, 3, 0] rfl)
        · refine lv_iload_n hx hb dX1_allInvoices_32 rfl (lv_at hl 2 rfl) ?_
          refine lv_aload_n hx hb dX1_allInvoices_33 rfl (lv_at hl 0 rfl) ?_
          refine z_get (C := RX1) (T := TX1) (N := 1) (ci := 0) hx hb hts zin_X1 hown hK.1 hP 0 0 rfl rfl (by decide) tw54 rfl rfl dX1_allInvoices_34 ?_
          refine lv_iload_n hx hb dX1_allInvoices_37 rfl (lv_at hl 3 rfl) ?_
          refine lv_iconst (v := (5 : Int32)) hx hb dX1_allInvoices_38 (by decide) ?_
          obtain ⟨v4, hc, h⟩ := zb1_s h
          refine zE_i (zrV (C := RX5) (As := [.int x3, .int (5 : Int32)]) (rest := [.int x2]) hx hb hml hown hts tw200 mv_X5_orderCell ⟨Nat.le_of_ble_eq_true rfl, Nat.le_of_ble_eq_true rfl⟩ rfl rfl (ct_X5_orderCell l D ct a f x3 (5 : Int32) k v4 hc) (z_pv hK hP [1, 2] rfl 1 rfl rfl) hl.1 rfl rfl (Nat.le_of_ble_eq_true rfl) dX1_allInvoices_39 ⟨Nat.le_refl _, Nat.le_refl _⟩) ?_
          refine o_iadd hx hb dX1_allInvoices_42 h (fun v5 h => ?_)
          refine lv_istore_n (lv' := [(2, .int v5), (0, .ref (a 2)), (1, .int x1), (3, .int x3)]) hx hb dX1_allInvoices_43 rfl hl (by decide) rfl (fun ls hl => ?_)
          refine o_nm h (fun v6 ey h => ?_)
          refine lv_iinc (v := v6) (lv' := [(3, .int v6), (2, .int v5), (0, .ref (a 2)), (1, .int x1)]) hx hb dX1_allInvoices_44 hl (k := 3) rfl (Eq.trans rfl ey) (by decide) rfl (fun ls hl => ?_)
          refine lv_goto (tgt := 14) hx hb dX1_allInvoices_47 (by decide) ?_
          exact ih14 x1 v5 v6 h ls (lv_sub hl [2, 3, 1, 0] rfl)
  rw [f_X1_allInvoices] at h
  refine lv_aload_n hx hb dX1_allInvoices_0 rfl (lv_at hl 0 rfl) ?_
  refine z_get (C := RX1) (T := TX1) (N := 1) (ci := 0) hx hb hts zin_X1 hown hK.1 hP 0 0 rfl rfl (by decide) tw54 rfl rfl dX1_allInvoices_1 ?_
  refine lv_bipush (v := (7 : Int32)) hx hb dX1_allInvoices_4 (by decide) ?_
  obtain ⟨v1, hc, h⟩ := zb1_s h
  refine zE_i (zrV (C := RX5) (As := [.int (7 : Int32)]) (rest := []) hx hb hml hown hts tw173 mv_X5_cell ⟨Nat.le_of_ble_eq_true rfl, Nat.le_of_ble_eq_true rfl⟩ rfl rfl (ct_X5_cell l D ct a f (7 : Int32) k v1 hc) (z_pv hK hP [1, 2] rfl 1 rfl rfl) hl.1 rfl rfl (Nat.le_of_ble_eq_true rfl) dX1_allInvoices_6 ⟨Nat.le_refl _, Nat.le_refl _⟩) ?_
  refine lv_istore_n (lv' := [(1, .int v1), (0, .ref (a 2))]) hx hb dX1_allInvoices_9 rfl hl (by decide) rfl (fun ls hl => ?_)
  refine lv_iconst (v := (0 : Int32)) hx hb dX1_allInvoices_10 (by decide) ?_
  refine lv_istore_n (lv' := [(2, .int (0 : Int32)), (1, .int v1), (0, .ref (a 2))]) hx hb dX1_allInvoices_11 rfl hl (by decide) rfl (fun ls hl => ?_)
  refine lv_iconst (v := (0 : Int32)) hx hb dX1_allInvoices_12 (by decide) ?_
  refine lv_istore_n (lv' := [(3, .int (0 : Int32)), (2, .int (0 : Int32)), (1, .int v1), (0, .ref (a 2))]) hx hb dX1_allInvoices_13 rfl hl (by decide) rfl (fun ls hl => ?_)
  exact B14 k v1 (0 : Int32) (0 : Int32) h ls (lv_sub hl [3, 2, 1, 0] rfl)

def f_X3_length (k : Nat) (pl : Int32) : Option (Int32) :=
  some pl
set_option maxRecDepth 100000 in
set_option maxHeartbeats 4000000 in
theorem ct_X3_length (l : Launch) (D : va_G) (ct a : Nat → Nat) (sg : Nat → Int32) (pl : Int32) (pa : Int32) (pk : Int32) (pn : Nat → Int32) (pf : Int32) (pg : Int32) (k : Nat) (r : Int32) (h : f_X3_length k pl = some r) : Met l yX3_length (Cond.code yX3_length cX3_length 1 (some .int) :: zT) ({ frames := 0, cells := 0, slots := 0, locals := 0 } : Room) (va_Pc [.ref (a 10)] (zPR D (zTys ct) (wX3 ct a sg pl pa pk pn pf pg))) (vp_Si (fun r' => r' = r)) 0 0 (fun _ => False) := by
  refine zMet (cc := cX3_length) (maxL := 1) (ret := (some .int)) (av := [.ref (a 10)]) (by decide) (Nat.le_of_ble_eq_true rfl) (fun p e s m below meth c ls hx hb hr hml hts hown hlocks hin hB hl => ?_)
  have hl : lv_has ls 1 [(0, .ref (a 10))] := hl
  have hown : s.vm.findClass RX3 = some m.cls := hown
  obtain ⟨hP, hK⟩ := hB
  rw [f_X3_length] at h
  refine lv_aload_n hx hb dX3_length_0 rfl (lv_at hl 0 rfl) ?_
  refine z_get (C := RX3) (T := TX3) (N := 7) (ci := 2) hx hb hts zin_X3 hown hK.1 hP 0 1 rfl rfl (by decide) tw111 rfl rfl dX3_length_1 ?_
  exact zR_i hx hb hr hlocks dX3_length_4 h

def f_X2_size (k : Nat) (hz : Int32) : Option (Int32) :=
  some hz
set_option maxRecDepth 100000 in
set_option maxHeartbeats 4000000 in
theorem ct_X2_size (l : Launch) (D : va_G) (ct a : Nat → Nat) (g : Nat → Nat → Int32) (nx : Int32) (hz : Int32) (k : Nat) (r : Int32) (h : f_X2_size k hz = some r) : Met l yX2_size (Cond.code yX2_size cX2_size 1 (some .int) :: zT) ({ frames := 0, cells := 0, slots := 0, locals := 0 } : Room) (va_Pc [.ref (a 5)] (zPR D (zTys ct) (wX2 ct a g nx hz))) (vp_Si (fun r' => r' = r)) 0 0 (fun _ => False) := by
  refine zMet (cc := cX2_size) (maxL := 1) (ret := (some .int)) (av := [.ref (a 5)]) (by decide) (Nat.le_of_ble_eq_true rfl) (fun p e s m below meth c ls hx hb hr hml hts hown hlocks hin hB hl => ?_)
  have hl : lv_has ls 1 [(0, .ref (a 5))] := hl
  have hown : s.vm.findClass RX2 = some m.cls := hown
  obtain ⟨hP, hK⟩ := hB
  rw [f_X2_size] at h
  refine lv_aload_n hx hb dX2_size_0 rfl (lv_at hl 0 rfl) ?_
  refine z_get (C := RX2) (T := TX2) (N := 3) (ci := 1) hx hb hts zin_X2 hown hK.1 hP 0 2 rfl rfl (by decide) tw81 rfl rfl dX2_size_1 ?_
  exact zR_i hx hb hr hlocks dX2_size_4 h

def f_X7_count (k : Nat) (f : Nat → Int32) (hz : Int32) (pl : Int32) (p1 : Int32) : Option (Int32) :=
  if p1 = (0 : Int32) then
    zb1 (f_X5_cell k f (5 : Int32)) fun v1 =>
    some v1
  else
  if p1 = (1 : Int32) then
    zb1 (f_X5_cell k f (6 : Int32)) fun v2 =>
    some v2
  else
  if p1 = (2 : Int32) then
    zb1 (f_X5_cell k f (7 : Int32)) fun v3 =>
    some v3
  else
  if p1 = (3 : Int32) then
    zb1 (f_X5_cell k f (4 : Int32)) fun v4 =>
    some v4
  else
  if p1 = (4 : Int32) then
    zb1 (f_X5_blocksWith k f (5 : Int32) (1 : Int32)) fun v5 =>
    some v5
  else
  if p1 = (5 : Int32) then
    zb1 (f_X5_blocksWith k f (7 : Int32) (1 : Int32)) fun v6 =>
    zb1 (f_X1_uncutBlocks k f) fun v7 =>
    zl (v6 &&& v7) fun v8 =>
    some v8
  else
  if p1 = (6 : Int32) then
    zb1 (f_X1_quarriedWeight k f) fun v9 =>
    some v9
  else
  if p1 = (7 : Int32) then
    zb1 (f_X1_uncutWeight k f) fun v10 =>
    some v10
  else
  if p1 = (8 : Int32) then
    zb1 (f_X1_lostWeight k f) fun v11 =>
    some v11
  else
  if p1 = (9 : Int32) then
    zb1 (f_X5_blocksWith k f (5 : Int32) (3 : Int32)) fun v12 =>
    zb1 (f_X1_weightOf k f v12) fun v13 =>
    some v13
  else
  if p1 = (10 : Int32) then
    zb1 (f_X1_allInvoices k f) fun v14 =>
    some v14
  else
  if p1 = (11 : Int32) then
    zb1 (f_X5_cell k f (1 : Int32)) fun v15 =>
    some v15
  else
  if p1 = (12 : Int32) then
    zb1 (f_X5_cell k f (0 : Int32)) fun v16 =>
    some v16
  else
  if p1 = (13 : Int32) then
    zb1 (f_X5_cell k f (2 : Int32)) fun v17 =>
    zl (v17 + (100 : Int32)) fun v18 =>
    some v18
  else
  if p1 = (14 : Int32) then
    zb1 (f_X5_cell k f (3 : Int32)) fun v19 =>
    some v19
  else
  if p1 = (15 : Int32) then
    zb1 (f_X3_length k pl) fun v20 =>
    some v20
  else
  if p1 = (16 : Int32) then
    zb1 (f_X2_size k hz) fun v21 =>
    some v21
  else
    some (-2 : Int32)
set_option maxRecDepth 100000 in
set_option maxHeartbeats 4000000 in
theorem ct_X7_count (l : Launch) (D : va_G) (ct a : Nat → Nat) (f : Nat → Int32) (g : Nat → Nat → Int32) (nx : Int32) (hz : Int32) (sw : Nat → Nat → Int32) (fl : Nat → Int32) (sg : Nat → Int32) (pl : Int32) (pa : Int32) (pk : Int32) (pn : Nat → Int32) (pf : Int32) (pg : Int32) (p1 : Int32) (k : Nat) (r : Int32) (h : f_X7_count k f hz pl p1 = some r) : Met l yX7_count (Cond.code yX7_count cX7_count 2 (some .int) :: zT) ({ frames := 5, cells := 0, slots := 0, locals := 109 } : Room) (va_Pc [.ref (a 0), .int p1] (zPR D (zTys ct) (wX7 ct a f g nx hz sw fl sg pl pa pk pn pf pg))) (vp_Si (fun r' => r' = r)) 0 0 (fun _ => False) := by
  refine zMet (cc := cX7_count) (maxL := 2) (ret := (some .int)) (av := [.ref (a 0), .int p1]) (by decide) (Nat.le_of_ble_eq_true rfl) (fun p e s m below meth c ls hx hb hr hml hts hown hlocks hin hB hl => ?_)
  have hl : lv_has ls 2 [(0, .ref (a 0)), (1, .int p1)] := hl
  have hown : s.vm.findClass RX7 = some m.cls := hown
  obtain ⟨hP, hK⟩ := hB
  rw [f_X7_count] at h
  refine lv_iload_n hx hb dX7_count_0 rfl (lv_at hl 1 rfl) ?_
  refine o_sw h (fun q0 h => ?_) (fun q0 h => ?_)
  · refine lv_tableIn (off := (83 : Int)) (tgt := 84) hx hb dX7_count_1 (by rw [q0]; decide) (by rw [q0]; decide) (by rw [q0]; decide) (by decide) ?_
    refine lv_aload_n hx hb dX7_count_84 rfl (lv_at hl 0 rfl) ?_
    refine z_get (C := RX7) (T := TX7) (N := 6) (ci := 6) hx hb hts zin_X7 hown hK.1 hP 0 0 rfl rfl (by decide) tw133 rfl rfl dX7_count_85 ?_
    refine lv_iconst (v := (5 : Int32)) hx hb dX7_count_88 (by decide) ?_
    obtain ⟨v1, hc, h⟩ := zb1_s h
    refine zE_i (zrV (C := RX5) (As := [.int (5 : Int32)]) (rest := []) hx hb hml hown hts tw156 mv_X5_cell ⟨Nat.le_of_ble_eq_true rfl, Nat.le_of_ble_eq_true rfl⟩ rfl rfl (ct_X5_cell l D ct a f (5 : Int32) k v1 hc) (z_pv hK hP [3, 4] rfl 3 rfl rfl) hl.1 rfl rfl (Nat.le_of_ble_eq_true rfl) dX7_count_89 ⟨Nat.le_refl _, Nat.le_refl _⟩) ?_
    exact zR_i hx hb hr hlocks dX7_count_92 h
  refine o_sw h (fun q1 h => ?_) (fun q1 h => ?_)
  · refine lv_tableIn (off := (92 : Int)) (tgt := 93) hx hb dX7_count_1 (by rw [q1]; decide) (by rw [q1]; decide) (by rw [q1]; decide) (by decide) ?_
    refine lv_aload_n hx hb dX7_count_93 rfl (lv_at hl 0 rfl) ?_
    refine z_get (C := RX7) (T := TX7) (N := 6) (ci := 6) hx hb hts zin_X7 hown hK.1 hP 0 0 rfl rfl (by decide) tw133 rfl rfl dX7_count_94 ?_
    refine lv_bipush (v := (6 : Int32)) hx hb dX7_count_97 (by decide) ?_
    obtain ⟨v2, hc, h⟩ := zb1_s h
    refine zE_i (zrV (C := RX5) (As := [.int (6 : Int32)]) (rest := []) hx hb hml hown hts tw156 mv_X5_cell ⟨Nat.le_of_ble_eq_true rfl, Nat.le_of_ble_eq_true rfl⟩ rfl rfl (ct_X5_cell l D ct a f (6 : Int32) k v2 hc) (z_pv hK hP [3, 4] rfl 3 rfl rfl) hl.1 rfl rfl (Nat.le_of_ble_eq_true rfl) dX7_count_99 ⟨Nat.le_refl _, Nat.le_refl _⟩) ?_
    exact zR_i hx hb hr hlocks dX7_count_102 h
  refine o_sw h (fun q2 h => ?_) (fun q2 h => ?_)
  · refine lv_tableIn (off := (102 : Int)) (tgt := 103) hx hb dX7_count_1 (by rw [q2]; decide) (by rw [q2]; decide) (by rw [q2]; decide) (by decide) ?_
    refine lv_aload_n hx hb dX7_count_103 rfl (lv_at hl 0 rfl) ?_
    refine z_get (C := RX7) (T := TX7) (N := 6) (ci := 6) hx hb hts zin_X7 hown hK.1 hP 0 0 rfl rfl (by decide) tw133 rfl rfl dX7_count_104 ?_
    refine lv_bipush (v := (7 : Int32)) hx hb dX7_count_107 (by decide) ?_
    obtain ⟨v3, hc, h⟩ := zb1_s h
    refine zE_i (zrV (C := RX5) (As := [.int (7 : Int32)]) (rest := []) hx hb hml hown hts tw156 mv_X5_cell ⟨Nat.le_of_ble_eq_true rfl, Nat.le_of_ble_eq_true rfl⟩ rfl rfl (ct_X5_cell l D ct a f (7 : Int32) k v3 hc) (z_pv hK hP [3, 4] rfl 3 rfl rfl) hl.1 rfl rfl (Nat.le_of_ble_eq_true rfl) dX7_count_109 ⟨Nat.le_refl _, Nat.le_refl _⟩) ?_
    exact zR_i hx hb hr hlocks dX7_count_112 h
  refine o_sw h (fun q3 h => ?_) (fun q3 h => ?_)
  · refine lv_tableIn (off := (112 : Int)) (tgt := 113) hx hb dX7_count_1 (by rw [q3]; decide) (by rw [q3]; decide) (by rw [q3]; decide) (by decide) ?_
    refine lv_aload_n hx hb dX7_count_113 rfl (lv_at hl 0 rfl) ?_
    refine z_get (C := RX7) (T := TX7) (N := 6) (ci := 6) hx hb hts zin_X7 hown hK.1 hP 0 0 rfl rfl (by decide) tw133 rfl rfl dX7_count_114 ?_
    refine lv_iconst (v := (4 : Int32)) hx hb dX7_count_117 (by decide) ?_
    obtain ⟨v4, hc, h⟩ := zb1_s h
    refine zE_i (zrV (C := RX5) (As := [.int (4 : Int32)]) (rest := []) hx hb hml hown hts tw156 mv_X5_cell ⟨Nat.le_of_ble_eq_true rfl, Nat.le_of_ble_eq_true rfl⟩ rfl rfl (ct_X5_cell l D ct a f (4 : Int32) k v4 hc) (z_pv hK hP [3, 4] rfl 3 rfl rfl) hl.1 rfl rfl (Nat.le_of_ble_eq_true rfl) dX7_count_118 ⟨Nat.le_refl _, Nat.le_refl _⟩) ?_
    exact zR_i hx hb hr hlocks dX7_count_121 h
  refine o_sw h (fun q4 h => ?_) (fun q4 h => ?_)
  · refine lv_tableIn (off := (121 : Int)) (tgt := 122) hx hb dX7_count_1 (by rw [q4]; decide) (by rw [q4]; decide) (by rw [q4]; decide) (by decide) ?_
    refine lv_aload_n hx hb dX7_count_122 rfl (lv_at hl 0 rfl) ?_
    refine z_get (C := RX7) (T := TX7) (N := 6) (ci := 6) hx hb hts zin_X7 hown hK.1 hP 0 0 rfl rfl (by decide) tw133 rfl rfl dX7_count_123 ?_
    refine lv_iconst (v := (5 : Int32)) hx hb dX7_count_126 (by decide) ?_
    refine lv_iconst (v := (1 : Int32)) hx hb dX7_count_127 (by decide) ?_
    obtain ⟨v5, hc, h⟩ := zb1_s h
    refine zE_i (zrV (C := RX5) (As := [.int (5 : Int32), .int (1 : Int32)]) (rest := []) hx hb hml hown hts tw160 mv_X5_blocksWith ⟨Nat.le_of_ble_eq_true rfl, Nat.le_of_ble_eq_true rfl⟩ rfl rfl (ct_X5_blocksWith l D ct a f (5 : Int32) (1 : Int32) k v5 hc) (z_pv hK hP [3, 4] rfl 3 rfl rfl) hl.1 rfl rfl (Nat.le_of_ble_eq_true rfl) dX7_count_128 ⟨Nat.le_refl _, Nat.le_refl _⟩) ?_
    exact zR_i hx hb hr hlocks dX7_count_131 h
  refine o_sw h (fun q5 h => ?_) (fun q5 h => ?_)
  · refine lv_tableIn (off := (131 : Int)) (tgt := 132) hx hb dX7_count_1 (by rw [q5]; decide) (by rw [q5]; decide) (by rw [q5]; decide) (by decide) ?_
    refine lv_aload_n hx hb dX7_count_132 rfl (lv_at hl 0 rfl) ?_
    refine z_get (C := RX7) (T := TX7) (N := 6) (ci := 6) hx hb hts zin_X7 hown hK.1 hP 0 0 rfl rfl (by decide) tw133 rfl rfl dX7_count_133 ?_
    refine lv_bipush (v := (7 : Int32)) hx hb dX7_count_136 (by decide) ?_
    refine lv_iconst (v := (1 : Int32)) hx hb dX7_count_138 (by decide) ?_
    obtain ⟨v6, hc, h⟩ := zb1_s h
    refine zE_i (zrV (C := RX5) (As := [.int (7 : Int32), .int (1 : Int32)]) (rest := []) hx hb hml hown hts tw160 mv_X5_blocksWith ⟨Nat.le_of_ble_eq_true rfl, Nat.le_of_ble_eq_true rfl⟩ rfl rfl (ct_X5_blocksWith l D ct a f (7 : Int32) (1 : Int32) k v6 hc) (z_pv hK hP [3, 4] rfl 3 rfl rfl) hl.1 rfl rfl (Nat.le_of_ble_eq_true rfl) dX7_count_139 ⟨Nat.le_refl _, Nat.le_refl _⟩) ?_
    refine lv_aload_n hx hb dX7_count_142 rfl (lv_at hl 0 rfl) ?_
    refine z_get (C := RX7) (T := TX7) (N := 6) (ci := 6) hx hb hts zin_X7 hown hK.1 hP 0 1 rfl rfl (by decide) tw134 rfl rfl dX7_count_143 ?_
    obtain ⟨v7, hc, h⟩ := zb1_s h
    refine zE_i (zrV (C := RX1) (As := []) (rest := [.int v6]) hx hb hml hown hts tw169 mv_X1_uncutBlocks ⟨Nat.le_of_ble_eq_true rfl, Nat.le_of_ble_eq_true rfl⟩ rfl rfl (ct_X1_uncutBlocks l D ct a f k v7 hc) (z_pv hK hP [2, 3, 4] rfl 2 rfl rfl) hl.1 rfl rfl (Nat.le_of_ble_eq_true rfl) dX7_count_146 ⟨Nat.le_refl _, Nat.le_refl _⟩) ?_
    refine o_iand hx hb dX7_count_149 h (fun v8 h => ?_)
    exact zR_i hx hb hr hlocks dX7_count_150 h
  refine o_sw h (fun q6 h => ?_) (fun q6 h => ?_)
  · refine lv_tableIn (off := (150 : Int)) (tgt := 151) hx hb dX7_count_1 (by rw [q6]; decide) (by rw [q6]; decide) (by rw [q6]; decide) (by decide) ?_
    refine lv_aload_n hx hb dX7_count_151 rfl (lv_at hl 0 rfl) ?_
    refine z_get (C := RX7) (T := TX7) (N := 6) (ci := 6) hx hb hts zin_X7 hown hK.1 hP 0 1 rfl rfl (by decide) tw134 rfl rfl dX7_count_152 ?_
    obtain ⟨v9, hc, h⟩ := zb1_s h
    refine zE_i (zrV (C := RX1) (As := []) (rest := []) hx hb hml hown hts tw175 mv_X1_quarriedWeight ⟨Nat.le_of_ble_eq_true rfl, Nat.le_of_ble_eq_true rfl⟩ rfl rfl (ct_X1_quarriedWeight l D ct a f k v9 hc) (z_pv hK hP [2, 3, 4] rfl 2 rfl rfl) hl.1 rfl rfl (Nat.le_of_ble_eq_true rfl) dX7_count_155 ⟨Nat.le_refl _, Nat.le_refl _⟩) ?_
    exact zR_i hx hb hr hlocks dX7_count_158 h
  refine o_sw h (fun q7 h => ?_) (fun q7 h => ?_)
  · refine lv_tableIn (off := (158 : Int)) (tgt := 159) hx hb dX7_count_1 (by rw [q7]; decide) (by rw [q7]; decide) (by rw [q7]; decide) (by decide) ?_
    refine lv_aload_n hx hb dX7_count_159 rfl (lv_at hl 0 rfl) ?_
    refine z_get (C := RX7) (T := TX7) (N := 6) (ci := 6) hx hb hts zin_X7 hown hK.1 hP 0 1 rfl rfl (by decide) tw134 rfl rfl dX7_count_160 ?_
    obtain ⟨v10, hc, h⟩ := zb1_s h
    refine zE_i (zrV (C := RX1) (As := []) (rest := []) hx hb hml hown hts tw184 mv_X1_uncutWeight ⟨Nat.le_of_ble_eq_true rfl, Nat.le_of_ble_eq_true rfl⟩ rfl rfl (ct_X1_uncutWeight l D ct a f k v10 hc) (z_pv hK hP [2, 3, 4] rfl 2 rfl rfl) hl.1 rfl rfl (Nat.le_of_ble_eq_true rfl) dX7_count_163 ⟨Nat.le_refl _, Nat.le_refl _⟩) ?_
    exact zR_i hx hb hr hlocks dX7_count_166 h
  refine o_sw h (fun q8 h => ?_) (fun q8 h => ?_)
  · refine lv_tableIn (off := (166 : Int)) (tgt := 167) hx hb dX7_count_1 (by rw [q8]; decide) (by rw [q8]; decide) (by rw [q8]; decide) (by decide) ?_
    refine lv_aload_n hx hb dX7_count_167 rfl (lv_at hl 0 rfl) ?_
    refine z_get (C := RX7) (T := TX7) (N := 6) (ci := 6) hx hb hts zin_X7 hown hK.1 hP 0 1 rfl rfl (by decide) tw134 rfl rfl dX7_count_168 ?_
    obtain ⟨v11, hc, h⟩ := zb1_s h
    refine zE_i (zrV (C := RX1) (As := []) (rest := []) hx hb hml hown hts tw189 mv_X1_lostWeight ⟨Nat.le_of_ble_eq_true rfl, Nat.le_of_ble_eq_true rfl⟩ rfl rfl (ct_X1_lostWeight l D ct a f k v11 hc) (z_pv hK hP [2, 3, 4] rfl 2 rfl rfl) hl.1 rfl rfl (Nat.le_of_ble_eq_true rfl) dX7_count_171 ⟨Nat.le_refl _, Nat.le_refl _⟩) ?_
    exact zR_i hx hb hr hlocks dX7_count_174 h
  refine o_sw h (fun q9 h => ?_) (fun q9 h => ?_)
  · refine lv_tableIn (off := (174 : Int)) (tgt := 175) hx hb dX7_count_1 (by rw [q9]; decide) (by rw [q9]; decide) (by rw [q9]; decide) (by decide) ?_
    refine lv_aload_n hx hb dX7_count_175 rfl (lv_at hl 0 rfl) ?_
    refine z_get (C := RX7) (T := TX7) (N := 6) (ci := 6) hx hb hts zin_X7 hown hK.1 hP 0 1 rfl rfl (by decide) tw134 rfl rfl dX7_count_176 ?_
    refine lv_aload_n hx hb dX7_count_179 rfl (lv_at hl 0 rfl) ?_
    refine z_get (C := RX7) (T := TX7) (N := 6) (ci := 6) hx hb hts zin_X7 hown hK.1 hP 0 0 rfl rfl (by decide) tw133 rfl rfl dX7_count_180 ?_
    refine lv_iconst (v := (5 : Int32)) hx hb dX7_count_183 (by decide) ?_
    refine lv_iconst (v := (3 : Int32)) hx hb dX7_count_184 (by decide) ?_
    obtain ⟨v12, hc, h⟩ := zb1_s h
    refine zE_i (zrV (C := RX5) (As := [.int (5 : Int32), .int (3 : Int32)]) (rest := [.ref (a 2)]) hx hb hml hown hts tw160 mv_X5_blocksWith ⟨Nat.le_of_ble_eq_true rfl, Nat.le_of_ble_eq_true rfl⟩ rfl rfl (ct_X5_blocksWith l D ct a f (5 : Int32) (3 : Int32) k v12 hc) (z_pv hK hP [3, 4] rfl 3 rfl rfl) hl.1 rfl rfl (Nat.le_of_ble_eq_true rfl) dX7_count_185 ⟨Nat.le_refl _, Nat.le_refl _⟩) ?_
    obtain ⟨v13, hc, h⟩ := zb1_s h
    refine zE_i (zrV (C := RX1) (As := [.int v12]) (rest := []) hx hb hml hown hts tw195 mv_X1_weightOf ⟨Nat.le_of_ble_eq_true rfl, Nat.le_of_ble_eq_true rfl⟩ rfl rfl (ct_X1_weightOf l D ct a f v12 k v13 hc) (z_pv hK hP [2, 3, 4] rfl 2 rfl rfl) hl.1 rfl rfl (Nat.le_of_ble_eq_true rfl) dX7_count_188 ⟨Nat.le_refl _, Nat.le_refl _⟩) ?_
    exact zR_i hx hb hr hlocks dX7_count_191 h
  refine o_sw h (fun q10 h => ?_) (fun q10 h => ?_)
  · refine lv_tableIn (off := (191 : Int)) (tgt := 192) hx hb dX7_count_1 (by rw [q10]; decide) (by rw [q10]; decide) (by rw [q10]; decide) (by decide) ?_
    refine lv_aload_n hx hb dX7_count_192 rfl (lv_at hl 0 rfl) ?_
    refine z_get (C := RX7) (T := TX7) (N := 6) (ci := 6) hx hb hts zin_X7 hown hK.1 hP 0 1 rfl rfl (by decide) tw134 rfl rfl dX7_count_193 ?_
    obtain ⟨v14, hc, h⟩ := zb1_s h
    refine zE_i (zrV (C := RX1) (As := []) (rest := []) hx hb hml hown hts tw196 mv_X1_allInvoices ⟨Nat.le_of_ble_eq_true rfl, Nat.le_of_ble_eq_true rfl⟩ rfl rfl (ct_X1_allInvoices l D ct a f k v14 hc) (z_pv hK hP [2, 3, 4] rfl 2 rfl rfl) hl.1 rfl rfl (Nat.le_of_ble_eq_true rfl) dX7_count_196 ⟨Nat.le_refl _, Nat.le_refl _⟩) ?_
    exact zR_i hx hb hr hlocks dX7_count_199 h
  refine o_sw h (fun q11 h => ?_) (fun q11 h => ?_)
  · refine lv_tableIn (off := (199 : Int)) (tgt := 200) hx hb dX7_count_1 (by rw [q11]; decide) (by rw [q11]; decide) (by rw [q11]; decide) (by decide) ?_
    refine lv_aload_n hx hb dX7_count_200 rfl (lv_at hl 0 rfl) ?_
    refine z_get (C := RX7) (T := TX7) (N := 6) (ci := 6) hx hb hts zin_X7 hown hK.1 hP 0 0 rfl rfl (by decide) tw133 rfl rfl dX7_count_201 ?_
    refine lv_iconst (v := (1 : Int32)) hx hb dX7_count_204 (by decide) ?_
    obtain ⟨v15, hc, h⟩ := zb1_s h
    refine zE_i (zrV (C := RX5) (As := [.int (1 : Int32)]) (rest := []) hx hb hml hown hts tw156 mv_X5_cell ⟨Nat.le_of_ble_eq_true rfl, Nat.le_of_ble_eq_true rfl⟩ rfl rfl (ct_X5_cell l D ct a f (1 : Int32) k v15 hc) (z_pv hK hP [3, 4] rfl 3 rfl rfl) hl.1 rfl rfl (Nat.le_of_ble_eq_true rfl) dX7_count_205 ⟨Nat.le_refl _, Nat.le_refl _⟩) ?_
    exact zR_i hx hb hr hlocks dX7_count_208 h
  refine o_sw h (fun q12 h => ?_) (fun q12 h => ?_)
  · refine lv_tableIn (off := (208 : Int)) (tgt := 209) hx hb dX7_count_1 (by rw [q12]; decide) (by rw [q12]; decide) (by rw [q12]; decide) (by decide) ?_
    refine lv_aload_n hx hb dX7_count_209 rfl (lv_at hl 0 rfl) ?_
    refine z_get (C := RX7) (T := TX7) (N := 6) (ci := 6) hx hb hts zin_X7 hown hK.1 hP 0 0 rfl rfl (by decide) tw133 rfl rfl dX7_count_210 ?_
    refine lv_iconst (v := (0 : Int32)) hx hb dX7_count_213 (by decide) ?_
    obtain ⟨v16, hc, h⟩ := zb1_s h
    refine zE_i (zrV (C := RX5) (As := [.int (0 : Int32)]) (rest := []) hx hb hml hown hts tw156 mv_X5_cell ⟨Nat.le_of_ble_eq_true rfl, Nat.le_of_ble_eq_true rfl⟩ rfl rfl (ct_X5_cell l D ct a f (0 : Int32) k v16 hc) (z_pv hK hP [3, 4] rfl 3 rfl rfl) hl.1 rfl rfl (Nat.le_of_ble_eq_true rfl) dX7_count_214 ⟨Nat.le_refl _, Nat.le_refl _⟩) ?_
    exact zR_i hx hb hr hlocks dX7_count_217 h
  refine o_sw h (fun q13 h => ?_) (fun q13 h => ?_)
  · refine lv_tableIn (off := (217 : Int)) (tgt := 218) hx hb dX7_count_1 (by rw [q13]; decide) (by rw [q13]; decide) (by rw [q13]; decide) (by decide) ?_
    refine lv_aload_n hx hb dX7_count_218 rfl (lv_at hl 0 rfl) ?_
    refine z_get (C := RX7) (T := TX7) (N := 6) (ci := 6) hx hb hts zin_X7 hown hK.1 hP 0 0 rfl rfl (by decide) tw133 rfl rfl dX7_count_219 ?_
    refine lv_iconst (v := (2 : Int32)) hx hb dX7_count_222 (by decide) ?_
    obtain ⟨v17, hc, h⟩ := zb1_s h
    refine zE_i (zrV (C := RX5) (As := [.int (2 : Int32)]) (rest := []) hx hb hml hown hts tw156 mv_X5_cell ⟨Nat.le_of_ble_eq_true rfl, Nat.le_of_ble_eq_true rfl⟩ rfl rfl (ct_X5_cell l D ct a f (2 : Int32) k v17 hc) (z_pv hK hP [3, 4] rfl 3 rfl rfl) hl.1 rfl rfl (Nat.le_of_ble_eq_true rfl) dX7_count_223 ⟨Nat.le_refl _, Nat.le_refl _⟩) ?_
    refine lv_bipush (v := (100 : Int32)) hx hb dX7_count_226 (by decide) ?_
    refine o_iadd hx hb dX7_count_228 h (fun v18 h => ?_)
    exact zR_i hx hb hr hlocks dX7_count_229 h
  refine o_sw h (fun q14 h => ?_) (fun q14 h => ?_)
  · refine lv_tableIn (off := (229 : Int)) (tgt := 230) hx hb dX7_count_1 (by rw [q14]; decide) (by rw [q14]; decide) (by rw [q14]; decide) (by decide) ?_
    refine lv_aload_n hx hb dX7_count_230 rfl (lv_at hl 0 rfl) ?_
    refine z_get (C := RX7) (T := TX7) (N := 6) (ci := 6) hx hb hts zin_X7 hown hK.1 hP 0 0 rfl rfl (by decide) tw133 rfl rfl dX7_count_231 ?_
    refine lv_iconst (v := (3 : Int32)) hx hb dX7_count_234 (by decide) ?_
    obtain ⟨v19, hc, h⟩ := zb1_s h
    refine zE_i (zrV (C := RX5) (As := [.int (3 : Int32)]) (rest := []) hx hb hml hown hts tw156 mv_X5_cell ⟨Nat.le_of_ble_eq_true rfl, Nat.le_of_ble_eq_true rfl⟩ rfl rfl (ct_X5_cell l D ct a f (3 : Int32) k v19 hc) (z_pv hK hP [3, 4] rfl 3 rfl rfl) hl.1 rfl rfl (Nat.le_of_ble_eq_true rfl) dX7_count_235 ⟨Nat.le_refl _, Nat.le_refl _⟩) ?_
    exact zR_i hx hb hr hlocks dX7_count_238 h
  refine o_sw h (fun q15 h => ?_) (fun q15 h => ?_)
  · refine lv_tableIn (off := (238 : Int)) (tgt := 239) hx hb dX7_count_1 (by rw [q15]; decide) (by rw [q15]; decide) (by rw [q15]; decide) (by decide) ?_
    refine lv_aload_n hx hb dX7_count_239 rfl (lv_at hl 0 rfl) ?_
    refine z_get (C := RX7) (T := TX7) (N := 6) (ci := 6) hx hb hts zin_X7 hown hK.1 hP 0 5 rfl rfl (by decide) tw138 rfl rfl dX7_count_240 ?_
    obtain ⟨v20, hc, h⟩ := zb1_s h
    refine zE_i (zrV (C := RX3) (As := []) (rest := []) hx hb hml hown hts tw204 mv_X3_length ⟨Nat.le_of_ble_eq_true rfl, Nat.le_of_ble_eq_true rfl⟩ rfl rfl (ct_X3_length l D ct a sg pl pa pk pn pf pg k v20 hc) (z_pv hK hP [19, 20, 21] rfl 19 rfl rfl) hl.1 rfl rfl (Nat.le_of_ble_eq_true rfl) dX7_count_243 ⟨Nat.le_refl _, Nat.le_refl _⟩) ?_
    exact zR_i hx hb hr hlocks dX7_count_246 h
  refine o_sw h (fun q16 h => ?_) (fun q16 h => ?_)
  · refine lv_tableIn (off := (246 : Int)) (tgt := 247) hx hb dX7_count_1 (by rw [q16]; decide) (by rw [q16]; decide) (by rw [q16]; decide) (by decide) ?_
    refine lv_aload_n hx hb dX7_count_247 rfl (lv_at hl 0 rfl) ?_
    refine z_get (C := RX7) (T := TX7) (N := 6) (ci := 6) hx hb hts zin_X7 hown hK.1 hP 0 3 rfl rfl (by decide) tw136 rfl rfl dX7_count_248 ?_
    obtain ⟨v21, hc, h⟩ := zb1_s h
    refine zE_i (zrV (C := RX2) (As := []) (rest := []) hx hb hml hown hts tw208 mv_X2_size ⟨Nat.le_of_ble_eq_true rfl, Nat.le_of_ble_eq_true rfl⟩ rfl rfl (ct_X2_size l D ct a g nx hz k v21 hc) (z_pv hK hP [5, 6, 7, 8, 9, 10, 11, 12, 13] rfl 5 rfl rfl) hl.1 rfl rfl (Nat.le_of_ble_eq_true rfl) dX7_count_251 ⟨Nat.le_refl _, Nat.le_refl _⟩) ?_
    exact zR_i hx hb hr hlocks dX7_count_254 h
  · refine lv_tableOut (tgt := 255) hx hb dX7_count_1 (by have w0 := lv_neT (a := 0) q0 rfl; have w1 := lv_neT (a := 1) q1 rfl; have w2 := lv_neT (a := 2) q2 rfl; have w3 := lv_neT (a := 3) q3 rfl; have w4 := lv_neT (a := 4) q4 rfl; have w5 := lv_neT (a := 5) q5 rfl; have w6 := lv_neT (a := 6) q6 rfl; have w7 := lv_neT (a := 7) q7 rfl; have w8 := lv_neT (a := 8) q8 rfl; have w9 := lv_neT (a := 9) q9 rfl; have w10 := lv_neT (a := 10) q10 rfl; have w11 := lv_neT (a := 11) q11 rfl; have w12 := lv_neT (a := 12) q12 rfl; have w13 := lv_neT (a := 13) q13 rfl; have w14 := lv_neT (a := 14) q14 rfl; have w15 := lv_neT (a := 15) q15 rfl; have w16 := lv_neT (a := 16) q16 rfl; omega) (by decide) ?_
    refine lv_bipush (v := (-2 : Int32)) hx hb dX7_count_255 (by decide) ?_
    exact zR_i hx hb hr hlocks dX7_count_257 h

def f_X0_ofDouble_b85 (k : Nat) (p1 : UInt64)  (x2 : UInt64) (x4 : Int64) : Option (Int64) :=
  zl (x4 <<< ((52 : Int32).toInt64 &&& 63)) fun v2 =>
  zg (z64 (FP.dsub x2 FP.dconst1)) (zl (FP.dsub x2 FP.dconst1) fun v3 =>
  zg (z64 (FP.dmul v3 (4841369599423283200 : UInt64))) (zl (FP.dmul v3 (4841369599423283200 : UInt64)) fun v4 =>
  zl (FP.d2l v4) fun v5 =>
  zl (v2 ||| v5) fun v6 =>
  some v6))
def f_X0_ofDouble_b54 (k : Nat) (p1 : UInt64)  : Nat → UInt64 → Int64 → Int32 → Option (Int64)
  | 0, _, _, _ => none
  | n + 1, x2, x4, x6 =>
    if (100 : Int32) ≤ x6 then
      f_X0_ofDouble_b85 k p1 x2 x4
    else
      zl (Op.cmpValue (FP.dcmp x2 FP.dconst1) CmpOp.g) fun v7 =>
      if 0 ≤ v7 then
        f_X0_ofDouble_b85 k p1 x2 x4
      else
        zg (z64 (FP.dmul x2 (4611686018427387904 : UInt64))) (zl (FP.dmul x2 (4611686018427387904 : UInt64)) fun v8 =>
        zl (x4 - (1 : Int64)) fun v9 =>
        zl (x6 + (1 : Int32)) fun v10 =>
        f_X0_ofDouble_b54 k p1 n v8 v9 v10)
def f_X0_ofDouble_b18 (k : Nat) (p1 : UInt64)  : Nat → UInt64 → Int64 → Int32 → Option (Int64)
  | 0, _, _, _ => none
  | n + 1, x2, x4, x6 =>
    if (100 : Int32) ≤ x6 then
      f_X0_ofDouble_b54 k p1 k x2 x4 (0 : Int32)
    else
      zl (Op.cmpValue (FP.dcmp x2 (4611686018427387904 : UInt64)) CmpOp.l) fun v11 =>
      if v11 < 0 then
        f_X0_ofDouble_b54 k p1 k x2 x4 (0 : Int32)
      else
        zg (z64 (FP.ddiv x2 (4611686018427387904 : UInt64))) (zl (FP.ddiv x2 (4611686018427387904 : UInt64)) fun v12 =>
        zl (x4 + (1 : Int64)) fun v13 =>
        zl (x6 + (1 : Int32)) fun v14 =>
        f_X0_ofDouble_b18 k p1 n v12 v13 v14)
def f_X0_ofDouble (k : Nat) (p1 : UInt64) : Option (Int64) :=
  zl (Op.cmpValue (FP.dcmp p1 FP.dconst0) CmpOp.g) fun v1 =>
  if 0 < v1 then
    f_X0_ofDouble_b18 k p1 k p1 (1023 : Int64) (0 : Int32)
  else
    some (0 : Int64)
set_option maxRecDepth 100000 in
set_option maxHeartbeats 4000000 in
theorem ct_X0_ofDouble (l : Launch) (p1 : UInt64) (k : Nat) (r : Int64) (h : f_X0_ofDouble k p1 = some r) : Met l yX0_ofDouble (Cond.code yX0_ofDouble cX0_ofDouble 7 (some .long) :: zT) ({ frames := 0, cells := 0, slots := 0, locals := 0 } : Room) (va_Pc [.double p1] (fun _ => True)) (vp_Sl (fun r' => r' = r)) 0 0 (fun _ => False) := by
  refine zMet (cc := cX0_ofDouble) (maxL := 7) (ret := (some .long)) (av := [.double p1]) (by decide) (Nat.le_of_ble_eq_true rfl) (fun p e s m below meth c ls hx hb hr hml hts hown hlocks hin hB hl => ?_)
  have hl : lv_has ls 7 [(0, .double p1)] := hl
  have hown : s.vm.findClass RX0 = some m.cls := hown
  have B85 : ∀ (x2 : UInt64) (x4 : Int64), f_X0_ofDouble_b85 k p1 x2 x4 = some r → ∀ (ls : Array Slot), lv_has ls 7 [(2, .double x2), (4, .long x4)] → W p l e ({ frames := 0, cells := 0, slots := 0, locals := 0 } : Room) s m ([.double p1] : List Value).toArray below meth c s.heap [] 0 0 (MQ below (vp_Sl (fun r' => r' = r)) ([.double p1] : List Value).toArray s 0 0 (fun _ => False)) (F0 m 85 ls []) := by
    intro x2 x4 h ls hl
    rw [f_X0_ofDouble_b85] at h
    refine lv_lload hx hb dX0_ofDouble_85 (lv_at hl 1 rfl) ?_
    refine lv_bipush (v := (52 : Int32)) hx hb dX0_ofDouble_87 (by decide) ?_
    refine o_lshl hx hb dX0_ofDouble_89 h (fun v2 h => ?_)
    refine lv_dload_n hx hb dX0_ofDouble_90 rfl (lv_at hl 0 rfl) ?_
    refine lv_dconst1 hx hb dX0_ofDouble_91 ?_
    refine o_dsub hx hb dX0_ofDouble_92 h (fun v3 h => ?_)
    refine lv_ldc2d (v := (4841369599423283200 : UInt64)) hx hb hown (hts _ (List.mem_cons_of_mem _ tw227)) dX0_ofDouble_93 ?_
    refine o_dmul hx hb dX0_ofDouble_96 h (fun v4 h => ?_)
    refine o_d2l hx hb dX0_ofDouble_97 h (fun v5 h => ?_)
    refine o_lor hx hb dX0_ofDouble_98 h (fun v6 h => ?_)
    exact zR_l hx hb hr hlocks dX0_ofDouble_99 h
  have B54 : ∀ (n : Nat), ∀ (x2 : UInt64) (x4 : Int64) (x6 : Int32), f_X0_ofDouble_b54 k p1 n x2 x4 x6 = some r → ∀ (ls : Array Slot), lv_has ls 7 [(2, .double x2), (4, .long x4), (6, .int x6)] → W p l e ({ frames := 0, cells := 0, slots := 0, locals := 0 } : Room) s m ([.double p1] : List Value).toArray below meth c s.heap [] 0 0 (MQ below (vp_Sl (fun r' => r' = r)) ([.double p1] : List Value).toArray s 0 0 (fun _ => False)) (F0 m 54 ls []) := by
    intro n
    induction n with
    | zero => intro x2 x4 x6 h; exact absurd h (by rw [f_X0_ofDouble_b54]; exact fun q => nomatch q)
    | succ n ih54 =>
      intro x2 x4 x6 h ls hl
      rw [f_X0_ofDouble_b54] at h
      refine lv_iload hx hb dX0_ofDouble_54 (lv_at hl 2 rfl) ?_
      refine lv_bipush (v := (100 : Int32)) hx hb dX0_ofDouble_56 (by decide) ?_
      refine zc_ge (tgt := 85) hx hb dX0_ofDouble_58 (by decide) h (fun h => ?_) (fun h => ?_)
      · exact B85 x2 x4 h ls (lv_sub hl [0, 1] rfl)
      · refine lv_dload_n hx hb dX0_ofDouble_61 rfl (lv_at hl 0 rfl) ?_
        refine lv_dconst1 hx hb dX0_ofDouble_62 ?_
        refine o_dcmp hx hb dX0_ofDouble_63 h (fun v7 h => ?_)
        refine zi_ge (tgt := 85) hx hb dX0_ofDouble_64 (by decide) h (fun h => ?_) (fun h => ?_)
        · exact B85 x2 x4 h ls (lv_sub hl [0, 1] rfl)
        · refine lv_dload_n hx hb dX0_ofDouble_67 rfl (lv_at hl 0 rfl) ?_
          refine lv_ldc2d (v := (4611686018427387904 : UInt64)) hx hb hown (hts _ (List.mem_cons_of_mem _ tw226)) dX0_ofDouble_68 ?_
          refine o_dmul hx hb dX0_ofDouble_71 h (fun v8 h => ?_)
          refine lv_dstore_n (lv' := [(2, .double v8), (4, .long x4), (6, .int x6)]) hx hb dX0_ofDouble_72 rfl hl (by decide) rfl (fun ls hl => ?_)
          refine lv_lload hx hb dX0_ofDouble_73 (lv_at hl 1 rfl) ?_
          refine lv_lconst (v := (1 : Int64)) hx hb dX0_ofDouble_75 (by decide) ?_
          refine o_lsub hx hb dX0_ofDouble_76 h (fun v9 h => ?_)
          refine lv_lstore (lv' := [(4, .long v9), (2, .double v8), (6, .int x6)]) hx hb dX0_ofDouble_77 hl (by decide) rfl (fun ls hl => ?_)
          refine o_nm h (fun v10 ey h => ?_)
          refine lv_iinc (v := v10) (lv' := [(6, .int v10), (4, .long v9), (2, .double v8)]) hx hb dX0_ofDouble_79 hl (k := 2) rfl (Eq.trans rfl ey) (by decide) rfl (fun ls hl => ?_)
          refine lv_goto (tgt := 54) hx hb dX0_ofDouble_82 (by decide) ?_
          exact ih54 v8 v9 v10 h ls (lv_sub hl [2, 1, 0] rfl)
  have B18 : ∀ (n : Nat), ∀ (x2 : UInt64) (x4 : Int64) (x6 : Int32), f_X0_ofDouble_b18 k p1 n x2 x4 x6 = some r → ∀ (ls : Array Slot), lv_has ls 7 [(2, .double x2), (4, .long x4), (6, .int x6)] → W p l e ({ frames := 0, cells := 0, slots := 0, locals := 0 } : Room) s m ([.double p1] : List Value).toArray below meth c s.heap [] 0 0 (MQ below (vp_Sl (fun r' => r' = r)) ([.double p1] : List Value).toArray s 0 0 (fun _ => False)) (F0 m 18 ls []) := by
    intro n
    induction n with
    | zero => intro x2 x4 x6 h; exact absurd h (by rw [f_X0_ofDouble_b18]; exact fun q => nomatch q)
    | succ n ih18 =>
      intro x2 x4 x6 h ls hl
      rw [f_X0_ofDouble_b18] at h
      refine lv_iload hx hb dX0_ofDouble_18 (lv_at hl 2 rfl) ?_
      refine lv_bipush (v := (100 : Int32)) hx hb dX0_ofDouble_20 (by decide) ?_
      refine zc_ge (tgt := 51) hx hb dX0_ofDouble_22 (by decide) h (fun h => ?_) (fun h => ?_)
      · refine lv_iconst (v := (0 : Int32)) hx hb dX0_ofDouble_51 (by decide) ?_
        refine lv_istore (lv' := [(6, .int (0 : Int32)), (2, .double x2), (4, .long x4)]) hx hb dX0_ofDouble_52 hl (by decide) rfl (fun ls hl => ?_)
        exact B54 k x2 x4 (0 : Int32) h ls (lv_sub hl [1, 2, 0] rfl)
      · refine lv_dload_n hx hb dX0_ofDouble_25 rfl (lv_at hl 0 rfl) ?_
        refine lv_ldc2d (v := (4611686018427387904 : UInt64)) hx hb hown (hts _ (List.mem_cons_of_mem _ tw226)) dX0_ofDouble_26 ?_
        refine o_dcmp hx hb dX0_ofDouble_29 h (fun v11 h => ?_)
        refine zi_lt (tgt := 51) hx hb dX0_ofDouble_30 (by decide) h (fun h => ?_) (fun h => ?_)
        · refine lv_iconst (v := (0 : Int32)) hx hb dX0_ofDouble_51 (by decide) ?_
          refine lv_istore (lv' := [(6, .int (0 : Int32)), (2, .double x2), (4, .long x4)]) hx hb dX0_ofDouble_52 hl (by decide) rfl (fun ls hl => ?_)
          exact B54 k x2 x4 (0 : Int32) h ls (lv_sub hl [1, 2, 0] rfl)
        · refine lv_dload_n hx hb dX0_ofDouble_33 rfl (lv_at hl 0 rfl) ?_
          refine lv_ldc2d (v := (4611686018427387904 : UInt64)) hx hb hown (hts _ (List.mem_cons_of_mem _ tw226)) dX0_ofDouble_34 ?_
          refine o_ddiv hx hb dX0_ofDouble_37 h (fun v12 h => ?_)
          refine lv_dstore_n (lv' := [(2, .double v12), (4, .long x4), (6, .int x6)]) hx hb dX0_ofDouble_38 rfl hl (by decide) rfl (fun ls hl => ?_)
          refine lv_lload hx hb dX0_ofDouble_39 (lv_at hl 1 rfl) ?_
          refine lv_lconst (v := (1 : Int64)) hx hb dX0_ofDouble_41 (by decide) ?_
          refine o_ladd hx hb dX0_ofDouble_42 h (fun v13 h => ?_)
          refine lv_lstore (lv' := [(4, .long v13), (2, .double v12), (6, .int x6)]) hx hb dX0_ofDouble_43 hl (by decide) rfl (fun ls hl => ?_)
          refine o_nm h (fun v14 ey h => ?_)
          refine lv_iinc (v := v14) (lv' := [(6, .int v14), (4, .long v13), (2, .double v12)]) hx hb dX0_ofDouble_45 hl (k := 2) rfl (Eq.trans rfl ey) (by decide) rfl (fun ls hl => ?_)
          refine lv_goto (tgt := 18) hx hb dX0_ofDouble_48 (by decide) ?_
          exact ih18 v12 v13 v14 h ls (lv_sub hl [2, 1, 0] rfl)
  rw [f_X0_ofDouble] at h
  refine lv_dload_n hx hb dX0_ofDouble_0 rfl (lv_at hl 0 rfl) ?_
  refine lv_dconst0 hx hb dX0_ofDouble_1 ?_
  refine o_dcmp hx hb dX0_ofDouble_2 h (fun v1 h => ?_)
  refine zi_gt (tgt := 8) hx hb dX0_ofDouble_3 (by decide) h (fun h => ?_) (fun h => ?_)
  · refine lv_dload_n hx hb dX0_ofDouble_8 rfl (lv_at hl 0 rfl) ?_
    refine lv_dstore_n (lv' := [(2, .double p1), (0, .double p1)]) hx hb dX0_ofDouble_9 rfl hl (by decide) rfl (fun ls hl => ?_)
    refine lv_ldc2 (v := (1023 : Int64)) hx hb hown (hts _ (List.mem_cons_of_mem _ tw225)) dX0_ofDouble_10 ?_
    refine lv_lstore (lv' := [(4, .long (1023 : Int64)), (2, .double p1), (0, .double p1)]) hx hb dX0_ofDouble_13 hl (by decide) rfl (fun ls hl => ?_)
    refine lv_iconst (v := (0 : Int32)) hx hb dX0_ofDouble_15 (by decide) ?_
    refine lv_istore (lv' := [(6, .int (0 : Int32)), (4, .long (1023 : Int64)), (2, .double p1), (0, .double p1)]) hx hb dX0_ofDouble_16 hl (by decide) rfl (fun ls hl => ?_)
    exact B18 k p1 (1023 : Int64) (0 : Int32) h ls (lv_sub hl [2, 1, 0] rfl)
  · refine lv_lconst (v := (0 : Int64)) hx hb dX0_ofDouble_6 (by decide) ?_
    exact zR_l hx hb hr hlocks dX0_ofDouble_7 h

def f_X7_meanWeight (k : Nat) (f : Nat → Int32) : Option (Int64) :=
  zb1 (f_X1_uncutBlocks k f) fun v1 =>
  zb1 (f_J6_bitCount_0f7a4 k v1) fun v2 =>
  if v2 = 0 then
    some (0 : Int64)
  else
    zb1 (f_X1_uncutWeight k f) fun v3 =>
    zl (FP.i2d v3) fun v4 =>
    zl (FP.i2d v2) fun v5 =>
    zg (z64 (FP.ddiv v4 v5)) (zl (FP.ddiv v4 v5) fun v6 =>
    zb1 (f_X0_ofDouble k v6) fun v7 =>
    some v7)
set_option maxRecDepth 100000 in
set_option maxHeartbeats 4000000 in
theorem ct_X7_meanWeight (l : Launch) (D : va_G) (ct a : Nat → Nat) (f : Nat → Int32) (g : Nat → Nat → Int32) (nx : Int32) (hz : Int32) (sw : Nat → Nat → Int32) (fl : Nat → Int32) (sg : Nat → Int32) (pl : Int32) (pa : Int32) (pk : Int32) (pn : Nat → Int32) (pf : Int32) (pg : Int32) (k : Nat) (r : Int64) (h : f_X7_meanWeight k f = some r) : Met l yX7_meanWeight (Cond.code yX7_meanWeight cX7_meanWeight 2 (some .long) :: zT) ({ frames := 4, cells := 0, slots := 0, locals := 89 } : Room) (va_Pc [.ref (a 0)] (zPR D (zTys ct) (wX7 ct a f g nx hz sw fl sg pl pa pk pn pf pg))) (vp_Sl (fun r' => r' = r)) 0 0 (fun _ => False) := by
  refine zMet (cc := cX7_meanWeight) (maxL := 2) (ret := (some .long)) (av := [.ref (a 0)]) (by decide) (Nat.le_of_ble_eq_true rfl) (fun p e s m below meth c ls hx hb hr hml hts hown hlocks hin hB hl => ?_)
  have hl : lv_has ls 2 [(0, .ref (a 0))] := hl
  have hown : s.vm.findClass RX7 = some m.cls := hown
  obtain ⟨hP, hK⟩ := hB
  rw [f_X7_meanWeight] at h
  refine lv_aload_n hx hb dX7_meanWeight_0 rfl (lv_at hl 0 rfl) ?_
  refine z_get (C := RX7) (T := TX7) (N := 6) (ci := 6) hx hb hts zin_X7 hown hK.1 hP 0 1 rfl rfl (by decide) tw134 rfl rfl dX7_meanWeight_1 ?_
  obtain ⟨v1, hc, h⟩ := zb1_s h
  refine zE_i (zrV (C := RX1) (As := []) (rest := []) hx hb hml hown hts tw169 mv_X1_uncutBlocks ⟨Nat.le_of_ble_eq_true rfl, Nat.le_of_ble_eq_true rfl⟩ rfl rfl (ct_X1_uncutBlocks l D ct a f k v1 hc) (z_pv hK hP [2, 3, 4] rfl 2 rfl rfl) hl.1 rfl rfl (Nat.le_of_ble_eq_true rfl) dX7_meanWeight_4 ⟨Nat.le_refl _, Nat.le_refl _⟩) ?_
  obtain ⟨v2, hc, h⟩ := zb1_s h
  refine zE_i (zrS (As := [.int v1]) (rest := []) hx hb hml hown hts tw216 ms_J6_bitCount_0f7a4 ⟨Nat.le_of_ble_eq_true rfl, Nat.le_of_ble_eq_true rfl⟩ rfl rfl (ct_J6_bitCount_0f7a4 l v1 k v2 hc) z_p0 hl.1 rfl rfl (Nat.le_of_ble_eq_true rfl) dX7_meanWeight_7 ⟨Nat.le_refl _, Nat.le_refl _⟩) ?_
  refine lv_istore_n (lv' := [(1, .int v2), (0, .ref (a 0))]) hx hb dX7_meanWeight_10 rfl hl (by decide) rfl (fun ls hl => ?_)
  refine lv_iload_n hx hb dX7_meanWeight_11 rfl (lv_at hl 0 rfl) ?_
  refine zi_ne (tgt := 19) hx hb dX7_meanWeight_12 (by decide) h (fun h => ?_) (fun h => ?_)
  · refine lv_aload_n hx hb dX7_meanWeight_19 rfl (lv_at hl 1 rfl) ?_
    refine z_get (C := RX7) (T := TX7) (N := 6) (ci := 6) hx hb hts zin_X7 hown hK.1 hP 0 1 rfl rfl (by decide) tw134 rfl rfl dX7_meanWeight_20 ?_
    obtain ⟨v3, hc, h⟩ := zb1_s h
    refine zE_i (zrV (C := RX1) (As := []) (rest := []) hx hb hml hown hts tw184 mv_X1_uncutWeight ⟨Nat.le_of_ble_eq_true rfl, Nat.le_of_ble_eq_true rfl⟩ rfl rfl (ct_X1_uncutWeight l D ct a f k v3 hc) (z_pv hK hP [2, 3, 4] rfl 2 rfl rfl) hl.1 rfl rfl (Nat.le_of_ble_eq_true rfl) dX7_meanWeight_23 ⟨Nat.le_refl _, Nat.le_refl _⟩) ?_
    refine o_i2d hx hb dX7_meanWeight_26 h (fun v4 h => ?_)
    refine lv_iload_n hx hb dX7_meanWeight_27 rfl (lv_at hl 0 rfl) ?_
    refine o_i2d hx hb dX7_meanWeight_28 h (fun v5 h => ?_)
    refine o_ddiv hx hb dX7_meanWeight_29 h (fun v6 h => ?_)
    obtain ⟨v7, hc, h⟩ := zb1_s h
    refine zE_l (zrS (As := [.double v6]) (rest := []) hx hb hml hown hts tw222 ms_X0_ofDouble ⟨Nat.le_of_ble_eq_true rfl, Nat.le_of_ble_eq_true rfl⟩ rfl rfl (ct_X0_ofDouble l v6 k v7 hc) z_p0 hl.1 rfl rfl (Nat.le_of_ble_eq_true rfl) dX7_meanWeight_30 ⟨Nat.le_refl _, Nat.le_refl _⟩) ?_
    exact zR_l hx hb hr hlocks dX7_meanWeight_33 h
  · refine lv_lconst (v := (0 : Int64)) hx hb dX7_meanWeight_15 (by decide) ?_
    refine lv_goto (tgt := 33) hx hb dX7_meanWeight_16 (by decide) ?_
    exact zR_l hx hb hr hlocks dX7_meanWeight_33 h

def f_X7_why (k : Nat) (f : Nat → Int32) (p1 : Int32) : Option (Int32) :=
  zb1 (f_X7_isLorry k p1) fun v1 =>
  if v1 = 0 then
    some (-1 : Int32)
  else
    zb1 (f_X1_reasonToStay k f p1) fun v2 =>
    some v2
set_option maxRecDepth 100000 in
set_option maxHeartbeats 4000000 in
theorem ct_X7_why (l : Launch) (D : va_G) (ct a : Nat → Nat) (f : Nat → Int32) (g : Nat → Nat → Int32) (nx : Int32) (hz : Int32) (sw : Nat → Nat → Int32) (fl : Nat → Int32) (sg : Nat → Int32) (pl : Int32) (pa : Int32) (pk : Int32) (pn : Nat → Int32) (pf : Int32) (pg : Int32) (p1 : Int32) (k : Nat) (r : Int32) (h : f_X7_why k f p1 = some r) : Met l yX7_why (Cond.code yX7_why cX7_why 2 (some .int) :: zT) ({ frames := 4, cells := 0, slots := 0, locals := 97 } : Room) (va_Pc [.ref (a 0), .int p1] (zPR D (zTys ct) (wX7 ct a f g nx hz sw fl sg pl pa pk pn pf pg))) (vp_Si (fun r' => r' = r)) 0 0 (fun _ => False) := by
  refine zMet (cc := cX7_why) (maxL := 2) (ret := (some .int)) (av := [.ref (a 0), .int p1]) (by decide) (Nat.le_of_ble_eq_true rfl) (fun p e s m below meth c ls hx hb hr hml hts hown hlocks hin hB hl => ?_)
  have hl : lv_has ls 2 [(0, .ref (a 0)), (1, .int p1)] := hl
  have hown : s.vm.findClass RX7 = some m.cls := hown
  obtain ⟨hP, hK⟩ := hB
  rw [f_X7_why] at h
  refine lv_iload_n hx hb dX7_why_0 rfl (lv_at hl 1 rfl) ?_
  obtain ⟨v1, hc, h⟩ := zb1_s h
  refine zE_i (zrS (As := [.int p1]) (rest := []) hx hb hml hown hts tw527 ms_X7_isLorry ⟨Nat.le_of_ble_eq_true rfl, Nat.le_of_ble_eq_true rfl⟩ rfl rfl (ct_X7_isLorry l p1 k v1 hc) z_p0 hl.1 rfl rfl (Nat.le_of_ble_eq_true rfl) dX7_why_1 ⟨Nat.le_refl _, Nat.le_refl _⟩) ?_
  refine zi_eq (tgt := 18) hx hb dX7_why_4 (by decide) h (fun h => ?_) (fun h => ?_)
  · refine lv_iconst (v := (-1 : Int32)) hx hb dX7_why_18 (by decide) ?_
    exact zR_i hx hb hr hlocks dX7_why_19 h
  · refine lv_aload_n hx hb dX7_why_7 rfl (lv_at hl 0 rfl) ?_
    refine z_get (C := RX7) (T := TX7) (N := 6) (ci := 6) hx hb hts zin_X7 hown hK.1 hP 0 1 rfl rfl (by decide) tw134 rfl rfl dX7_why_8 ?_
    refine lv_iload_n hx hb dX7_why_11 rfl (lv_at hl 1 rfl) ?_
    obtain ⟨v2, hc, h⟩ := zb1_s h
    refine zE_i (zrV (C := RX1) (As := [.int p1]) (rest := []) hx hb hml hown hts tw578 mv_X1_reasonToStay ⟨Nat.le_of_ble_eq_true rfl, Nat.le_of_ble_eq_true rfl⟩ rfl rfl (ct_X1_reasonToStay l D ct a f p1 k v2 hc) (z_pv hK hP [2, 3, 4] rfl 2 rfl rfl) hl.1 rfl rfl (Nat.le_of_ble_eq_true rfl) dX7_why_12 ⟨Nat.le_refl _, Nat.le_refl _⟩) ?_
    refine lv_goto (tgt := 19) hx hb dX7_why_15 (by decide) ?_
    exact zR_i hx hb hr hlocks dX7_why_19 h

def f_X1_nearestBlock_b55 (k : Nat) (f : Nat → Int32) (p1 : Int32) (k20 : Int32 → Int32 → Int32 → Int32 → Option (Int32)) (x2 : Int32) (x5 : Int32) (x6 : Int32) : Option (Int32) :=
  zl (x5 + (1 : Int32)) fun v4 =>
  k20 x2 x5 x6 v4
def f_X1_nearestBlock_b20 (k : Nat) (f : Nat → Int32) (p1 : Int32)  : Nat → Int32 → Int32 → Int32 → Int32 → Option (Int32)
  | 0, _, _, _, _ => none
  | n + 1, x2, x3, x4, x5 =>
    if x2 ≤ x5 then
      some x3
    else
      zb1 (f_X1_surplusToGive k f p1 x5) fun v2 =>
      if v2 = (-6 : Int32) then
        zl (x5 + (1 : Int32)) fun v3 =>
        f_X1_nearestBlock_b20 k f p1 n x2 x3 x4 v3
      else
        if x3 = (-6 : Int32) then
          f_X1_nearestBlock_b55 k f p1 (f_X1_nearestBlock_b20 k f p1 n) x2 x5 v2
        else
          if x4 ≤ v2 then
            zl (x5 + (1 : Int32)) fun v5 =>
            f_X1_nearestBlock_b20 k f p1 n x2 x3 x4 v5
          else
            f_X1_nearestBlock_b55 k f p1 (f_X1_nearestBlock_b20 k f p1 n) x2 x5 v2
def f_X1_nearestBlock (k : Nat) (f : Nat → Int32) (p1 : Int32) : Option (Int32) :=
  zb1 (f_X5_cell k f (6 : Int32)) fun v1 =>
  f_X1_nearestBlock_b20 k f p1 k v1 (-6 : Int32) (-6 : Int32) (0 : Int32)
set_option maxRecDepth 100000 in
set_option maxHeartbeats 4000000 in
theorem ct_X1_nearestBlock (l : Launch) (D : va_G) (ct a : Nat → Nat) (f : Nat → Int32) (p1 : Int32) (k : Nat) (r : Int32) (h : f_X1_nearestBlock k f p1 = some r) : Met l yX1_nearestBlock (Cond.code yX1_nearestBlock cX1_nearestBlock 7 (some .int) :: zT) ({ frames := 5, cells := 0, slots := 0, locals := 116 } : Room) (va_Pc [.ref (a 2), .int p1] (zPR D (zTys ct) (wX1 ct a f))) (vp_Si (fun r' => r' = r)) 0 0 (fun _ => False) := by
  refine zMet (cc := cX1_nearestBlock) (maxL := 7) (ret := (some .int)) (av := [.ref (a 2), .int p1]) (by decide) (Nat.le_of_ble_eq_true rfl) (fun p e s m below meth c ls hx hb hr hml hts hown hlocks hin hB hl => ?_)
  have hl : lv_has ls 7 [(0, .ref (a 2)), (1, .int p1)] := hl
  have hown : s.vm.findClass RX1 = some m.cls := hown
  obtain ⟨hP, hK⟩ := hB
  have B55 : ∀ (k20 : Int32 → Int32 → Int32 → Int32 → Option (Int32)) (hk20 : ∀ (x2 : Int32) (x3 : Int32) (x4 : Int32) (x5 : Int32), k20 x2 x3 x4 x5 = some r → ∀ (ls : Array Slot), lv_has ls 7 [(0, .ref (a 2)), (1, .int p1), (2, .int x2), (3, .int x3), (4, .int x4), (5, .int x5)] → W p l e ({ frames := 5, cells := 0, slots := 0, locals := 116 } : Room) s m ([.ref (a 2), .int p1] : List Value).toArray below meth c s.heap [] 0 0 (MQ below (vp_Si (fun r' => r' = r)) ([.ref (a 2), .int p1] : List Value).toArray s 0 0 (fun _ => False)) (F0 m 20 ls [])), ∀ (x2 : Int32) (x5 : Int32) (x6 : Int32), f_X1_nearestBlock_b55 k f p1 k20 x2 x5 x6 = some r → ∀ (ls : Array Slot), lv_has ls 7 [(0, .ref (a 2)), (1, .int p1), (2, .int x2), (5, .int x5), (6, .int x6)] → W p l e ({ frames := 5, cells := 0, slots := 0, locals := 116 } : Room) s m ([.ref (a 2), .int p1] : List Value).toArray below meth c s.heap [] 0 0 (MQ below (vp_Si (fun r' => r' = r)) ([.ref (a 2), .int p1] : List Value).toArray s 0 0 (fun _ => False)) (F0 m 55 ls []) := by
    intro k20 hk20
    intro x2 x5 x6 h ls hl
    rw [f_X1_nearestBlock_b55] at h
    refine lv_iload hx hb dX1_nearestBlock_55 (lv_at hl 3 rfl) ?_
    refine lv_istore_n (lv' := [(3, .int x5), (0, .ref (a 2)), (1, .int p1), (2, .int x2), (5, .int x5), (6, .int x6)]) hx hb dX1_nearestBlock_57 rfl hl (by decide) rfl (fun ls hl => ?_)
    refine lv_iload hx hb dX1_nearestBlock_58 (lv_at hl 5 rfl) ?_
    refine lv_istore (lv' := [(4, .int x6), (3, .int x5), (0, .ref (a 2)), (1, .int p1), (2, .int x2), (5, .int x5), (6, .int x6)]) hx hb dX1_nearestBlock_60 hl (by decide) rfl (fun ls hl => ?_)
    refine o_nm h (fun v4 ey h => ?_)
    refine lv_iinc (v := v4) (lv' := [(5, .int v4), (4, .int x6), (3, .int x5), (0, .ref (a 2)), (1, .int p1), (2, .int x2), (6, .int x6)]) hx hb dX1_nearestBlock_62 hl (k := 5) rfl (Eq.trans rfl ey) (by decide) rfl (fun ls hl => ?_)
    refine lv_goto (tgt := 20) hx hb dX1_nearestBlock_65 (by decide) ?_
    exact hk20 x2 x5 x6 v4 h ls (lv_sub hl [3, 4, 5, 2, 1, 0] rfl)
  have B20 : ∀ (n : Nat), ∀ (x2 : Int32) (x3 : Int32) (x4 : Int32) (x5 : Int32), f_X1_nearestBlock_b20 k f p1 n x2 x3 x4 x5 = some r → ∀ (ls : Array Slot), lv_has ls 7 [(0, .ref (a 2)), (1, .int p1), (2, .int x2), (3, .int x3), (4, .int x4), (5, .int x5)] → W p l e ({ frames := 5, cells := 0, slots := 0, locals := 116 } : Room) s m ([.ref (a 2), .int p1] : List Value).toArray below meth c s.heap [] 0 0 (MQ below (vp_Si (fun r' => r' = r)) ([.ref (a 2), .int p1] : List Value).toArray s 0 0 (fun _ => False)) (F0 m 20 ls []) := by
    intro n
    induction n with
    | zero => intro x2 x3 x4 x5 h; exact absurd h (by rw [f_X1_nearestBlock_b20]; exact fun q => nomatch q)
    | succ n ih20 =>
      intro x2 x3 x4 x5 h ls hl
      rw [f_X1_nearestBlock_b20] at h
      refine lv_iload hx hb dX1_nearestBlock_20 (lv_at hl 5 rfl) ?_
      refine lv_iload_n hx hb dX1_nearestBlock_22 rfl (lv_at hl 2 rfl) ?_
      refine zc_ge (tgt := 68) hx hb dX1_nearestBlock_23 (by decide) h (fun h => ?_) (fun h => ?_)
      · refine lv_iload_n hx hb dX1_nearestBlock_68 rfl (lv_at hl 3 rfl) ?_
        exact zR_i hx hb hr hlocks dX1_nearestBlock_69 h
      · refine lv_aload_n hx hb dX1_nearestBlock_26 rfl (lv_at hl 0 rfl) ?_
        refine lv_iload_n hx hb dX1_nearestBlock_27 rfl (lv_at hl 1 rfl) ?_
        refine lv_iload hx hb dX1_nearestBlock_28 (lv_at hl 5 rfl) ?_
        obtain ⟨v2, hc, h⟩ := zb1_s h
        refine zE_i (zrV (C := RX1) (As := [.int p1, .int x5]) (rest := []) hx hb hml hown hts tw546 mv_X1_surplusToGive ⟨Nat.le_of_ble_eq_true rfl, Nat.le_of_ble_eq_true rfl⟩ rfl rfl (ct_X1_surplusToGive l D ct a f p1 x5 k v2 hc) (z_pv hK hP [0, 1, 2] rfl 0 rfl rfl) hl.1 rfl rfl (Nat.le_of_ble_eq_true rfl) dX1_nearestBlock_30 ⟨Nat.le_refl _, Nat.le_refl _⟩) ?_
        refine lv_istore (lv' := [(6, .int v2), (0, .ref (a 2)), (1, .int p1), (2, .int x2), (3, .int x3), (4, .int x4), (5, .int x5)]) hx hb dX1_nearestBlock_33 hl (by decide) rfl (fun ls hl => ?_)
        refine lv_iload hx hb dX1_nearestBlock_35 (lv_at hl 0 rfl) ?_
        refine lv_bipush (v := (-6 : Int32)) hx hb dX1_nearestBlock_37 (by decide) ?_
        refine zc_eq (tgt := 62) hx hb dX1_nearestBlock_39 (by decide) h (fun h => ?_) (fun h => ?_)
        · refine o_nm h (fun v3 ey h => ?_)
          refine lv_iinc (v := v3) (lv' := [(5, .int v3), (6, .int v2), (0, .ref (a 2)), (1, .int p1), (2, .int x2), (3, .int x3), (4, .int x4)]) hx hb dX1_nearestBlock_62 hl (k := 6) rfl (Eq.trans rfl ey) (by decide) rfl (fun ls hl => ?_)
          refine lv_goto (tgt := 20) hx hb dX1_nearestBlock_65 (by decide) ?_
          exact ih20 x2 x3 x4 v3 h ls (lv_sub hl [2, 3, 4, 5, 6, 0] rfl)
        · refine lv_iload_n hx hb dX1_nearestBlock_42 rfl (lv_at hl 4 rfl) ?_
          refine lv_bipush (v := (-6 : Int32)) hx hb dX1_nearestBlock_43 (by decide) ?_
          refine zc_eq (tgt := 55) hx hb dX1_nearestBlock_45 (by decide) h (fun h => ?_) (fun h => ?_)
          · exact B55 (f_X1_nearestBlock_b20 k f p1 n) ih20 x2 x5 v2 h ls (lv_sub hl [1, 2, 3, 6, 0] rfl)
          · refine lv_iload hx hb dX1_nearestBlock_48 (lv_at hl 0 rfl) ?_
            refine lv_iload hx hb dX1_nearestBlock_50 (lv_at hl 5 rfl) ?_
            refine zc_ge (tgt := 62) hx hb dX1_nearestBlock_52 (by decide) h (fun h => ?_) (fun h => ?_)
            · refine o_nm h (fun v5 ey h => ?_)
              refine lv_iinc (v := v5) (lv' := [(5, .int v5), (6, .int v2), (0, .ref (a 2)), (1, .int p1), (2, .int x2), (3, .int x3), (4, .int x4)]) hx hb dX1_nearestBlock_62 hl (k := 6) rfl (Eq.trans rfl ey) (by decide) rfl (fun ls hl => ?_)
              refine lv_goto (tgt := 20) hx hb dX1_nearestBlock_65 (by decide) ?_
              exact ih20 x2 x3 x4 v5 h ls (lv_sub hl [2, 3, 4, 5, 6, 0] rfl)
            · exact B55 (f_X1_nearestBlock_b20 k f p1 n) ih20 x2 x5 v2 h ls (lv_sub hl [1, 2, 3, 6, 0] rfl)
  rw [f_X1_nearestBlock] at h
  refine lv_aload_n hx hb dX1_nearestBlock_0 rfl (lv_at hl 0 rfl) ?_
  refine z_get (C := RX1) (T := TX1) (N := 1) (ci := 0) hx hb hts zin_X1 hown hK.1 hP 0 0 rfl rfl (by decide) tw54 rfl rfl dX1_nearestBlock_1 ?_
  refine lv_bipush (v := (6 : Int32)) hx hb dX1_nearestBlock_4 (by decide) ?_
  obtain ⟨v1, hc, h⟩ := zb1_s h
  refine zE_i (zrV (C := RX5) (As := [.int (6 : Int32)]) (rest := []) hx hb hml hown hts tw173 mv_X5_cell ⟨Nat.le_of_ble_eq_true rfl, Nat.le_of_ble_eq_true rfl⟩ rfl rfl (ct_X5_cell l D ct a f (6 : Int32) k v1 hc) (z_pv hK hP [1, 2] rfl 1 rfl rfl) hl.1 rfl rfl (Nat.le_of_ble_eq_true rfl) dX1_nearestBlock_6 ⟨Nat.le_refl _, Nat.le_refl _⟩) ?_
  refine lv_istore_n (lv' := [(2, .int v1), (0, .ref (a 2)), (1, .int p1)]) hx hb dX1_nearestBlock_9 rfl hl (by decide) rfl (fun ls hl => ?_)
  refine lv_bipush (v := (-6 : Int32)) hx hb dX1_nearestBlock_10 (by decide) ?_
  refine lv_istore_n (lv' := [(3, .int (-6 : Int32)), (2, .int v1), (0, .ref (a 2)), (1, .int p1)]) hx hb dX1_nearestBlock_12 rfl hl (by decide) rfl (fun ls hl => ?_)
  refine lv_bipush (v := (-6 : Int32)) hx hb dX1_nearestBlock_13 (by decide) ?_
  refine lv_istore (lv' := [(4, .int (-6 : Int32)), (3, .int (-6 : Int32)), (2, .int v1), (0, .ref (a 2)), (1, .int p1)]) hx hb dX1_nearestBlock_15 hl (by decide) rfl (fun ls hl => ?_)
  refine lv_iconst (v := (0 : Int32)) hx hb dX1_nearestBlock_17 (by decide) ?_
  refine lv_istore (lv' := [(5, .int (0 : Int32)), (4, .int (-6 : Int32)), (3, .int (-6 : Int32)), (2, .int v1), (0, .ref (a 2)), (1, .int p1)]) hx hb dX1_nearestBlock_18 hl (by decide) rfl (fun ls hl => ?_)
  exact B20 k v1 (-6 : Int32) (-6 : Int32) (0 : Int32) h ls (lv_sub hl [4, 5, 3, 2, 1, 0] rfl)

def f_X7_bestBlock (k : Nat) (f : Nat → Int32) (p1 : Int32) : Option (Int32) :=
  zb1 (f_X5_hasOrder k f p1) fun v1 =>
  if v1 = 0 then
    some (-1 : Int32)
  else
    zb1 (f_X5_orderCell k f p1 (3 : Int32)) fun v2 =>
    if v2 = 0 then
      zb1 (f_X1_nearestBlock k f p1) fun v3 =>
      some v3
    else
      some (-5 : Int32)
set_option maxRecDepth 100000 in
set_option maxHeartbeats 4000000 in
theorem ct_X7_bestBlock (l : Launch) (D : va_G) (ct a : Nat → Nat) (f : Nat → Int32) (g : Nat → Nat → Int32) (nx : Int32) (hz : Int32) (sw : Nat → Nat → Int32) (fl : Nat → Int32) (sg : Nat → Int32) (pl : Int32) (pa : Int32) (pk : Int32) (pn : Nat → Int32) (pf : Int32) (pg : Int32) (p1 : Int32) (k : Nat) (r : Int32) (h : f_X7_bestBlock k f p1 = some r) : Met l yX7_bestBlock (Cond.code yX7_bestBlock cX7_bestBlock 2 (some .int) :: zT) ({ frames := 6, cells := 0, slots := 0, locals := 142 } : Room) (va_Pc [.ref (a 0), .int p1] (zPR D (zTys ct) (wX7 ct a f g nx hz sw fl sg pl pa pk pn pf pg))) (vp_Si (fun r' => r' = r)) 0 0 (fun _ => False) := by
  refine zMet (cc := cX7_bestBlock) (maxL := 2) (ret := (some .int)) (av := [.ref (a 0), .int p1]) (by decide) (Nat.le_of_ble_eq_true rfl) (fun p e s m below meth c ls hx hb hr hml hts hown hlocks hin hB hl => ?_)
  have hl : lv_has ls 2 [(0, .ref (a 0)), (1, .int p1)] := hl
  have hown : s.vm.findClass RX7 = some m.cls := hown
  obtain ⟨hP, hK⟩ := hB
  rw [f_X7_bestBlock] at h
  refine lv_aload_n hx hb dX7_bestBlock_0 rfl (lv_at hl 0 rfl) ?_
  refine z_get (C := RX7) (T := TX7) (N := 6) (ci := 6) hx hb hts zin_X7 hown hK.1 hP 0 0 rfl rfl (by decide) tw133 rfl rfl dX7_bestBlock_1 ?_
  refine lv_iload_n hx hb dX7_bestBlock_4 rfl (lv_at hl 1 rfl) ?_
  obtain ⟨v1, hc, h⟩ := zb1_s h
  refine zE_i (zrV (C := RX5) (As := [.int p1]) (rest := []) hx hb hml hown hts tw541 mv_X5_hasOrder ⟨Nat.le_of_ble_eq_true rfl, Nat.le_of_ble_eq_true rfl⟩ rfl rfl (ct_X5_hasOrder l D ct a f p1 k v1 hc) (z_pv hK hP [3, 4] rfl 3 rfl rfl) hl.1 rfl rfl (Nat.le_of_ble_eq_true rfl) dX7_bestBlock_5 ⟨Nat.le_refl _, Nat.le_refl _⟩) ?_
  refine zi_ne (tgt := 13) hx hb dX7_bestBlock_8 (by decide) h (fun h => ?_) (fun h => ?_)
  · refine lv_aload_n hx hb dX7_bestBlock_13 rfl (lv_at hl 0 rfl) ?_
    refine z_get (C := RX7) (T := TX7) (N := 6) (ci := 6) hx hb hts zin_X7 hown hK.1 hP 0 0 rfl rfl (by decide) tw133 rfl rfl dX7_bestBlock_14 ?_
    refine lv_iload_n hx hb dX7_bestBlock_17 rfl (lv_at hl 1 rfl) ?_
    refine lv_iconst (v := (3 : Int32)) hx hb dX7_bestBlock_18 (by decide) ?_
    obtain ⟨v2, hc, h⟩ := zb1_s h
    refine zE_i (zrV (C := RX5) (As := [.int p1, .int (3 : Int32)]) (rest := []) hx hb hml hown hts tw547 mv_X5_orderCell ⟨Nat.le_of_ble_eq_true rfl, Nat.le_of_ble_eq_true rfl⟩ rfl rfl (ct_X5_orderCell l D ct a f p1 (3 : Int32) k v2 hc) (z_pv hK hP [3, 4] rfl 3 rfl rfl) hl.1 rfl rfl (Nat.le_of_ble_eq_true rfl) dX7_bestBlock_19 ⟨Nat.le_refl _, Nat.le_refl _⟩) ?_
    refine zi_ne (tgt := 36) hx hb dX7_bestBlock_22 (by decide) h (fun h => ?_) (fun h => ?_)
    · refine lv_bipush (v := (-5 : Int32)) hx hb dX7_bestBlock_36 (by decide) ?_
      exact zR_i hx hb hr hlocks dX7_bestBlock_38 h
    · refine lv_aload_n hx hb dX7_bestBlock_25 rfl (lv_at hl 0 rfl) ?_
      refine z_get (C := RX7) (T := TX7) (N := 6) (ci := 6) hx hb hts zin_X7 hown hK.1 hP 0 1 rfl rfl (by decide) tw134 rfl rfl dX7_bestBlock_26 ?_
      refine lv_iload_n hx hb dX7_bestBlock_29 rfl (lv_at hl 1 rfl) ?_
      obtain ⟨v3, hc, h⟩ := zb1_s h
      refine zE_i (zrV (C := RX1) (As := [.int p1]) (rest := []) hx hb hml hown hts tw560 mv_X1_nearestBlock ⟨Nat.le_of_ble_eq_true rfl, Nat.le_of_ble_eq_true rfl⟩ rfl rfl (ct_X1_nearestBlock l D ct a f p1 k v3 hc) (z_pv hK hP [2, 3, 4] rfl 2 rfl rfl) hl.1 rfl rfl (Nat.le_of_ble_eq_true rfl) dX7_bestBlock_30 ⟨Nat.le_refl _, Nat.le_refl _⟩) ?_
      refine lv_goto (tgt := 38) hx hb dX7_bestBlock_33 (by decide) ?_
      exact zR_i hx hb hr hlocks dX7_bestBlock_38 h
  · refine lv_iconst (v := (-1 : Int32)) hx hb dX7_bestBlock_11 (by decide) ?_
    exact zR_i hx hb hr hlocks dX7_bestBlock_12 h

def f_X1_fittingLength_b118 (k : Nat) (f : Nat → Int32) (p1 : Int32) (p2 : Int32) (p3 : Int32) (k74 : Int32 → Int32 → Int32 → Int32 → Int32 → Option (Int32)) (x4 : Int32) (x5 : Int32) (x6 : Int32) (x7 : Int32) (x8 : Int32) (y0 : Int32) (y1 : Int32) (y2 : Int32) (y3 : Int32) : Option (Int32) :=
  zb1 (f_X1_surplus k f y3 y2 y1 y0) fun v9 =>
  if v9 = (-6 : Int32) then
    zl (x8 + (1 : Int32)) fun v10 =>
    k74 x4 x5 x6 x7 v10
  else
    some x8
def f_X1_fittingLength_b74 (k : Nat) (f : Nat → Int32) (p1 : Int32) (p2 : Int32) (p3 : Int32)  : Nat → Int32 → Int32 → Int32 → Int32 → Int32 → Option (Int32)
  | 0, _, _, _, _, _ => none
  | n + 1, x4, x5, x6, x7, x8 =>
    if x4 < x8 then
      some (-6 : Int32)
    else
      if p3 = 0 then
        if p3 = (1 : Int32) then
          if p3 = (2 : Int32) then
            f_X1_fittingLength_b118 k f p1 p2 p3 (f_X1_fittingLength_b74 k f p1 p2 p3 n) x4 x5 x6 x7 x8 x8 x8 x8 p1
          else
            f_X1_fittingLength_b118 k f p1 p2 p3 (f_X1_fittingLength_b74 k f p1 p2 p3 n) x4 x5 x6 x7 x8 x7 x8 x8 p1
        else
          if p3 = (2 : Int32) then
            f_X1_fittingLength_b118 k f p1 p2 p3 (f_X1_fittingLength_b74 k f p1 p2 p3 n) x4 x5 x6 x7 x8 x8 x6 x8 p1
          else
            f_X1_fittingLength_b118 k f p1 p2 p3 (f_X1_fittingLength_b74 k f p1 p2 p3 n) x4 x5 x6 x7 x8 x7 x6 x8 p1
      else
        if p3 = (1 : Int32) then
          if p3 = (2 : Int32) then
            f_X1_fittingLength_b118 k f p1 p2 p3 (f_X1_fittingLength_b74 k f p1 p2 p3 n) x4 x5 x6 x7 x8 x8 x8 x5 p1
          else
            f_X1_fittingLength_b118 k f p1 p2 p3 (f_X1_fittingLength_b74 k f p1 p2 p3 n) x4 x5 x6 x7 x8 x7 x8 x5 p1
        else
          if p3 = (2 : Int32) then
            f_X1_fittingLength_b118 k f p1 p2 p3 (f_X1_fittingLength_b74 k f p1 p2 p3 n) x4 x5 x6 x7 x8 x8 x6 x5 p1
          else
            f_X1_fittingLength_b118 k f p1 p2 p3 (f_X1_fittingLength_b74 k f p1 p2 p3 n) x4 x5 x6 x7 x8 x7 x6 x5 p1
def f_X1_fittingLength (k : Nat) (f : Nat → Int32) (p1 : Int32) (p2 : Int32) (p3 : Int32) : Option (Int32) :=
  zb1 (f_X5_blockCell k f p2 (7 : Int32)) fun v1 =>
  if v1 = 0 then
    zb1 (f_X5_blockCell k f p2 p3) fun v2 =>
    zb1 (f_X5_cell k f (0 : Int32)) fun v3 =>
    zl (v2 - v3) fun v4 =>
    zl (v4 - (1 : Int32)) fun v5 =>
    zb1 (f_X5_blockCell k f p2 (0 : Int32)) fun v6 =>
    zb1 (f_X5_blockCell k f p2 (1 : Int32)) fun v7 =>
    zb1 (f_X5_blockCell k f p2 (2 : Int32)) fun v8 =>
    f_X1_fittingLength_b74 k f p1 p2 p3 k v5 v6 v7 v8 (1 : Int32)
  else
    some (-6 : Int32)
set_option maxRecDepth 100000 in
set_option maxHeartbeats 4000000 in
theorem ct_X1_fittingLength (l : Launch) (D : va_G) (ct a : Nat → Nat) (f : Nat → Int32) (p1 : Int32) (p2 : Int32) (p3 : Int32) (k : Nat) (r : Int32) (h : f_X1_fittingLength k f p1 p2 p3 = some r) : Met l yX1_fittingLength (Cond.code yX1_fittingLength cX1_fittingLength 10 (some .int) :: zT) ({ frames := 4, cells := 0, slots := 0, locals := 93 } : Room) (va_Pc [.ref (a 2), .int p1, .int p2, .int p3] (zPR D (zTys ct) (wX1 ct a f))) (vp_Si (fun r' => r' = r)) 0 0 (fun _ => False) := by
  refine zMet (cc := cX1_fittingLength) (maxL := 10) (ret := (some .int)) (av := [.ref (a 2), .int p1, .int p2, .int p3]) (by decide) (Nat.le_of_ble_eq_true rfl) (fun p e s m below meth c ls hx hb hr hml hts hown hlocks hin hB hl => ?_)
  have hl : lv_has ls 10 [(0, .ref (a 2)), (1, .int p1), (2, .int p2), (3, .int p3)] := hl
  have hown : s.vm.findClass RX1 = some m.cls := hown
  obtain ⟨hP, hK⟩ := hB
  have B118 : ∀ (k74 : Int32 → Int32 → Int32 → Int32 → Int32 → Option (Int32)) (hk74 : ∀ (x4 : Int32) (x5 : Int32) (x6 : Int32) (x7 : Int32) (x8 : Int32), k74 x4 x5 x6 x7 x8 = some r → ∀ (ls : Array Slot), lv_has ls 10 [(0, .ref (a 2)), (1, .int p1), (3, .int p3), (4, .int x4), (5, .int x5), (6, .int x6), (7, .int x7), (8, .int x8)] → W p l e ({ frames := 4, cells := 0, slots := 0, locals := 93 } : Room) s m ([.ref (a 2), .int p1, .int p2, .int p3] : List Value).toArray below meth c s.heap [] 0 0 (MQ below (vp_Si (fun r' => r' = r)) ([.ref (a 2), .int p1, .int p2, .int p3] : List Value).toArray s 0 0 (fun _ => False)) (F0 m 74 ls [])), ∀ (x4 : Int32) (x5 : Int32) (x6 : Int32) (x7 : Int32) (x8 : Int32) (y0 : Int32) (y1 : Int32) (y2 : Int32) (y3 : Int32), f_X1_fittingLength_b118 k f p1 p2 p3 k74 x4 x5 x6 x7 x8 y0 y1 y2 y3 = some r → ∀ (ls : Array Slot), lv_has ls 10 [(0, .ref (a 2)), (1, .int p1), (3, .int p3), (4, .int x4), (5, .int x5), (6, .int x6), (7, .int x7), (8, .int x8)] → W p l e ({ frames := 4, cells := 0, slots := 0, locals := 93 } : Room) s m ([.ref (a 2), .int p1, .int p2, .int p3] : List Value).toArray below meth c s.heap [] 0 0 (MQ below (vp_Si (fun r' => r' = r)) ([.ref (a 2), .int p1, .int p2, .int p3] : List Value).toArray s 0 0 (fun _ => False)) (F0 m 118 ls [.int y0, .int y1, .int y2, .int y3, .ref (a 2)]) := by
    intro k74 hk74
    intro x4 x5 x6 x7 x8 y0 y1 y2 y3 h ls hl
    rw [f_X1_fittingLength_b118] at h
    obtain ⟨v9, hc, h⟩ := zb1_s h
    refine zE_i (zrV (C := RX1) (As := [.int y3, .int y2, .int y1, .int y0]) (rest := []) hx hb hml hown hts tw385 mv_X1_surplus ⟨Nat.le_of_ble_eq_true rfl, Nat.le_of_ble_eq_true rfl⟩ rfl rfl (ct_X1_surplus l D ct a f y3 y2 y1 y0 k v9 hc) (z_pv hK hP [0, 1, 2] rfl 0 rfl rfl) hl.1 rfl rfl (Nat.le_of_ble_eq_true rfl) dX1_fittingLength_118 ⟨Nat.le_refl _, Nat.le_refl _⟩) ?_
    refine lv_istore (lv' := [(9, .int v9), (0, .ref (a 2)), (1, .int p1), (3, .int p3), (4, .int x4), (5, .int x5), (6, .int x6), (7, .int x7), (8, .int x8)]) hx hb dX1_fittingLength_121 hl (by decide) rfl (fun ls hl => ?_)
    refine lv_iload hx hb dX1_fittingLength_123 (lv_at hl 0 rfl) ?_
    refine lv_bipush (v := (-6 : Int32)) hx hb dX1_fittingLength_125 (by decide) ?_
    refine zc_eq (tgt := 133) hx hb dX1_fittingLength_127 (by decide) h (fun h => ?_) (fun h => ?_)
    · refine o_nm h (fun v10 ey h => ?_)
      refine lv_iinc (v := v10) (lv' := [(8, .int v10), (9, .int v9), (0, .ref (a 2)), (1, .int p1), (3, .int p3), (4, .int x4), (5, .int x5), (6, .int x6), (7, .int x7)]) hx hb dX1_fittingLength_133 hl (k := 8) rfl (Eq.trans rfl ey) (by decide) rfl (fun ls hl => ?_)
      refine lv_goto (tgt := 74) hx hb dX1_fittingLength_136 (by decide) ?_
      exact hk74 x4 x5 x6 x7 v10 h ls (lv_sub hl [2, 3, 4, 5, 6, 7, 8, 0] rfl)
    · refine lv_iload hx hb dX1_fittingLength_130 (lv_at hl 8 rfl) ?_
      exact zR_i hx hb hr hlocks dX1_fittingLength_132 h
  have B74 : ∀ (n : Nat), ∀ (x4 : Int32) (x5 : Int32) (x6 : Int32) (x7 : Int32) (x8 : Int32), f_X1_fittingLength_b74 k f p1 p2 p3 n x4 x5 x6 x7 x8 = some r → ∀ (ls : Array Slot), lv_has ls 10 [(0, .ref (a 2)), (1, .int p1), (3, .int p3), (4, .int x4), (5, .int x5), (6, .int x6), (7, .int x7), (8, .int x8)] → W p l e ({ frames := 4, cells := 0, slots := 0, locals := 93 } : Room) s m ([.ref (a 2), .int p1, .int p2, .int p3] : List Value).toArray below meth c s.heap [] 0 0 (MQ below (vp_Si (fun r' => r' = r)) ([.ref (a 2), .int p1, .int p2, .int p3] : List Value).toArray s 0 0 (fun _ => False)) (F0 m 74 ls []) := by
    intro n
    induction n with
    | zero => intro x4 x5 x6 x7 x8 h; exact absurd h (by rw [f_X1_fittingLength_b74]; exact fun q => nomatch q)
    | succ n ih74 =>
      intro x4 x5 x6 x7 x8 h ls hl
      rw [f_X1_fittingLength_b74] at h
      refine lv_iload hx hb dX1_fittingLength_74 (lv_at hl 7 rfl) ?_
      refine lv_iload hx hb dX1_fittingLength_76 (lv_at hl 3 rfl) ?_
      refine zc_gt (tgt := 139) hx hb dX1_fittingLength_78 (by decide) h (fun h => ?_) (fun h => ?_)
      · refine lv_bipush (v := (-6 : Int32)) hx hb dX1_fittingLength_139 (by decide) ?_
        exact zR_i hx hb hr hlocks dX1_fittingLength_141 h
      · refine lv_aload_n hx hb dX1_fittingLength_81 rfl (lv_at hl 0 rfl) ?_
        refine lv_iload_n hx hb dX1_fittingLength_82 rfl (lv_at hl 1 rfl) ?_
        refine lv_iload_n hx hb dX1_fittingLength_83 rfl (lv_at hl 2 rfl) ?_
        refine zi_ne (tgt := 92) hx hb dX1_fittingLength_84 (by decide) h (fun h => ?_) (fun h => ?_)
        · refine lv_iload hx hb dX1_fittingLength_92 (lv_at hl 4 rfl) ?_
          refine lv_iload_n hx hb dX1_fittingLength_94 rfl (lv_at hl 2 rfl) ?_
          refine lv_iconst (v := (1 : Int32)) hx hb dX1_fittingLength_95 (by decide) ?_
          refine zc_ne (tgt := 104) hx hb dX1_fittingLength_96 (by decide) h (fun h => ?_) (fun h => ?_)
          · refine lv_iload hx hb dX1_fittingLength_104 (lv_at hl 5 rfl) ?_
            refine lv_iload_n hx hb dX1_fittingLength_106 rfl (lv_at hl 2 rfl) ?_
            refine lv_iconst (v := (2 : Int32)) hx hb dX1_fittingLength_107 (by decide) ?_
            refine zc_ne (tgt := 116) hx hb dX1_fittingLength_108 (by decide) h (fun h => ?_) (fun h => ?_)
            · refine lv_iload hx hb dX1_fittingLength_116 (lv_at hl 6 rfl) ?_
              exact B118 (f_X1_fittingLength_b74 k f p1 p2 p3 n) ih74 x4 x5 x6 x7 x8 x7 x6 x5 p1 h ls (lv_sub hl [0, 1, 2, 3, 4, 5, 6, 7] rfl)
            · refine lv_iload hx hb dX1_fittingLength_111 (lv_at hl 7 rfl) ?_
              refine lv_goto (tgt := 118) hx hb dX1_fittingLength_113 (by decide) ?_
              exact B118 (f_X1_fittingLength_b74 k f p1 p2 p3 n) ih74 x4 x5 x6 x7 x8 x8 x6 x5 p1 h ls (lv_sub hl [0, 1, 2, 3, 4, 5, 6, 7] rfl)
          · refine lv_iload hx hb dX1_fittingLength_99 (lv_at hl 7 rfl) ?_
            refine lv_goto (tgt := 106) hx hb dX1_fittingLength_101 (by decide) ?_
            refine lv_iload_n hx hb dX1_fittingLength_106 rfl (lv_at hl 2 rfl) ?_
            refine lv_iconst (v := (2 : Int32)) hx hb dX1_fittingLength_107 (by decide) ?_
            refine zc_ne (tgt := 116) hx hb dX1_fittingLength_108 (by decide) h (fun h => ?_) (fun h => ?_)
            · refine lv_iload hx hb dX1_fittingLength_116 (lv_at hl 6 rfl) ?_
              exact B118 (f_X1_fittingLength_b74 k f p1 p2 p3 n) ih74 x4 x5 x6 x7 x8 x7 x8 x5 p1 h ls (lv_sub hl [0, 1, 2, 3, 4, 5, 6, 7] rfl)
            · refine lv_iload hx hb dX1_fittingLength_111 (lv_at hl 7 rfl) ?_
              refine lv_goto (tgt := 118) hx hb dX1_fittingLength_113 (by decide) ?_
              exact B118 (f_X1_fittingLength_b74 k f p1 p2 p3 n) ih74 x4 x5 x6 x7 x8 x8 x8 x5 p1 h ls (lv_sub hl [0, 1, 2, 3, 4, 5, 6, 7] rfl)
        · refine lv_iload hx hb dX1_fittingLength_87 (lv_at hl 7 rfl) ?_
          refine lv_goto (tgt := 94) hx hb dX1_fittingLength_89 (by decide) ?_
          refine lv_iload_n hx hb dX1_fittingLength_94 rfl (lv_at hl 2 rfl) ?_
          refine lv_iconst (v := (1 : Int32)) hx hb dX1_fittingLength_95 (by decide) ?_
          refine zc_ne (tgt := 104) hx hb dX1_fittingLength_96 (by decide) h (fun h => ?_) (fun h => ?_)
          · refine lv_iload hx hb dX1_fittingLength_104 (lv_at hl 5 rfl) ?_
            refine lv_iload_n hx hb dX1_fittingLength_106 rfl (lv_at hl 2 rfl) ?_
            refine lv_iconst (v := (2 : Int32)) hx hb dX1_fittingLength_107 (by decide) ?_
            refine zc_ne (tgt := 116) hx hb dX1_fittingLength_108 (by decide) h (fun h => ?_) (fun h => ?_)
            · refine lv_iload hx hb dX1_fittingLength_116 (lv_at hl 6 rfl) ?_
              exact B118 (f_X1_fittingLength_b74 k f p1 p2 p3 n) ih74 x4 x5 x6 x7 x8 x7 x6 x8 p1 h ls (lv_sub hl [0, 1, 2, 3, 4, 5, 6, 7] rfl)
            · refine lv_iload hx hb dX1_fittingLength_111 (lv_at hl 7 rfl) ?_
              refine lv_goto (tgt := 118) hx hb dX1_fittingLength_113 (by decide) ?_
              exact B118 (f_X1_fittingLength_b74 k f p1 p2 p3 n) ih74 x4 x5 x6 x7 x8 x8 x6 x8 p1 h ls (lv_sub hl [0, 1, 2, 3, 4, 5, 6, 7] rfl)
          · refine lv_iload hx hb dX1_fittingLength_99 (lv_at hl 7 rfl) ?_
            refine lv_goto (tgt := 106) hx hb dX1_fittingLength_101 (by decide) ?_
            refine lv_iload_n hx hb dX1_fittingLength_106 rfl (lv_at hl 2 rfl) ?_
            refine lv_iconst (v := (2 : Int32)) hx hb dX1_fittingLength_107 (by decide) ?_
            refine zc_ne (tgt := 116) hx hb dX1_fittingLength_108 (by decide) h (fun h => ?_) (fun h => ?_)
            · refine lv_iload hx hb dX1_fittingLength_116 (lv_at hl 6 rfl) ?_
              exact B118 (f_X1_fittingLength_b74 k f p1 p2 p3 n) ih74 x4 x5 x6 x7 x8 x7 x8 x8 p1 h ls (lv_sub hl [0, 1, 2, 3, 4, 5, 6, 7] rfl)
            · refine lv_iload hx hb dX1_fittingLength_111 (lv_at hl 7 rfl) ?_
              refine lv_goto (tgt := 118) hx hb dX1_fittingLength_113 (by decide) ?_
              exact B118 (f_X1_fittingLength_b74 k f p1 p2 p3 n) ih74 x4 x5 x6 x7 x8 x8 x8 x8 p1 h ls (lv_sub hl [0, 1, 2, 3, 4, 5, 6, 7] rfl)
  rw [f_X1_fittingLength] at h
  refine lv_aload_n hx hb dX1_fittingLength_0 rfl (lv_at hl 0 rfl) ?_
  refine z_get (C := RX1) (T := TX1) (N := 1) (ci := 0) hx hb hts zin_X1 hown hK.1 hP 0 0 rfl rfl (by decide) tw54 rfl rfl dX1_fittingLength_1 ?_
  refine lv_iload_n hx hb dX1_fittingLength_4 rfl (lv_at hl 2 rfl) ?_
  refine lv_bipush (v := (7 : Int32)) hx hb dX1_fittingLength_5 (by decide) ?_
  obtain ⟨v1, hc, h⟩ := zb1_s h
  refine zE_i (zrV (C := RX5) (As := [.int p2, .int (7 : Int32)]) (rest := []) hx hb hml hown hts tw183 mv_X5_blockCell ⟨Nat.le_of_ble_eq_true rfl, Nat.le_of_ble_eq_true rfl⟩ rfl rfl (ct_X5_blockCell l D ct a f p2 (7 : Int32) k v1 hc) (z_pv hK hP [1, 2] rfl 1 rfl rfl) hl.1 rfl rfl (Nat.le_of_ble_eq_true rfl) dX1_fittingLength_7 ⟨Nat.le_refl _, Nat.le_refl _⟩) ?_
  refine zi_eq (tgt := 16) hx hb dX1_fittingLength_10 (by decide) h (fun h => ?_) (fun h => ?_)
  · refine lv_aload_n hx hb dX1_fittingLength_16 rfl (lv_at hl 0 rfl) ?_
    refine z_get (C := RX1) (T := TX1) (N := 1) (ci := 0) hx hb hts zin_X1 hown hK.1 hP 0 0 rfl rfl (by decide) tw54 rfl rfl dX1_fittingLength_17 ?_
    refine lv_iload_n hx hb dX1_fittingLength_20 rfl (lv_at hl 2 rfl) ?_
    refine lv_iload_n hx hb dX1_fittingLength_21 rfl (lv_at hl 3 rfl) ?_
    obtain ⟨v2, hc, h⟩ := zb1_s h
    refine zE_i (zrV (C := RX5) (As := [.int p2, .int p3]) (rest := []) hx hb hml hown hts tw183 mv_X5_blockCell ⟨Nat.le_of_ble_eq_true rfl, Nat.le_of_ble_eq_true rfl⟩ rfl rfl (ct_X5_blockCell l D ct a f p2 p3 k v2 hc) (z_pv hK hP [1, 2] rfl 1 rfl rfl) hl.1 rfl rfl (Nat.le_of_ble_eq_true rfl) dX1_fittingLength_22 ⟨Nat.le_refl _, Nat.le_refl _⟩) ?_
    refine lv_aload_n hx hb dX1_fittingLength_25 rfl (lv_at hl 0 rfl) ?_
    refine z_get (C := RX1) (T := TX1) (N := 1) (ci := 0) hx hb hts zin_X1 hown hK.1 hP 0 0 rfl rfl (by decide) tw54 rfl rfl dX1_fittingLength_26 ?_
    refine lv_iconst (v := (0 : Int32)) hx hb dX1_fittingLength_29 (by decide) ?_
    obtain ⟨v3, hc, h⟩ := zb1_s h
    refine zE_i (zrV (C := RX5) (As := [.int (0 : Int32)]) (rest := [.int v2]) hx hb hml hown hts tw173 mv_X5_cell ⟨Nat.le_of_ble_eq_true rfl, Nat.le_of_ble_eq_true rfl⟩ rfl rfl (ct_X5_cell l D ct a f (0 : Int32) k v3 hc) (z_pv hK hP [1, 2] rfl 1 rfl rfl) hl.1 rfl rfl (Nat.le_of_ble_eq_true rfl) dX1_fittingLength_30 ⟨Nat.le_refl _, Nat.le_refl _⟩) ?_
    refine o_isub hx hb dX1_fittingLength_33 h (fun v4 h => ?_)
    refine lv_iconst (v := (1 : Int32)) hx hb dX1_fittingLength_34 (by decide) ?_
    refine o_isub hx hb dX1_fittingLength_35 h (fun v5 h => ?_)
    refine lv_istore (lv' := [(4, .int v5), (0, .ref (a 2)), (1, .int p1), (2, .int p2), (3, .int p3)]) hx hb dX1_fittingLength_36 hl (by decide) rfl (fun ls hl => ?_)
    refine lv_aload_n hx hb dX1_fittingLength_38 rfl (lv_at hl 1 rfl) ?_
    refine z_get (C := RX1) (T := TX1) (N := 1) (ci := 0) hx hb hts zin_X1 hown hK.1 hP 0 0 rfl rfl (by decide) tw54 rfl rfl dX1_fittingLength_39 ?_
    refine lv_iload_n hx hb dX1_fittingLength_42 rfl (lv_at hl 3 rfl) ?_
    refine lv_iconst (v := (0 : Int32)) hx hb dX1_fittingLength_43 (by decide) ?_
    obtain ⟨v6, hc, h⟩ := zb1_s h
    refine zE_i (zrV (C := RX5) (As := [.int p2, .int (0 : Int32)]) (rest := []) hx hb hml hown hts tw183 mv_X5_blockCell ⟨Nat.le_of_ble_eq_true rfl, Nat.le_of_ble_eq_true rfl⟩ rfl rfl (ct_X5_blockCell l D ct a f p2 (0 : Int32) k v6 hc) (z_pv hK hP [1, 2] rfl 1 rfl rfl) hl.1 rfl rfl (Nat.le_of_ble_eq_true rfl) dX1_fittingLength_44 ⟨Nat.le_refl _, Nat.le_refl _⟩) ?_
    refine lv_istore (lv' := [(5, .int v6), (4, .int v5), (0, .ref (a 2)), (1, .int p1), (2, .int p2), (3, .int p3)]) hx hb dX1_fittingLength_47 hl (by decide) rfl (fun ls hl => ?_)
    refine lv_aload_n hx hb dX1_fittingLength_49 rfl (lv_at hl 2 rfl) ?_
    refine z_get (C := RX1) (T := TX1) (N := 1) (ci := 0) hx hb hts zin_X1 hown hK.1 hP 0 0 rfl rfl (by decide) tw54 rfl rfl dX1_fittingLength_50 ?_
    refine lv_iload_n hx hb dX1_fittingLength_53 rfl (lv_at hl 4 rfl) ?_
    refine lv_iconst (v := (1 : Int32)) hx hb dX1_fittingLength_54 (by decide) ?_
    obtain ⟨v7, hc, h⟩ := zb1_s h
    refine zE_i (zrV (C := RX5) (As := [.int p2, .int (1 : Int32)]) (rest := []) hx hb hml hown hts tw183 mv_X5_blockCell ⟨Nat.le_of_ble_eq_true rfl, Nat.le_of_ble_eq_true rfl⟩ rfl rfl (ct_X5_blockCell l D ct a f p2 (1 : Int32) k v7 hc) (z_pv hK hP [1, 2] rfl 1 rfl rfl) hl.1 rfl rfl (Nat.le_of_ble_eq_true rfl) dX1_fittingLength_55 ⟨Nat.le_refl _, Nat.le_refl _⟩) ?_
    refine lv_istore (lv' := [(6, .int v7), (5, .int v6), (4, .int v5), (0, .ref (a 2)), (1, .int p1), (2, .int p2), (3, .int p3)]) hx hb dX1_fittingLength_58 hl (by decide) rfl (fun ls hl => ?_)
    refine lv_aload_n hx hb dX1_fittingLength_60 rfl (lv_at hl 3 rfl) ?_
    refine z_get (C := RX1) (T := TX1) (N := 1) (ci := 0) hx hb hts zin_X1 hown hK.1 hP 0 0 rfl rfl (by decide) tw54 rfl rfl dX1_fittingLength_61 ?_
    refine lv_iload_n hx hb dX1_fittingLength_64 rfl (lv_at hl 5 rfl) ?_
    refine lv_iconst (v := (2 : Int32)) hx hb dX1_fittingLength_65 (by decide) ?_
    obtain ⟨v8, hc, h⟩ := zb1_s h
    refine zE_i (zrV (C := RX5) (As := [.int p2, .int (2 : Int32)]) (rest := []) hx hb hml hown hts tw183 mv_X5_blockCell ⟨Nat.le_of_ble_eq_true rfl, Nat.le_of_ble_eq_true rfl⟩ rfl rfl (ct_X5_blockCell l D ct a f p2 (2 : Int32) k v8 hc) (z_pv hK hP [1, 2] rfl 1 rfl rfl) hl.1 rfl rfl (Nat.le_of_ble_eq_true rfl) dX1_fittingLength_66 ⟨Nat.le_refl _, Nat.le_refl _⟩) ?_
    refine lv_istore (lv' := [(7, .int v8), (6, .int v7), (5, .int v6), (4, .int v5), (0, .ref (a 2)), (1, .int p1), (2, .int p2), (3, .int p3)]) hx hb dX1_fittingLength_69 hl (by decide) rfl (fun ls hl => ?_)
    refine lv_iconst (v := (1 : Int32)) hx hb dX1_fittingLength_71 (by decide) ?_
    refine lv_istore (lv' := [(8, .int (1 : Int32)), (7, .int v8), (6, .int v7), (5, .int v6), (4, .int v5), (0, .ref (a 2)), (1, .int p1), (2, .int p2), (3, .int p3)]) hx hb dX1_fittingLength_72 hl (by decide) rfl (fun ls hl => ?_)
    exact B74 k v5 v6 v7 v8 (1 : Int32) h ls (lv_sub hl [5, 6, 8, 4, 3, 2, 1, 0] rfl)
  · refine lv_bipush (v := (-6 : Int32)) hx hb dX1_fittingLength_13 (by decide) ?_
    exact zR_i hx hb hr hlocks dX1_fittingLength_15 h

def f_X7_fittingCut_b53 (k : Nat) (f : Nat → Int32) (p1 : Int32) (p2 : Int32) (p3 : Int32)  : Nat → Int32 → Option (Int32)
  | 0, _ => none
  | n + 1, x4 =>
    if (3 : Int32) ≤ x4 then
      some (-6 : Int32)
    else
      zb1 (f_X1_fittingLength k f p1 p2 x4) fun v4 =>
      if v4 = (-6 : Int32) then
        zl (x4 + (1 : Int32)) fun v5 =>
        f_X7_fittingCut_b53 k f p1 p2 p3 n v5
      else
        if p3 = 0 then
          some x4
        else
          some v4
def f_X7_fittingCut_b36 (k : Nat) (f : Nat → Int32) (p1 : Int32) (p2 : Int32) (p3 : Int32)   : Option (Int32) :=
  zb1 (f_X1_mayBeSawn k f p2) fun v3 =>
  if v3 = 0 then
    some (-5 : Int32)
  else
    f_X7_fittingCut_b53 k f p1 p2 p3 k (0 : Int32)
def f_X7_fittingCut (k : Nat) (f : Nat → Int32) (p1 : Int32) (p2 : Int32) (p3 : Int32) : Option (Int32) :=
  zb1 (f_X5_hasOrder k f p1) fun v1 =>
  if v1 = 0 then
    some (-1 : Int32)
  else
    zb1 (f_X5_hasBlock k f p2) fun v2 =>
    if v2 = 0 then
      some (-1 : Int32)
    else
      if p3 = 0 then
        f_X7_fittingCut_b36 k f p1 p2 p3
      else
        if p3 = (1 : Int32) then
          f_X7_fittingCut_b36 k f p1 p2 p3
        else
          some (-2 : Int32)
set_option maxRecDepth 100000 in
set_option maxHeartbeats 4000000 in
theorem ct_X7_fittingCut (l : Launch) (D : va_G) (ct a : Nat → Nat) (f : Nat → Int32) (g : Nat → Nat → Int32) (nx : Int32) (hz : Int32) (sw : Nat → Nat → Int32) (fl : Nat → Int32) (sg : Nat → Int32) (pl : Int32) (pa : Int32) (pk : Int32) (pn : Nat → Int32) (pf : Int32) (pg : Int32) (p1 : Int32) (p2 : Int32) (p3 : Int32) (k : Nat) (r : Int32) (h : f_X7_fittingCut k f p1 p2 p3 = some r) : Met l yX7_fittingCut (Cond.code yX7_fittingCut cX7_fittingCut 6 (some .int) :: zT) ({ frames := 5, cells := 0, slots := 0, locals := 122 } : Room) (va_Pc [.ref (a 0), .int p1, .int p2, .int p3] (zPR D (zTys ct) (wX7 ct a f g nx hz sw fl sg pl pa pk pn pf pg))) (vp_Si (fun r' => r' = r)) 0 0 (fun _ => False) := by
  refine zMet (cc := cX7_fittingCut) (maxL := 6) (ret := (some .int)) (av := [.ref (a 0), .int p1, .int p2, .int p3]) (by decide) (Nat.le_of_ble_eq_true rfl) (fun p e s m below meth c ls hx hb hr hml hts hown hlocks hin hB hl => ?_)
  have hl : lv_has ls 6 [(0, .ref (a 0)), (1, .int p1), (2, .int p2), (3, .int p3)] := hl
  have hown : s.vm.findClass RX7 = some m.cls := hown
  obtain ⟨hP, hK⟩ := hB
  have B53 : ∀ (n : Nat), ∀ (x4 : Int32), f_X7_fittingCut_b53 k f p1 p2 p3 n x4 = some r → ∀ (ls : Array Slot), lv_has ls 6 [(0, .ref (a 0)), (1, .int p1), (2, .int p2), (3, .int p3), (4, .int x4)] → W p l e ({ frames := 5, cells := 0, slots := 0, locals := 122 } : Room) s m ([.ref (a 0), .int p1, .int p2, .int p3] : List Value).toArray below meth c s.heap [] 0 0 (MQ below (vp_Si (fun r' => r' = r)) ([.ref (a 0), .int p1, .int p2, .int p3] : List Value).toArray s 0 0 (fun _ => False)) (F0 m 53 ls []) := by
    intro n
    induction n with
    | zero => intro x4 h; exact absurd h (by rw [f_X7_fittingCut_b53]; exact fun q => nomatch q)
    | succ n ih53 =>
      intro x4 h ls hl
      rw [f_X7_fittingCut_b53] at h
      refine lv_iload hx hb dX7_fittingCut_53 (lv_at hl 4 rfl) ?_
      refine lv_iconst (v := (3 : Int32)) hx hb dX7_fittingCut_55 (by decide) ?_
      refine zc_ge (tgt := 97) hx hb dX7_fittingCut_56 (by decide) h (fun h => ?_) (fun h => ?_)
      · refine lv_bipush (v := (-6 : Int32)) hx hb dX7_fittingCut_97 (by decide) ?_
        exact zR_i hx hb hr hlocks dX7_fittingCut_99 h
      · refine lv_aload_n hx hb dX7_fittingCut_59 rfl (lv_at hl 0 rfl) ?_
        refine z_get (C := RX7) (T := TX7) (N := 6) (ci := 6) hx hb hts zin_X7 hown hK.1 hP 0 1 rfl rfl (by decide) tw134 rfl rfl dX7_fittingCut_60 ?_
        refine lv_iload_n hx hb dX7_fittingCut_63 rfl (lv_at hl 1 rfl) ?_
        refine lv_iload_n hx hb dX7_fittingCut_64 rfl (lv_at hl 2 rfl) ?_
        refine lv_iload hx hb dX7_fittingCut_65 (lv_at hl 4 rfl) ?_
        obtain ⟨v4, hc, h⟩ := zb1_s h
        refine zE_i (zrV (C := RX1) (As := [.int p1, .int p2, .int x4]) (rest := []) hx hb hml hown hts tw590 mv_X1_fittingLength ⟨Nat.le_of_ble_eq_true rfl, Nat.le_of_ble_eq_true rfl⟩ rfl rfl (ct_X1_fittingLength l D ct a f p1 p2 x4 k v4 hc) (z_pv hK hP [2, 3, 4] rfl 2 rfl rfl) hl.1 rfl rfl (Nat.le_of_ble_eq_true rfl) dX7_fittingCut_67 ⟨Nat.le_refl _, Nat.le_refl _⟩) ?_
        refine lv_istore (lv' := [(5, .int v4), (0, .ref (a 0)), (1, .int p1), (2, .int p2), (3, .int p3), (4, .int x4)]) hx hb dX7_fittingCut_70 hl (by decide) rfl (fun ls hl => ?_)
        refine lv_iload hx hb dX7_fittingCut_72 (lv_at hl 0 rfl) ?_
        refine lv_bipush (v := (-6 : Int32)) hx hb dX7_fittingCut_74 (by decide) ?_
        refine zc_eq (tgt := 91) hx hb dX7_fittingCut_76 (by decide) h (fun h => ?_) (fun h => ?_)
        · refine o_nm h (fun v5 ey h => ?_)
          refine lv_iinc (v := v5) (lv' := [(4, .int v5), (5, .int v4), (0, .ref (a 0)), (1, .int p1), (2, .int p2), (3, .int p3)]) hx hb dX7_fittingCut_91 hl (k := 5) rfl (Eq.trans rfl ey) (by decide) rfl (fun ls hl => ?_)
          refine lv_goto (tgt := 53) hx hb dX7_fittingCut_94 (by decide) ?_
          exact ih53 v5 h ls (lv_sub hl [2, 3, 4, 5, 0] rfl)
        · refine lv_iload_n hx hb dX7_fittingCut_79 rfl (lv_at hl 4 rfl) ?_
          refine zi_ne (tgt := 88) hx hb dX7_fittingCut_80 (by decide) h (fun h => ?_) (fun h => ?_)
          · refine lv_iload hx hb dX7_fittingCut_88 (lv_at hl 0 rfl) ?_
            exact zR_i hx hb hr hlocks dX7_fittingCut_90 h
          · refine lv_iload hx hb dX7_fittingCut_83 (lv_at hl 5 rfl) ?_
            refine lv_goto (tgt := 90) hx hb dX7_fittingCut_85 (by decide) ?_
            exact zR_i hx hb hr hlocks dX7_fittingCut_90 h
  have B36 : ∀ (_ : Unit), f_X7_fittingCut_b36 k f p1 p2 p3 = some r → ∀ (ls : Array Slot), lv_has ls 6 [(0, .ref (a 0)), (1, .int p1), (2, .int p2), (3, .int p3)] → W p l e ({ frames := 5, cells := 0, slots := 0, locals := 122 } : Room) s m ([.ref (a 0), .int p1, .int p2, .int p3] : List Value).toArray below meth c s.heap [] 0 0 (MQ below (vp_Si (fun r' => r' = r)) ([.ref (a 0), .int p1, .int p2, .int p3] : List Value).toArray s 0 0 (fun _ => False)) (F0 m 36 ls []) := by
    intro _ h ls hl
    rw [f_X7_fittingCut_b36] at h
    refine lv_aload_n hx hb dX7_fittingCut_36 rfl (lv_at hl 0 rfl) ?_
    refine z_get (C := RX7) (T := TX7) (N := 6) (ci := 6) hx hb hts zin_X7 hown hK.1 hP 0 1 rfl rfl (by decide) tw134 rfl rfl dX7_fittingCut_37 ?_
    refine lv_iload_n hx hb dX7_fittingCut_40 rfl (lv_at hl 2 rfl) ?_
    obtain ⟨v3, hc, h⟩ := zb1_s h
    refine zE_i (zrV (C := RX1) (As := [.int p2]) (rest := []) hx hb hml hown hts tw589 mv_X1_mayBeSawn ⟨Nat.le_of_ble_eq_true rfl, Nat.le_of_ble_eq_true rfl⟩ rfl rfl (ct_X1_mayBeSawn l D ct a f p2 k v3 hc) (z_pv hK hP [2, 3, 4] rfl 2 rfl rfl) hl.1 rfl rfl (Nat.le_of_ble_eq_true rfl) dX7_fittingCut_41 ⟨Nat.le_refl _, Nat.le_refl _⟩) ?_
    refine zi_ne (tgt := 50) hx hb dX7_fittingCut_44 (by decide) h (fun h => ?_) (fun h => ?_)
    · refine lv_iconst (v := (0 : Int32)) hx hb dX7_fittingCut_50 (by decide) ?_
      refine lv_istore (lv' := [(4, .int (0 : Int32)), (0, .ref (a 0)), (1, .int p1), (2, .int p2), (3, .int p3)]) hx hb dX7_fittingCut_51 hl (by decide) rfl (fun ls hl => ?_)
      exact B53 k (0 : Int32) h ls (lv_sub hl [1, 2, 3, 4, 0] rfl)
    · refine lv_bipush (v := (-5 : Int32)) hx hb dX7_fittingCut_47 (by decide) ?_
      exact zR_i hx hb hr hlocks dX7_fittingCut_49 h
  rw [f_X7_fittingCut] at h
  refine lv_aload_n hx hb dX7_fittingCut_0 rfl (lv_at hl 0 rfl) ?_
  refine z_get (C := RX7) (T := TX7) (N := 6) (ci := 6) hx hb hts zin_X7 hown hK.1 hP 0 0 rfl rfl (by decide) tw133 rfl rfl dX7_fittingCut_1 ?_
  refine lv_iload_n hx hb dX7_fittingCut_4 rfl (lv_at hl 1 rfl) ?_
  obtain ⟨v1, hc, h⟩ := zb1_s h
  refine zE_i (zrV (C := RX5) (As := [.int p1]) (rest := []) hx hb hml hown hts tw541 mv_X5_hasOrder ⟨Nat.le_of_ble_eq_true rfl, Nat.le_of_ble_eq_true rfl⟩ rfl rfl (ct_X5_hasOrder l D ct a f p1 k v1 hc) (z_pv hK hP [3, 4] rfl 3 rfl rfl) hl.1 rfl rfl (Nat.le_of_ble_eq_true rfl) dX7_fittingCut_5 ⟨Nat.le_refl _, Nat.le_refl _⟩) ?_
  refine zi_eq (tgt := 22) hx hb dX7_fittingCut_8 (by decide) h (fun h => ?_) (fun h => ?_)
  · refine lv_iconst (v := (-1 : Int32)) hx hb dX7_fittingCut_22 (by decide) ?_
    exact zR_i hx hb hr hlocks dX7_fittingCut_23 h
  · refine lv_aload_n hx hb dX7_fittingCut_11 rfl (lv_at hl 0 rfl) ?_
    refine z_get (C := RX7) (T := TX7) (N := 6) (ci := 6) hx hb hts zin_X7 hown hK.1 hP 0 0 rfl rfl (by decide) tw133 rfl rfl dX7_fittingCut_12 ?_
    refine lv_iload_n hx hb dX7_fittingCut_15 rfl (lv_at hl 2 rfl) ?_
    obtain ⟨v2, hc, h⟩ := zb1_s h
    refine zE_i (zrV (C := RX5) (As := [.int p2]) (rest := []) hx hb hml hown hts tw367 mv_X5_hasBlock ⟨Nat.le_of_ble_eq_true rfl, Nat.le_of_ble_eq_true rfl⟩ rfl rfl (ct_X5_hasBlock l D ct a f p2 k v2 hc) (z_pv hK hP [3, 4] rfl 3 rfl rfl) hl.1 rfl rfl (Nat.le_of_ble_eq_true rfl) dX7_fittingCut_16 ⟨Nat.le_refl _, Nat.le_refl _⟩) ?_
    refine zi_ne (tgt := 24) hx hb dX7_fittingCut_19 (by decide) h (fun h => ?_) (fun h => ?_)
    · refine lv_iload_n hx hb dX7_fittingCut_24 rfl (lv_at hl 3 rfl) ?_
      refine zi_eq (tgt := 36) hx hb dX7_fittingCut_25 (by decide) h (fun h => ?_) (fun h => ?_)
      · exact B36 () h ls (lv_sub hl [0, 1, 2, 3] rfl)
      · refine lv_iload_n hx hb dX7_fittingCut_28 rfl (lv_at hl 3 rfl) ?_
        refine lv_iconst (v := (1 : Int32)) hx hb dX7_fittingCut_29 (by decide) ?_
        refine zc_eq (tgt := 36) hx hb dX7_fittingCut_30 (by decide) h (fun h => ?_) (fun h => ?_)
        · exact B36 () h ls (lv_sub hl [0, 1, 2, 3] rfl)
        · refine lv_bipush (v := (-2 : Int32)) hx hb dX7_fittingCut_33 (by decide) ?_
          exact zR_i hx hb hr hlocks dX7_fittingCut_35 h
    · refine lv_iconst (v := (-1 : Int32)) hx hb dX7_fittingCut_22 (by decide) ?_
      exact zR_i hx hb hr hlocks dX7_fittingCut_23 h

def f_X7_ifFrost (k : Nat) (f : Nat → Int32) : Option (Int32) :=
  zb1 (f_X1_blocksForFrost k f) fun v1 =>
  zb1 (f_X5_blocksWith k f (7 : Int32) (0 : Int32)) fun v2 =>
  zl (v1 &&& v2) fun v3 =>
  some v3
set_option maxRecDepth 100000 in
set_option maxHeartbeats 4000000 in
theorem ct_X7_ifFrost (l : Launch) (D : va_G) (ct a : Nat → Nat) (f : Nat → Int32) (g : Nat → Nat → Int32) (nx : Int32) (hz : Int32) (sw : Nat → Nat → Int32) (fl : Nat → Int32) (sg : Nat → Int32) (pl : Int32) (pa : Int32) (pk : Int32) (pn : Nat → Int32) (pf : Int32) (pg : Int32) (k : Nat) (r : Int32) (h : f_X7_ifFrost k f = some r) : Met l yX7_ifFrost (Cond.code yX7_ifFrost cX7_ifFrost 1 (some .int) :: zT) ({ frames := 3, cells := 0, slots := 0, locals := 68 } : Room) (va_Pc [.ref (a 0)] (zPR D (zTys ct) (wX7 ct a f g nx hz sw fl sg pl pa pk pn pf pg))) (vp_Si (fun r' => r' = r)) 0 0 (fun _ => False) := by
  refine zMet (cc := cX7_ifFrost) (maxL := 1) (ret := (some .int)) (av := [.ref (a 0)]) (by decide) (Nat.le_of_ble_eq_true rfl) (fun p e s m below meth c ls hx hb hr hml hts hown hlocks hin hB hl => ?_)
  have hl : lv_has ls 1 [(0, .ref (a 0))] := hl
  have hown : s.vm.findClass RX7 = some m.cls := hown
  obtain ⟨hP, hK⟩ := hB
  rw [f_X7_ifFrost] at h
  refine lv_aload_n hx hb dX7_ifFrost_0 rfl (lv_at hl 0 rfl) ?_
  refine z_get (C := RX7) (T := TX7) (N := 6) (ci := 6) hx hb hts zin_X7 hown hK.1 hP 0 1 rfl rfl (by decide) tw134 rfl rfl dX7_ifFrost_1 ?_
  obtain ⟨v1, hc, h⟩ := zb1_s h
  refine zE_i (zrV (C := RX1) (As := []) (rest := []) hx hb hml hown hts tw552 mv_X1_blocksForFrost ⟨Nat.le_of_ble_eq_true rfl, Nat.le_of_ble_eq_true rfl⟩ rfl rfl (ct_X1_blocksForFrost l D ct a f k v1 hc) (z_pv hK hP [2, 3, 4] rfl 2 rfl rfl) hl.1 rfl rfl (Nat.le_of_ble_eq_true rfl) dX7_ifFrost_4 ⟨Nat.le_refl _, Nat.le_refl _⟩) ?_
  refine lv_aload_n hx hb dX7_ifFrost_7 rfl (lv_at hl 0 rfl) ?_
  refine z_get (C := RX7) (T := TX7) (N := 6) (ci := 6) hx hb hts zin_X7 hown hK.1 hP 0 0 rfl rfl (by decide) tw133 rfl rfl dX7_ifFrost_8 ?_
  refine lv_bipush (v := (7 : Int32)) hx hb dX7_ifFrost_11 (by decide) ?_
  refine lv_iconst (v := (0 : Int32)) hx hb dX7_ifFrost_13 (by decide) ?_
  obtain ⟨v2, hc, h⟩ := zb1_s h
  refine zE_i (zrV (C := RX5) (As := [.int (7 : Int32), .int (0 : Int32)]) (rest := [.int v1]) hx hb hml hown hts tw160 mv_X5_blocksWith ⟨Nat.le_of_ble_eq_true rfl, Nat.le_of_ble_eq_true rfl⟩ rfl rfl (ct_X5_blocksWith l D ct a f (7 : Int32) (0 : Int32) k v2 hc) (z_pv hK hP [3, 4] rfl 3 rfl rfl) hl.1 rfl rfl (Nat.le_of_ble_eq_true rfl) dX7_ifFrost_14 ⟨Nat.le_refl _, Nat.le_refl _⟩) ?_
  refine o_iand hx hb dX7_ifFrost_17 h (fun v3 h => ?_)
  exact zR_i hx hb hr hlocks dX7_ifFrost_18 h

def f_X1_shareOf (k : Nat) (p1 : UInt32) (p2 : Int32) : Option (UInt32) :=
  if p2 ≤ 0 then
    some FP.fconst0
  else
    zl (FP.i2f p2) fun v1 =>
    zg (z32 (FP.fdiv p1 v1)) (zl (FP.fdiv p1 v1) fun v2 =>
    some v2)
set_option maxRecDepth 100000 in
set_option maxHeartbeats 4000000 in
theorem ct_X1_shareOf (l : Launch) (p1 : UInt32) (p2 : Int32) (k : Nat) (r : UInt32) (h : f_X1_shareOf k p1 p2 = some r) : Met l yX1_shareOf (Cond.code yX1_shareOf cX1_shareOf 2 (some .float) :: zT) ({ frames := 0, cells := 0, slots := 0, locals := 0 } : Room) (va_Pc [.float p1, .int p2] (fun _ => True)) (vp_Sf (fun r' => r' = r)) 0 0 (fun _ => False) := by
  refine zMet (cc := cX1_shareOf) (maxL := 2) (ret := (some .float)) (av := [.float p1, .int p2]) (by decide) (Nat.le_of_ble_eq_true rfl) (fun p e s m below meth c ls hx hb hr hml hts hown hlocks hin hB hl => ?_)
  have hl : lv_has ls 2 [(0, .float p1), (1, .int p2)] := hl
  have hown : s.vm.findClass RX1 = some m.cls := hown
  rw [f_X1_shareOf] at h
  refine lv_iload_n hx hb dX1_shareOf_0 rfl (lv_at hl 1 rfl) ?_
  refine zi_le (tgt := 11) hx hb dX1_shareOf_1 (by decide) h (fun h => ?_) (fun h => ?_)
  · refine lv_fconst0 hx hb dX1_shareOf_11 ?_
    exact zR_f hx hb hr hlocks dX1_shareOf_12 h
  · refine lv_fload_n hx hb dX1_shareOf_4 rfl (lv_at hl 0 rfl) ?_
    refine lv_iload_n hx hb dX1_shareOf_5 rfl (lv_at hl 1 rfl) ?_
    refine o_i2f hx hb dX1_shareOf_6 h (fun v1 h => ?_)
    refine o_fdiv hx hb dX1_shareOf_7 h (fun v2 h => ?_)
    refine lv_goto (tgt := 12) hx hb dX1_shareOf_8 (by decide) ?_
    exact zR_f hx hb hr hlocks dX1_shareOf_12 h

def f_X1_greaterShare (k : Nat) (f : Nat → Int32) (p1 : Int32) (p2 : Int32) (p3 : Int32) : Option (UInt32) :=
  zb1 (f_X1_front k f p1 p2 p3) fun v1 =>
  zb1 (f_X5_lorryCell k f p1 (0 : Int32)) fun v2 =>
  zb1 (f_X1_shareOf k v1 v2) fun v3 =>
  zb1 (f_X1_rear k f p1 p2 p3) fun v4 =>
  zb1 (f_X5_lorryCell k f p1 (1 : Int32)) fun v5 =>
  zb1 (f_X1_shareOf k v4 v5) fun v6 =>
  zl (Op.cmpValue (FP.fcmp v3 v6) CmpOp.l) fun v7 =>
  if v7 < 0 then
    some v6
  else
    some v3
set_option maxRecDepth 100000 in
set_option maxHeartbeats 4000000 in
theorem ct_X1_greaterShare (l : Launch) (D : va_G) (ct a : Nat → Nat) (f : Nat → Int32) (p1 : Int32) (p2 : Int32) (p3 : Int32) (k : Nat) (r : UInt32) (h : f_X1_greaterShare k f p1 p2 p3 = some r) : Met l yX1_greaterShare (Cond.code yX1_greaterShare cX1_greaterShare 6 (some .float) :: zT) ({ frames := 3, cells := 0, slots := 0, locals := 75 } : Room) (va_Pc [.ref (a 2), .int p1, .int p2, .int p3] (zPR D (zTys ct) (wX1 ct a f))) (vp_Sf (fun r' => r' = r)) 0 0 (fun _ => False) := by
  refine zMet (cc := cX1_greaterShare) (maxL := 6) (ret := (some .float)) (av := [.ref (a 2), .int p1, .int p2, .int p3]) (by decide) (Nat.le_of_ble_eq_true rfl) (fun p e s m below meth c ls hx hb hr hml hts hown hlocks hin hB hl => ?_)
  have hl : lv_has ls 6 [(0, .ref (a 2)), (1, .int p1), (2, .int p2), (3, .int p3)] := hl
  have hown : s.vm.findClass RX1 = some m.cls := hown
  obtain ⟨hP, hK⟩ := hB
  rw [f_X1_greaterShare] at h
  refine lv_aload_n hx hb dX1_greaterShare_0 rfl (lv_at hl 0 rfl) ?_
  refine lv_iload_n hx hb dX1_greaterShare_1 rfl (lv_at hl 1 rfl) ?_
  refine lv_iload_n hx hb dX1_greaterShare_2 rfl (lv_at hl 2 rfl) ?_
  refine lv_iload_n hx hb dX1_greaterShare_3 rfl (lv_at hl 3 rfl) ?_
  obtain ⟨v1, hc, h⟩ := zb1_s h
  refine zE_f (zrV (C := RX1) (As := [.int p1, .int p2, .int p3]) (rest := []) hx hb hml hown hts tw464 mv_X1_front ⟨Nat.le_of_ble_eq_true rfl, Nat.le_of_ble_eq_true rfl⟩ rfl rfl (ct_X1_front l D ct a f p1 p2 p3 k v1 hc) (z_pv hK hP [0, 1, 2] rfl 0 rfl rfl) hl.1 rfl rfl (Nat.le_of_ble_eq_true rfl) dX1_greaterShare_4 ⟨Nat.le_refl _, Nat.le_refl _⟩) ?_
  refine lv_aload_n hx hb dX1_greaterShare_7 rfl (lv_at hl 0 rfl) ?_
  refine z_get (C := RX1) (T := TX1) (N := 1) (ci := 0) hx hb hts zin_X1 hown hK.1 hP 0 0 rfl rfl (by decide) tw54 rfl rfl dX1_greaterShare_8 ?_
  refine lv_iload_n hx hb dX1_greaterShare_11 rfl (lv_at hl 1 rfl) ?_
  refine lv_iconst (v := (0 : Int32)) hx hb dX1_greaterShare_12 (by decide) ?_
  obtain ⟨v2, hc, h⟩ := zb1_s h
  refine zE_i (zrV (C := RX5) (As := [.int p1, .int (0 : Int32)]) (rest := [.float v1]) hx hb hml hown hts tw460 mv_X5_lorryCell ⟨Nat.le_of_ble_eq_true rfl, Nat.le_of_ble_eq_true rfl⟩ rfl rfl (ct_X5_lorryCell l D ct a f p1 (0 : Int32) k v2 hc) (z_pv hK hP [1, 2] rfl 1 rfl rfl) hl.1 rfl rfl (Nat.le_of_ble_eq_true rfl) dX1_greaterShare_13 ⟨Nat.le_refl _, Nat.le_refl _⟩) ?_
  obtain ⟨v3, hc, h⟩ := zb1_s h
  refine zE_f (zrS (As := [.float v1, .int v2]) (rest := []) hx hb hml hown hts tw608 ms_X1_shareOf ⟨Nat.le_of_ble_eq_true rfl, Nat.le_of_ble_eq_true rfl⟩ rfl rfl (ct_X1_shareOf l v1 v2 k v3 hc) z_p0 hl.1 rfl rfl (Nat.le_of_ble_eq_true rfl) dX1_greaterShare_16 ⟨Nat.le_refl _, Nat.le_refl _⟩) ?_
  refine lv_fstore (lv' := [(4, .float v3), (0, .ref (a 2)), (1, .int p1), (2, .int p2), (3, .int p3)]) hx hb dX1_greaterShare_19 hl (by decide) rfl (fun ls hl => ?_)
  refine lv_aload_n hx hb dX1_greaterShare_21 rfl (lv_at hl 1 rfl) ?_
  refine lv_iload_n hx hb dX1_greaterShare_22 rfl (lv_at hl 2 rfl) ?_
  refine lv_iload_n hx hb dX1_greaterShare_23 rfl (lv_at hl 3 rfl) ?_
  refine lv_iload_n hx hb dX1_greaterShare_24 rfl (lv_at hl 4 rfl) ?_
  obtain ⟨v4, hc, h⟩ := zb1_s h
  refine zE_f (zrV (C := RX1) (As := [.int p1, .int p2, .int p3]) (rest := []) hx hb hml hown hts tw473 mv_X1_rear ⟨Nat.le_of_ble_eq_true rfl, Nat.le_of_ble_eq_true rfl⟩ rfl rfl (ct_X1_rear l D ct a f p1 p2 p3 k v4 hc) (z_pv hK hP [0, 1, 2] rfl 0 rfl rfl) hl.1 rfl rfl (Nat.le_of_ble_eq_true rfl) dX1_greaterShare_25 ⟨Nat.le_refl _, Nat.le_refl _⟩) ?_
  refine lv_aload_n hx hb dX1_greaterShare_28 rfl (lv_at hl 1 rfl) ?_
  refine z_get (C := RX1) (T := TX1) (N := 1) (ci := 0) hx hb hts zin_X1 hown hK.1 hP 0 0 rfl rfl (by decide) tw54 rfl rfl dX1_greaterShare_29 ?_
  refine lv_iload_n hx hb dX1_greaterShare_32 rfl (lv_at hl 2 rfl) ?_
  refine lv_iconst (v := (1 : Int32)) hx hb dX1_greaterShare_33 (by decide) ?_
  obtain ⟨v5, hc, h⟩ := zb1_s h
  refine zE_i (zrV (C := RX5) (As := [.int p1, .int (1 : Int32)]) (rest := [.float v4]) hx hb hml hown hts tw460 mv_X5_lorryCell ⟨Nat.le_of_ble_eq_true rfl, Nat.le_of_ble_eq_true rfl⟩ rfl rfl (ct_X5_lorryCell l D ct a f p1 (1 : Int32) k v5 hc) (z_pv hK hP [1, 2] rfl 1 rfl rfl) hl.1 rfl rfl (Nat.le_of_ble_eq_true rfl) dX1_greaterShare_34 ⟨Nat.le_refl _, Nat.le_refl _⟩) ?_
  obtain ⟨v6, hc, h⟩ := zb1_s h
  refine zE_f (zrS (As := [.float v4, .int v5]) (rest := []) hx hb hml hown hts tw608 ms_X1_shareOf ⟨Nat.le_of_ble_eq_true rfl, Nat.le_of_ble_eq_true rfl⟩ rfl rfl (ct_X1_shareOf l v4 v5 k v6 hc) z_p0 hl.1 rfl rfl (Nat.le_of_ble_eq_true rfl) dX1_greaterShare_37 ⟨Nat.le_refl _, Nat.le_refl _⟩) ?_
  refine lv_fstore (lv' := [(5, .float v6), (4, .float v3), (0, .ref (a 2)), (1, .int p1), (2, .int p2), (3, .int p3)]) hx hb dX1_greaterShare_40 hl (by decide) rfl (fun ls hl => ?_)
  refine lv_fload hx hb dX1_greaterShare_42 (lv_at hl 1 rfl) ?_
  refine lv_fload hx hb dX1_greaterShare_44 (lv_at hl 0 rfl) ?_
  refine o_fcmp hx hb dX1_greaterShare_46 h (fun v7 h => ?_)
  refine zi_lt (tgt := 55) hx hb dX1_greaterShare_47 (by decide) h (fun h => ?_) (fun h => ?_)
  · refine lv_fload hx hb dX1_greaterShare_55 (lv_at hl 0 rfl) ?_
    exact zR_f hx hb hr hlocks dX1_greaterShare_57 h
  · refine lv_fload hx hb dX1_greaterShare_50 (lv_at hl 1 rfl) ?_
    refine lv_goto (tgt := 57) hx hb dX1_greaterShare_52 (by decide) ?_
    exact zR_f hx hb hr hlocks dX1_greaterShare_57 h

def f_X1_easiestPlace_b61 (k : Nat) (f : Nat → Int32) (p1 : Int32) (p2 : Int32) (k20 : Int32 → Int32 → UInt32 → Int32 → Option (Int32)) (x3 : Int32) (x6 : Int32) (x7 : UInt32) : Option (Int32) :=
  zl (x6 + (1 : Int32)) fun v5 =>
  k20 x3 x6 x7 v5
def f_X1_easiestPlace_b20 (k : Nat) (f : Nat → Int32) (p1 : Int32) (p2 : Int32)  : Nat → Int32 → Int32 → UInt32 → Int32 → Option (Int32)
  | 0, _, _, _, _ => none
  | n + 1, x3, x4, x5, x6 =>
    if (5 : Int32) ≤ x6 then
      some x4
    else
      zb1 (f_X1_isFree k f p2 x6) fun v2 =>
      if v2 = 0 then
        zl (x6 + (1 : Int32)) fun v3 =>
        f_X1_easiestPlace_b20 k f p1 p2 n x3 x4 x5 v3
      else
        zb1 (f_X1_greaterShare k f p2 x6 x3) fun v4 =>
        if x4 = (-6 : Int32) then
          f_X1_easiestPlace_b61 k f p1 p2 (f_X1_easiestPlace_b20 k f p1 p2 n) x3 x6 v4
        else
          zl (Op.cmpValue (FP.fcmp v4 x5) CmpOp.g) fun v6 =>
          if 0 ≤ v6 then
            zl (x6 + (1 : Int32)) fun v7 =>
            f_X1_easiestPlace_b20 k f p1 p2 n x3 x4 x5 v7
          else
            f_X1_easiestPlace_b61 k f p1 p2 (f_X1_easiestPlace_b20 k f p1 p2 n) x3 x6 v4
def f_X1_easiestPlace (k : Nat) (f : Nat → Int32) (p1 : Int32) (p2 : Int32) : Option (Int32) :=
  zb1 (f_X5_blockCell k f p1 (4 : Int32)) fun v1 =>
  f_X1_easiestPlace_b20 k f p1 p2 k v1 (-6 : Int32) FP.fconst0 (0 : Int32)
set_option maxRecDepth 100000 in
set_option maxHeartbeats 4000000 in
theorem ct_X1_easiestPlace (l : Launch) (D : va_G) (ct a : Nat → Nat) (f : Nat → Int32) (p1 : Int32) (p2 : Int32) (k : Nat) (r : Int32) (h : f_X1_easiestPlace k f p1 p2 = some r) : Met l yX1_easiestPlace (Cond.code yX1_easiestPlace cX1_easiestPlace 8 (some .int) :: zT) ({ frames := 4, cells := 0, slots := 0, locals := 100 } : Room) (va_Pc [.ref (a 2), .int p1, .int p2] (zPR D (zTys ct) (wX1 ct a f))) (vp_Si (fun r' => r' = r)) 0 0 (fun _ => False) := by
  refine zMet (cc := cX1_easiestPlace) (maxL := 8) (ret := (some .int)) (av := [.ref (a 2), .int p1, .int p2]) (by decide) (Nat.le_of_ble_eq_true rfl) (fun p e s m below meth c ls hx hb hr hml hts hown hlocks hin hB hl => ?_)
  have hl : lv_has ls 8 [(0, .ref (a 2)), (1, .int p1), (2, .int p2)] := hl
  have hown : s.vm.findClass RX1 = some m.cls := hown
  obtain ⟨hP, hK⟩ := hB
  have B61 : ∀ (k20 : Int32 → Int32 → UInt32 → Int32 → Option (Int32)) (hk20 : ∀ (x3 : Int32) (x4 : Int32) (x5 : UInt32) (x6 : Int32), k20 x3 x4 x5 x6 = some r → ∀ (ls : Array Slot), lv_has ls 8 [(0, .ref (a 2)), (2, .int p2), (3, .int x3), (4, .int x4), (5, .float x5), (6, .int x6)] → W p l e ({ frames := 4, cells := 0, slots := 0, locals := 100 } : Room) s m ([.ref (a 2), .int p1, .int p2] : List Value).toArray below meth c s.heap [] 0 0 (MQ below (vp_Si (fun r' => r' = r)) ([.ref (a 2), .int p1, .int p2] : List Value).toArray s 0 0 (fun _ => False)) (F0 m 20 ls [])), ∀ (x3 : Int32) (x6 : Int32) (x7 : UInt32), f_X1_easiestPlace_b61 k f p1 p2 k20 x3 x6 x7 = some r → ∀ (ls : Array Slot), lv_has ls 8 [(0, .ref (a 2)), (2, .int p2), (3, .int x3), (6, .int x6), (7, .float x7)] → W p l e ({ frames := 4, cells := 0, slots := 0, locals := 100 } : Room) s m ([.ref (a 2), .int p1, .int p2] : List Value).toArray below meth c s.heap [] 0 0 (MQ below (vp_Si (fun r' => r' = r)) ([.ref (a 2), .int p1, .int p2] : List Value).toArray s 0 0 (fun _ => False)) (F0 m 61 ls []) := by
    intro k20 hk20
    intro x3 x6 x7 h ls hl
    rw [f_X1_easiestPlace_b61] at h
    refine lv_iload hx hb dX1_easiestPlace_61 (lv_at hl 3 rfl) ?_
    refine lv_istore (lv' := [(4, .int x6), (0, .ref (a 2)), (2, .int p2), (3, .int x3), (6, .int x6), (7, .float x7)]) hx hb dX1_easiestPlace_63 hl (by decide) rfl (fun ls hl => ?_)
    refine lv_fload hx hb dX1_easiestPlace_65 (lv_at hl 5 rfl) ?_
    refine lv_fstore (lv' := [(5, .float x7), (4, .int x6), (0, .ref (a 2)), (2, .int p2), (3, .int x3), (6, .int x6), (7, .float x7)]) hx hb dX1_easiestPlace_67 hl (by decide) rfl (fun ls hl => ?_)
    refine o_nm h (fun v5 ey h => ?_)
    refine lv_iinc (v := v5) (lv' := [(6, .int v5), (5, .float x7), (4, .int x6), (0, .ref (a 2)), (2, .int p2), (3, .int x3), (7, .float x7)]) hx hb dX1_easiestPlace_69 hl (k := 5) rfl (Eq.trans rfl ey) (by decide) rfl (fun ls hl => ?_)
    refine lv_goto (tgt := 20) hx hb dX1_easiestPlace_72 (by decide) ?_
    exact hk20 x3 x6 x7 v5 h ls (lv_sub hl [3, 4, 5, 2, 1, 0] rfl)
  have B20 : ∀ (n : Nat), ∀ (x3 : Int32) (x4 : Int32) (x5 : UInt32) (x6 : Int32), f_X1_easiestPlace_b20 k f p1 p2 n x3 x4 x5 x6 = some r → ∀ (ls : Array Slot), lv_has ls 8 [(0, .ref (a 2)), (2, .int p2), (3, .int x3), (4, .int x4), (5, .float x5), (6, .int x6)] → W p l e ({ frames := 4, cells := 0, slots := 0, locals := 100 } : Room) s m ([.ref (a 2), .int p1, .int p2] : List Value).toArray below meth c s.heap [] 0 0 (MQ below (vp_Si (fun r' => r' = r)) ([.ref (a 2), .int p1, .int p2] : List Value).toArray s 0 0 (fun _ => False)) (F0 m 20 ls []) := by
    intro n
    induction n with
    | zero => intro x3 x4 x5 x6 h; exact absurd h (by rw [f_X1_easiestPlace_b20]; exact fun q => nomatch q)
    | succ n ih20 =>
      intro x3 x4 x5 x6 h ls hl
      rw [f_X1_easiestPlace_b20] at h
      refine lv_iload hx hb dX1_easiestPlace_20 (lv_at hl 5 rfl) ?_
      refine lv_iconst (v := (5 : Int32)) hx hb dX1_easiestPlace_22 (by decide) ?_
      refine zc_ge (tgt := 75) hx hb dX1_easiestPlace_23 (by decide) h (fun h => ?_) (fun h => ?_)
      · refine lv_iload hx hb dX1_easiestPlace_75 (lv_at hl 3 rfl) ?_
        exact zR_i hx hb hr hlocks dX1_easiestPlace_77 h
      · refine lv_aload_n hx hb dX1_easiestPlace_26 rfl (lv_at hl 0 rfl) ?_
        refine lv_iload_n hx hb dX1_easiestPlace_27 rfl (lv_at hl 1 rfl) ?_
        refine lv_iload hx hb dX1_easiestPlace_28 (lv_at hl 5 rfl) ?_
        obtain ⟨v2, hc, h⟩ := zb1_s h
        refine zE_i (zrV (C := RX1) (As := [.int p2, .int x6]) (rest := []) hx hb hml hown hts tw603 mv_X1_isFree ⟨Nat.le_of_ble_eq_true rfl, Nat.le_of_ble_eq_true rfl⟩ rfl rfl (ct_X1_isFree l D ct a f p2 x6 k v2 hc) (z_pv hK hP [0, 1, 2] rfl 0 rfl rfl) hl.1 rfl rfl (Nat.le_of_ble_eq_true rfl) dX1_easiestPlace_30 ⟨Nat.le_refl _, Nat.le_refl _⟩) ?_
        refine zi_eq (tgt := 69) hx hb dX1_easiestPlace_33 (by decide) h (fun h => ?_) (fun h => ?_)
        · refine o_nm h (fun v3 ey h => ?_)
          refine lv_iinc (v := v3) (lv' := [(6, .int v3), (0, .ref (a 2)), (2, .int p2), (3, .int x3), (4, .int x4), (5, .float x5)]) hx hb dX1_easiestPlace_69 hl (k := 5) rfl (Eq.trans rfl ey) (by decide) rfl (fun ls hl => ?_)
          refine lv_goto (tgt := 20) hx hb dX1_easiestPlace_72 (by decide) ?_
          exact ih20 x3 x4 x5 v3 h ls (lv_sub hl [1, 2, 3, 4, 5, 0] rfl)
        · refine lv_aload_n hx hb dX1_easiestPlace_36 rfl (lv_at hl 0 rfl) ?_
          refine lv_iload_n hx hb dX1_easiestPlace_37 rfl (lv_at hl 1 rfl) ?_
          refine lv_iload hx hb dX1_easiestPlace_38 (lv_at hl 5 rfl) ?_
          refine lv_iload_n hx hb dX1_easiestPlace_40 rfl (lv_at hl 2 rfl) ?_
          obtain ⟨v4, hc, h⟩ := zb1_s h
          refine zE_f (zrV (C := RX1) (As := [.int p2, .int x6, .int x3]) (rest := []) hx hb hml hown hts tw604 mv_X1_greaterShare ⟨Nat.le_of_ble_eq_true rfl, Nat.le_of_ble_eq_true rfl⟩ rfl rfl (ct_X1_greaterShare l D ct a f p2 x6 x3 k v4 hc) (z_pv hK hP [0, 1, 2] rfl 0 rfl rfl) hl.1 rfl rfl (Nat.le_of_ble_eq_true rfl) dX1_easiestPlace_41 ⟨Nat.le_refl _, Nat.le_refl _⟩) ?_
          refine lv_fstore (lv' := [(7, .float v4), (0, .ref (a 2)), (2, .int p2), (3, .int x3), (4, .int x4), (5, .float x5), (6, .int x6)]) hx hb dX1_easiestPlace_44 hl (by decide) rfl (fun ls hl => ?_)
          refine lv_iload hx hb dX1_easiestPlace_46 (lv_at hl 4 rfl) ?_
          refine lv_bipush (v := (-6 : Int32)) hx hb dX1_easiestPlace_48 (by decide) ?_
          refine zc_eq (tgt := 61) hx hb dX1_easiestPlace_50 (by decide) h (fun h => ?_) (fun h => ?_)
          · exact B61 (f_X1_easiestPlace_b20 k f p1 p2 n) ih20 x3 x6 v4 h ls (lv_sub hl [1, 2, 3, 6, 0] rfl)
          · refine lv_fload hx hb dX1_easiestPlace_53 (lv_at hl 0 rfl) ?_
            refine lv_fload hx hb dX1_easiestPlace_55 (lv_at hl 5 rfl) ?_
            refine o_fcmp hx hb dX1_easiestPlace_57 h (fun v6 h => ?_)
            refine zi_ge (tgt := 69) hx hb dX1_easiestPlace_58 (by decide) h (fun h => ?_) (fun h => ?_)
            · refine o_nm h (fun v7 ey h => ?_)
              refine lv_iinc (v := v7) (lv' := [(6, .int v7), (7, .float v4), (0, .ref (a 2)), (2, .int p2), (3, .int x3), (4, .int x4), (5, .float x5)]) hx hb dX1_easiestPlace_69 hl (k := 6) rfl (Eq.trans rfl ey) (by decide) rfl (fun ls hl => ?_)
              refine lv_goto (tgt := 20) hx hb dX1_easiestPlace_72 (by decide) ?_
              exact ih20 x3 x4 x5 v7 h ls (lv_sub hl [2, 3, 4, 5, 6, 0] rfl)
            · exact B61 (f_X1_easiestPlace_b20 k f p1 p2 n) ih20 x3 x6 v4 h ls (lv_sub hl [1, 2, 3, 6, 0] rfl)
  rw [f_X1_easiestPlace] at h
  refine lv_aload_n hx hb dX1_easiestPlace_0 rfl (lv_at hl 0 rfl) ?_
  refine z_get (C := RX1) (T := TX1) (N := 1) (ci := 0) hx hb hts zin_X1 hown hK.1 hP 0 0 rfl rfl (by decide) tw54 rfl rfl dX1_easiestPlace_1 ?_
  refine lv_iload_n hx hb dX1_easiestPlace_4 rfl (lv_at hl 1 rfl) ?_
  refine lv_iconst (v := (4 : Int32)) hx hb dX1_easiestPlace_5 (by decide) ?_
  obtain ⟨v1, hc, h⟩ := zb1_s h
  refine zE_i (zrV (C := RX5) (As := [.int p1, .int (4 : Int32)]) (rest := []) hx hb hml hown hts tw183 mv_X5_blockCell ⟨Nat.le_of_ble_eq_true rfl, Nat.le_of_ble_eq_true rfl⟩ rfl rfl (ct_X5_blockCell l D ct a f p1 (4 : Int32) k v1 hc) (z_pv hK hP [1, 2] rfl 1 rfl rfl) hl.1 rfl rfl (Nat.le_of_ble_eq_true rfl) dX1_easiestPlace_6 ⟨Nat.le_refl _, Nat.le_refl _⟩) ?_
  refine lv_istore_n (lv' := [(3, .int v1), (0, .ref (a 2)), (1, .int p1), (2, .int p2)]) hx hb dX1_easiestPlace_9 rfl hl (by decide) rfl (fun ls hl => ?_)
  refine lv_bipush (v := (-6 : Int32)) hx hb dX1_easiestPlace_10 (by decide) ?_
  refine lv_istore (lv' := [(4, .int (-6 : Int32)), (3, .int v1), (0, .ref (a 2)), (1, .int p1), (2, .int p2)]) hx hb dX1_easiestPlace_12 hl (by decide) rfl (fun ls hl => ?_)
  refine lv_fconst0 hx hb dX1_easiestPlace_14 ?_
  refine lv_fstore (lv' := [(5, .float FP.fconst0), (4, .int (-6 : Int32)), (3, .int v1), (0, .ref (a 2)), (1, .int p1), (2, .int p2)]) hx hb dX1_easiestPlace_15 hl (by decide) rfl (fun ls hl => ?_)
  refine lv_iconst (v := (0 : Int32)) hx hb dX1_easiestPlace_17 (by decide) ?_
  refine lv_istore (lv' := [(6, .int (0 : Int32)), (5, .float FP.fconst0), (4, .int (-6 : Int32)), (3, .int v1), (0, .ref (a 2)), (1, .int p1), (2, .int p2)]) hx hb dX1_easiestPlace_18 hl (by decide) rfl (fun ls hl => ?_)
  exact B20 k v1 (-6 : Int32) FP.fconst0 (0 : Int32) h ls (lv_sub hl [4, 6, 3, 2, 1, 0] rfl)

def f_X7_bestPlace (k : Nat) (f : Nat → Int32) (p1 : Int32) (p2 : Int32) : Option (Int32) :=
  zb1 (f_X5_hasBlock k f p1) fun v1 =>
  if v1 = 0 then
    some (-1 : Int32)
  else
    zb1 (f_X7_isLorry k p2) fun v2 =>
    if v2 = 0 then
      some (-1 : Int32)
    else
      zb1 (f_X1_isAtHand k f p1) fun v3 =>
      if v3 = 0 then
        some (-5 : Int32)
      else
        zb1 (f_X1_easiestPlace k f p1 p2) fun v4 =>
        some v4
set_option maxRecDepth 100000 in
set_option maxHeartbeats 4000000 in
theorem ct_X7_bestPlace (l : Launch) (D : va_G) (ct a : Nat → Nat) (f : Nat → Int32) (g : Nat → Nat → Int32) (nx : Int32) (hz : Int32) (sw : Nat → Nat → Int32) (fl : Nat → Int32) (sg : Nat → Int32) (pl : Int32) (pa : Int32) (pk : Int32) (pn : Nat → Int32) (pf : Int32) (pg : Int32) (p1 : Int32) (p2 : Int32) (k : Nat) (r : Int32) (h : f_X7_bestPlace k f p1 p2 = some r) : Met l yX7_bestPlace (Cond.code yX7_bestPlace cX7_bestPlace 3 (some .int) :: zT) ({ frames := 5, cells := 0, slots := 0, locals := 127 } : Room) (va_Pc [.ref (a 0), .int p1, .int p2] (zPR D (zTys ct) (wX7 ct a f g nx hz sw fl sg pl pa pk pn pf pg))) (vp_Si (fun r' => r' = r)) 0 0 (fun _ => False) := by
  refine zMet (cc := cX7_bestPlace) (maxL := 3) (ret := (some .int)) (av := [.ref (a 0), .int p1, .int p2]) (by decide) (Nat.le_of_ble_eq_true rfl) (fun p e s m below meth c ls hx hb hr hml hts hown hlocks hin hB hl => ?_)
  have hl : lv_has ls 3 [(0, .ref (a 0)), (1, .int p1), (2, .int p2)] := hl
  have hown : s.vm.findClass RX7 = some m.cls := hown
  obtain ⟨hP, hK⟩ := hB
  rw [f_X7_bestPlace] at h
  refine lv_aload_n hx hb dX7_bestPlace_0 rfl (lv_at hl 0 rfl) ?_
  refine z_get (C := RX7) (T := TX7) (N := 6) (ci := 6) hx hb hts zin_X7 hown hK.1 hP 0 0 rfl rfl (by decide) tw133 rfl rfl dX7_bestPlace_1 ?_
  refine lv_iload_n hx hb dX7_bestPlace_4 rfl (lv_at hl 1 rfl) ?_
  obtain ⟨v1, hc, h⟩ := zb1_s h
  refine zE_i (zrV (C := RX5) (As := [.int p1]) (rest := []) hx hb hml hown hts tw367 mv_X5_hasBlock ⟨Nat.le_of_ble_eq_true rfl, Nat.le_of_ble_eq_true rfl⟩ rfl rfl (ct_X5_hasBlock l D ct a f p1 k v1 hc) (z_pv hK hP [3, 4] rfl 3 rfl rfl) hl.1 rfl rfl (Nat.le_of_ble_eq_true rfl) dX7_bestPlace_5 ⟨Nat.le_refl _, Nat.le_refl _⟩) ?_
  refine zi_eq (tgt := 18) hx hb dX7_bestPlace_8 (by decide) h (fun h => ?_) (fun h => ?_)
  · refine lv_iconst (v := (-1 : Int32)) hx hb dX7_bestPlace_18 (by decide) ?_
    exact zR_i hx hb hr hlocks dX7_bestPlace_19 h
  · refine lv_iload_n hx hb dX7_bestPlace_11 rfl (lv_at hl 2 rfl) ?_
    obtain ⟨v2, hc, h⟩ := zb1_s h
    refine zE_i (zrS (As := [.int p2]) (rest := []) hx hb hml hown hts tw527 ms_X7_isLorry ⟨Nat.le_of_ble_eq_true rfl, Nat.le_of_ble_eq_true rfl⟩ rfl rfl (ct_X7_isLorry l p2 k v2 hc) z_p0 hl.1 rfl rfl (Nat.le_of_ble_eq_true rfl) dX7_bestPlace_12 ⟨Nat.le_refl _, Nat.le_refl _⟩) ?_
    refine zi_ne (tgt := 20) hx hb dX7_bestPlace_15 (by decide) h (fun h => ?_) (fun h => ?_)
    · refine lv_aload_n hx hb dX7_bestPlace_20 rfl (lv_at hl 0 rfl) ?_
      refine z_get (C := RX7) (T := TX7) (N := 6) (ci := 6) hx hb hts zin_X7 hown hK.1 hP 0 1 rfl rfl (by decide) tw134 rfl rfl dX7_bestPlace_21 ?_
      refine lv_iload_n hx hb dX7_bestPlace_24 rfl (lv_at hl 1 rfl) ?_
      obtain ⟨v3, hc, h⟩ := zb1_s h
      refine zE_i (zrV (C := RX1) (As := [.int p1]) (rest := []) hx hb hml hown hts tw598 mv_X1_isAtHand ⟨Nat.le_of_ble_eq_true rfl, Nat.le_of_ble_eq_true rfl⟩ rfl rfl (ct_X1_isAtHand l D ct a f p1 k v3 hc) (z_pv hK hP [2, 3, 4] rfl 2 rfl rfl) hl.1 rfl rfl (Nat.le_of_ble_eq_true rfl) dX7_bestPlace_25 ⟨Nat.le_refl _, Nat.le_refl _⟩) ?_
      refine zi_eq (tgt := 43) hx hb dX7_bestPlace_28 (by decide) h (fun h => ?_) (fun h => ?_)
      · refine lv_bipush (v := (-5 : Int32)) hx hb dX7_bestPlace_43 (by decide) ?_
        exact zR_i hx hb hr hlocks dX7_bestPlace_45 h
      · refine lv_aload_n hx hb dX7_bestPlace_31 rfl (lv_at hl 0 rfl) ?_
        refine z_get (C := RX7) (T := TX7) (N := 6) (ci := 6) hx hb hts zin_X7 hown hK.1 hP 0 1 rfl rfl (by decide) tw134 rfl rfl dX7_bestPlace_32 ?_
        refine lv_iload_n hx hb dX7_bestPlace_35 rfl (lv_at hl 1 rfl) ?_
        refine lv_iload_n hx hb dX7_bestPlace_36 rfl (lv_at hl 2 rfl) ?_
        obtain ⟨v4, hc, h⟩ := zb1_s h
        refine zE_i (zrV (C := RX1) (As := [.int p1, .int p2]) (rest := []) hx hb hml hown hts tw599 mv_X1_easiestPlace ⟨Nat.le_of_ble_eq_true rfl, Nat.le_of_ble_eq_true rfl⟩ rfl rfl (ct_X1_easiestPlace l D ct a f p1 p2 k v4 hc) (z_pv hK hP [2, 3, 4] rfl 2 rfl rfl) hl.1 rfl rfl (Nat.le_of_ble_eq_true rfl) dX7_bestPlace_37 ⟨Nat.le_refl _, Nat.le_refl _⟩) ?_
        refine lv_goto (tgt := 45) hx hb dX7_bestPlace_40 (by decide) ?_
        exact zR_i hx hb hr hlocks dX7_bestPlace_45 h
    · refine lv_iconst (v := (-1 : Int32)) hx hb dX7_bestPlace_18 (by decide) ?_
      exact zR_i hx hb hr hlocks dX7_bestPlace_19 h

