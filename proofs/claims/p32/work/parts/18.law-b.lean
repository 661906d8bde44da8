/-! written by wip/p32/gen.py: each method as a function, and its contract -/
def f_L_axle_b82 (k : Nat) (f : Nat → Int32) (hz : Int32) (pl : Int32) (p2 : Int32) (p3 : Int32) (k5 : Int32 → Int32 → Option (Int32)) (x4 : Int32) (y0 : Int32) (y1 : Int32) : Option (Int32) :=
  zl (y1 + y0) fun v10 =>
  zl (x4 + (1 : Int32)) fun v11 =>
  k5 v10 v11
def f_L_axle_b81 (k : Nat) (f : Nat → Int32) (hz : Int32) (pl : Int32) (p2 : Int32) (p3 : Int32) (k5 : Int32 → Int32 → Option (Int32)) (x4 : Int32) (y0 : Int32) (y1 : Int32) (y2 : Int32) : Option (Int32) :=
  zl (y1 * y0) fun v9 =>
  f_L_axle_b82 k f hz pl p2 p3 (k5) x4 v9 y2
def f_L_axle_b45 (k : Nat) (f : Nat → Int32) (hz : Int32) (pl : Int32) (p2 : Int32) (p3 : Int32) (k5 : Int32 → Int32 → Option (Int32)) (x3 : Int32) (x4 : Int32) (x5 : Int32) (y0 : Int32) : Option (Int32) :=
  if y0 = 0 then
    f_L_axle_b82 k f hz pl p2 p3 (k5) x4 (0 : Int32) x3
  else
    zb1 (f_X7_of k f x4 (4 : Int32)) fun v6 =>
    if p3 = 0 then
      zl (x5 - x5 / (5 : Int32) * (5 : Int32)) fun v7 =>
      zl ((4 : Int32) - v7) fun v8 =>
      f_L_axle_b81 k f hz pl p2 p3 (k5) x4 v8 v6 x3
    else
      zl (x5 - x5 / (5 : Int32) * (5 : Int32)) fun v12 =>
      f_L_axle_b81 k f hz pl p2 p3 (k5) x4 v12 v6 x3
def f_L_axle_b5 (k : Nat) (f : Nat → Int32) (hz : Int32) (pl : Int32) (p2 : Int32) (p3 : Int32)  : Nat → Int32 → Int32 → Option (Int32)
  | 0, _, _ => none
  | n + 1, x3, x4 =>
    zb1 (f_X7_count k f hz pl (1 : Int32)) fun v1 =>
    if v1 ≤ x4 then
      some x3
    else
      zb1 (f_X7_of k f x4 (9 : Int32)) fun v2 =>
      zb1 (f_X7_ofLorry k f p2 (3 : Int32)) fun v3 =>
      zl (v3 >>> (x4 &&& 31)) fun v4 =>
      zl (v4 &&& (1 : Int32)) fun v5 =>
      if v5 = (1 : Int32) then
        f_L_axle_b45 k f hz pl p2 p3 (f_L_axle_b5 k f hz pl p2 p3 n) x3 x4 v2 (1 : Int32)
      else
        f_L_axle_b45 k f hz pl p2 p3 (f_L_axle_b5 k f hz pl p2 p3 n) x3 x4 v2 (0 : Int32)
def f_L_axle (k : Nat) (f : Nat → Int32) (hz : Int32) (pl : Int32) (p2 : Int32) (p3 : Int32) : Option (Int32) :=
  f_L_axle_b5 k f hz pl p2 p3 k (0 : Int32) (0 : Int32)
set_option maxRecDepth 100000 in
set_option maxHeartbeats 4000000 in
theorem ct_L_axle (l : Launch) (D : va_G) (ct a : Nat → Nat) (f : Nat → Int32) (g : Nat → Nat → Int32) (nx : Int32) (hz : Int32) (sw : Nat → Nat → Int32) (fl : Nat → Int32) (sg : Nat → Int32) (pl : Int32) (pa : Int32) (pk : Int32) (pn : Nat → Int32) (pf : Int32) (pg : Int32) (p2 : Int32) (p3 : Int32) (k : Nat) (r : Int32) (h : f_L_axle k f hz pl p2 p3 = some r) : Met l yL_axle (Cond.code yL_axle cL_axle 7 (some .int) :: zT) ({ frames := 6, cells := 0, slots := 0, locals := 130 } : Room) (va_Pc [.ref (a 0), .int p2, .int p3] (zPR D (zTys ct) (wX7 ct a f g nx hz sw fl sg pl pa pk pn pf pg))) (vp_Si (fun r' => r' = r)) 0 0 (fun _ => False) := by
  refine zMet (cc := cL_axle) (maxL := 7) (ret := (some .int)) (av := [.ref (a 0), .int p2, .int p3]) (by decide) (Nat.le_of_ble_eq_true rfl) (fun p e s m below meth c ls hx hb hr hml hts hown hlocks hin hB hl => ?_)
  have hl : lv_has ls 7 [(0, .ref (a 0)), (1, .int p2), (2, .int p3)] := hl
  have hown : s.vm.findClass RL = some m.cls := hown
  obtain ⟨hP, hK⟩ := hB
  have B82 : ∀ (k5 : Int32 → Int32 → Option (Int32)) (hk5 : ∀ (x3 : Int32) (x4 : Int32), k5 x3 x4 = some r → ∀ (ls : Array Slot), lv_has ls 7 [(0, .ref (a 0)), (1, .int p2), (2, .int p3), (3, .int x3), (4, .int x4)] → W p l e ({ frames := 6, cells := 0, slots := 0, locals := 130 } : Room) s m ([.ref (a 0), .int p2, .int p3] : List Value).toArray below meth c s.heap [] 0 0 (MQ below (vp_Si (fun r' => r' = r)) ([.ref (a 0), .int p2, .int p3] : List Value).toArray s 0 0 (fun _ => False)) (F0 m 5 ls [])), ∀ (x4 : Int32) (y0 : Int32) (y1 : Int32), f_L_axle_b82 k f hz pl p2 p3 k5 x4 y0 y1 = some r → ∀ (ls : Array Slot), lv_has ls 7 [(0, .ref (a 0)), (1, .int p2), (2, .int p3), (4, .int x4)] → W p l e ({ frames := 6, cells := 0, slots := 0, locals := 130 } : Room) s m ([.ref (a 0), .int p2, .int p3] : List Value).toArray below meth c s.heap [] 0 0 (MQ below (vp_Si (fun r' => r' = r)) ([.ref (a 0), .int p2, .int p3] : List Value).toArray s 0 0 (fun _ => False)) (F0 m 82 ls [.int y0, .int y1]) := by
    intro k5 hk5
    intro x4 y0 y1 h ls hl
    rw [f_L_axle_b82] at h
    refine o_iadd hx hb dL_axle_82 h (fun v10 h => ?_)
    refine lv_istore_n (lv' := [(3, .int v10), (0, .ref (a 0)), (1, .int p2), (2, .int p3), (4, .int x4)]) hx hb dL_axle_83 rfl hl (by decide) rfl (fun ls hl => ?_)
    refine o_nm h (fun v11 ey h => ?_)
    refine lv_iinc (v := v11) (lv' := [(4, .int v11), (3, .int v10), (0, .ref (a 0)), (1, .int p2), (2, .int p3)]) hx hb dL_axle_84 hl (k := 4) rfl (Eq.trans rfl ey) (by decide) rfl (fun ls hl => ?_)
    refine lv_goto (tgt := 5) hx hb dL_axle_87 (by decide) ?_
    exact hk5 v10 v11 h ls (lv_sub hl [2, 3, 4, 1, 0] rfl)
  have B81 : ∀ (k5 : Int32 → Int32 → Option (Int32)) (hk5 : ∀ (x3 : Int32) (x4 : Int32), k5 x3 x4 = some r → ∀ (ls : Array Slot), lv_has ls 7 [(0, .ref (a 0)), (1, .int p2), (2, .int p3), (3, .int x3), (4, .int x4)] → W p l e ({ frames := 6, cells := 0, slots := 0, locals := 130 } : Room) s m ([.ref (a 0), .int p2, .int p3] : List Value).toArray below meth c s.heap [] 0 0 (MQ below (vp_Si (fun r' => r' = r)) ([.ref (a 0), .int p2, .int p3] : List Value).toArray s 0 0 (fun _ => False)) (F0 m 5 ls [])), ∀ (x4 : Int32) (y0 : Int32) (y1 : Int32) (y2 : Int32), f_L_axle_b81 k f hz pl p2 p3 k5 x4 y0 y1 y2 = some r → ∀ (ls : Array Slot), lv_has ls 7 [(0, .ref (a 0)), (1, .int p2), (2, .int p3), (4, .int x4)] → W p l e ({ frames := 6, cells := 0, slots := 0, locals := 130 } : Room) s m ([.ref (a 0), .int p2, .int p3] : List Value).toArray below meth c s.heap [] 0 0 (MQ below (vp_Si (fun r' => r' = r)) ([.ref (a 0), .int p2, .int p3] : List Value).toArray s 0 0 (fun _ => False)) (F0 m 81 ls [.int y0, .int y1, .int y2]) := by
    intro k5 hk5
    intro x4 y0 y1 y2 h ls hl
    rw [f_L_axle_b81] at h
    refine o_imul hx hb dL_axle_81 h (fun v9 h => ?_)
    exact B82 (k5) hk5 x4 v9 y2 h ls (lv_sub hl [0, 1, 2, 3] rfl)
  have B45 : ∀ (k5 : Int32 → Int32 → Option (Int32)) (hk5 : ∀ (x3 : Int32) (x4 : Int32), k5 x3 x4 = some r → ∀ (ls : Array Slot), lv_has ls 7 [(0, .ref (a 0)), (1, .int p2), (2, .int p3), (3, .int x3), (4, .int x4)] → W p l e ({ frames := 6, cells := 0, slots := 0, locals := 130 } : Room) s m ([.ref (a 0), .int p2, .int p3] : List Value).toArray below meth c s.heap [] 0 0 (MQ below (vp_Si (fun r' => r' = r)) ([.ref (a 0), .int p2, .int p3] : List Value).toArray s 0 0 (fun _ => False)) (F0 m 5 ls [])), ∀ (x3 : Int32) (x4 : Int32) (x5 : Int32) (y0 : Int32), f_L_axle_b45 k f hz pl p2 p3 k5 x3 x4 x5 y0 = some r → ∀ (ls : Array Slot), lv_has ls 7 [(0, .ref (a 0)), (1, .int p2), (2, .int p3), (3, .int x3), (4, .int x4), (5, .int x5)] → W p l e ({ frames := 6, cells := 0, slots := 0, locals := 130 } : Room) s m ([.ref (a 0), .int p2, .int p3] : List Value).toArray below meth c s.heap [] 0 0 (MQ below (vp_Si (fun r' => r' = r)) ([.ref (a 0), .int p2, .int p3] : List Value).toArray s 0 0 (fun _ => False)) (F0 m 45 ls [.int y0]) := by
    intro k5 hk5
    intro x3 x4 x5 y0 h ls hl
    rw [f_L_axle_b45] at h
    refine lv_istore (lv' := [(6, .int y0), (0, .ref (a 0)), (1, .int p2), (2, .int p3), (3, .int x3), (4, .int x4), (5, .int x5)]) hx hb dL_axle_45 hl (by decide) rfl (fun ls hl => ?_)
    refine lv_iload_n hx hb dL_axle_47 rfl (lv_at hl 4 rfl) ?_
    refine lv_iload hx hb dL_axle_48 (lv_at hl 0 rfl) ?_
    refine zi_ne (tgt := 57) hx hb dL_axle_50 (by decide) h (fun h => ?_) (fun h => ?_)
    · refine lv_aload_n hx hb dL_axle_57 rfl (lv_at hl 1 rfl) ?_
      refine lv_iload hx hb dL_axle_58 (lv_at hl 5 rfl) ?_
      refine lv_iconst (v := (4 : Int32)) hx hb dL_axle_60 (by decide) ?_
      obtain ⟨v6, hc, h⟩ := zb1_s h
      refine zE_i (zrV (C := RX7) (As := [.int x4, .int (4 : Int32)]) (rest := [.int x3]) hx hb hml hown hts tw363 mv_X7_of ⟨Nat.le_of_ble_eq_true rfl, Nat.le_of_ble_eq_true rfl⟩ rfl rfl (ct_X7_of l D ct a f g nx hz sw fl sg pl pa pk pn pf pg x4 (4 : Int32) k v6 hc) (z_pv hK hP [0, 1, 2, 3, 4, 5, 6, 7, 8, 9, 10, 11, 12, 13, 14, 15, 16, 17, 18, 19, 20, 21] rfl 0 rfl rfl) hl.1 rfl rfl (Nat.le_of_ble_eq_true rfl) dL_axle_61 ⟨Nat.le_refl _, Nat.le_refl _⟩) ?_
      refine lv_iload_n hx hb dL_axle_64 rfl (lv_at hl 3 rfl) ?_
      refine zi_eq (tgt := 75) hx hb dL_axle_65 (by decide) h (fun h => ?_) (fun h => ?_)
      · refine lv_iconst (v := (4 : Int32)) hx hb dL_axle_75 (by decide) ?_
        refine lv_iload hx hb dL_axle_76 (lv_at hl 6 rfl) ?_
        refine lv_iconst (v := (5 : Int32)) hx hb dL_axle_78 (by decide) ?_
        refine o_irem hx hb dL_axle_79 (by decide) h (fun v7 h => ?_)
        refine o_isub hx hb dL_axle_80 h (fun v8 h => ?_)
        exact B81 (k5) hk5 x4 v8 v6 x3 h ls (lv_sub hl [1, 2, 3, 5] rfl)
      · refine lv_iload hx hb dL_axle_68 (lv_at hl 6 rfl) ?_
        refine lv_iconst (v := (5 : Int32)) hx hb dL_axle_70 (by decide) ?_
        refine o_irem hx hb dL_axle_71 (by decide) h (fun v12 h => ?_)
        refine lv_goto (tgt := 81) hx hb dL_axle_72 (by decide) ?_
        exact B81 (k5) hk5 x4 v12 v6 x3 h ls (lv_sub hl [1, 2, 3, 5] rfl)
    · refine lv_iconst (v := (0 : Int32)) hx hb dL_axle_53 (by decide) ?_
      refine lv_goto (tgt := 82) hx hb dL_axle_54 (by decide) ?_
      exact B82 (k5) hk5 x4 (0 : Int32) x3 h ls (lv_sub hl [1, 2, 3, 5] rfl)
  have B5 : ∀ (n : Nat), ∀ (x3 : Int32) (x4 : Int32), f_L_axle_b5 k f hz pl p2 p3 n x3 x4 = some r → ∀ (ls : Array Slot), lv_has ls 7 [(0, .ref (a 0)), (1, .int p2), (2, .int p3), (3, .int x3), (4, .int x4)] → W p l e ({ frames := 6, cells := 0, slots := 0, locals := 130 } : Room) s m ([.ref (a 0), .int p2, .int p3] : List Value).toArray below meth c s.heap [] 0 0 (MQ below (vp_Si (fun r' => r' = r)) ([.ref (a 0), .int p2, .int p3] : List Value).toArray s 0 0 (fun _ => False)) (F0 m 5 ls []) := by
    intro n
    induction n with
    | zero => intro x3 x4 h; exact absurd h (by rw [f_L_axle_b5]; exact fun q => nomatch q)
    | succ n ih5 =>
      intro x3 x4 h ls hl
      rw [f_L_axle_b5] at h
      refine lv_iload hx hb dL_axle_5 (lv_at hl 4 rfl) ?_
      refine lv_aload_n hx hb dL_axle_7 rfl (lv_at hl 0 rfl) ?_
      refine lv_iconst (v := (1 : Int32)) hx hb dL_axle_8 (by decide) ?_
      obtain ⟨v1, hc, h⟩ := zb1_s h
      refine zE_i (zrV (C := RX7) (As := [.int (1 : Int32)]) (rest := [.int x4]) hx hb hml hown hts tw152 mv_X7_count ⟨Nat.le_of_ble_eq_true rfl, Nat.le_of_ble_eq_true rfl⟩ rfl rfl (ct_X7_count l D ct a f g nx hz sw fl sg pl pa pk pn pf pg (1 : Int32) k v1 hc) (z_pv hK hP [0, 1, 2, 3, 4, 5, 6, 7, 8, 9, 10, 11, 12, 13, 14, 15, 16, 17, 18, 19, 20, 21] rfl 0 rfl rfl) hl.1 rfl rfl (Nat.le_of_ble_eq_true rfl) dL_axle_9 ⟨Nat.le_refl _, Nat.le_refl _⟩) ?_
      refine zc_ge (tgt := 90) hx hb dL_axle_12 (by decide) h (fun h => ?_) (fun h => ?_)
      · refine lv_iload_n hx hb dL_axle_90 rfl (lv_at hl 3 rfl) ?_
        exact zR_i hx hb hr hlocks dL_axle_91 h
      · refine lv_aload_n hx hb dL_axle_15 rfl (lv_at hl 0 rfl) ?_
        refine lv_iload hx hb dL_axle_16 (lv_at hl 4 rfl) ?_
        refine lv_bipush (v := (9 : Int32)) hx hb dL_axle_18 (by decide) ?_
        obtain ⟨v2, hc, h⟩ := zb1_s h
        refine zE_i (zrV (C := RX7) (As := [.int x4, .int (9 : Int32)]) (rest := []) hx hb hml hown hts tw363 mv_X7_of ⟨Nat.le_of_ble_eq_true rfl, Nat.le_of_ble_eq_true rfl⟩ rfl rfl (ct_X7_of l D ct a f g nx hz sw fl sg pl pa pk pn pf pg x4 (9 : Int32) k v2 hc) (z_pv hK hP [0, 1, 2, 3, 4, 5, 6, 7, 8, 9, 10, 11, 12, 13, 14, 15, 16, 17, 18, 19, 20, 21] rfl 0 rfl rfl) hl.1 rfl rfl (Nat.le_of_ble_eq_true rfl) dL_axle_20 ⟨Nat.le_refl _, Nat.le_refl _⟩) ?_
        refine lv_istore (lv' := [(5, .int v2), (0, .ref (a 0)), (1, .int p2), (2, .int p3), (3, .int x3), (4, .int x4)]) hx hb dL_axle_23 hl (by decide) rfl (fun ls hl => ?_)
        refine lv_aload_n hx hb dL_axle_25 rfl (lv_at hl 1 rfl) ?_
        refine lv_iload_n hx hb dL_axle_26 rfl (lv_at hl 2 rfl) ?_
        refine lv_iconst (v := (3 : Int32)) hx hb dL_axle_27 (by decide) ?_
        obtain ⟨v3, hc, h⟩ := zb1_s h
        refine zE_i (zrV (C := RX7) (As := [.int p2, .int (3 : Int32)]) (rest := []) hx hb hml hown hts tw523 mv_X7_ofLorry ⟨Nat.le_of_ble_eq_true rfl, Nat.le_of_ble_eq_true rfl⟩ rfl rfl (ct_X7_ofLorry l D ct a f g nx hz sw fl sg pl pa pk pn pf pg p2 (3 : Int32) k v3 hc) (z_pv hK hP [0, 1, 2, 3, 4, 5, 6, 7, 8, 9, 10, 11, 12, 13, 14, 15, 16, 17, 18, 19, 20, 21] rfl 0 rfl rfl) hl.1 rfl rfl (Nat.le_of_ble_eq_true rfl) dL_axle_28 ⟨Nat.le_refl _, Nat.le_refl _⟩) ?_
        refine lv_iload hx hb dL_axle_31 (lv_at hl 5 rfl) ?_
        refine o_ishr hx hb dL_axle_33 h (fun v4 h => ?_)
        refine lv_iconst (v := (1 : Int32)) hx hb dL_axle_34 (by decide) ?_
        refine o_iand hx hb dL_axle_35 h (fun v5 h => ?_)
        refine lv_iconst (v := (1 : Int32)) hx hb dL_axle_36 (by decide) ?_
        refine zc_ne (tgt := 44) hx hb dL_axle_37 (by decide) h (fun h => ?_) (fun h => ?_)
        · refine lv_iconst (v := (0 : Int32)) hx hb dL_axle_44 (by decide) ?_
          exact B45 (f_L_axle_b5 k f hz pl p2 p3 n) ih5 x3 x4 v2 (0 : Int32) h ls (lv_sub hl [1, 2, 3, 4, 5, 0] rfl)
        · refine lv_iconst (v := (1 : Int32)) hx hb dL_axle_40 (by decide) ?_
          refine lv_goto (tgt := 45) hx hb dL_axle_41 (by decide) ?_
          exact B45 (f_L_axle_b5 k f hz pl p2 p3 n) ih5 x3 x4 v2 (1 : Int32) h ls (lv_sub hl [1, 2, 3, 4, 5, 0] rfl)
  rw [f_L_axle] at h
  refine lv_iconst (v := (0 : Int32)) hx hb dL_axle_0 (by decide) ?_
  refine lv_istore_n (lv' := [(3, .int (0 : Int32)), (0, .ref (a 0)), (1, .int p2), (2, .int p3)]) hx hb dL_axle_1 rfl hl (by decide) rfl (fun ls hl => ?_)
  refine lv_iconst (v := (0 : Int32)) hx hb dL_axle_2 (by decide) ?_
  refine lv_istore (lv' := [(4, .int (0 : Int32)), (3, .int (0 : Int32)), (0, .ref (a 0)), (1, .int p2), (2, .int p3)]) hx hb dL_axle_3 hl (by decide) rfl (fun ls hl => ?_)
  exact B5 k (0 : Int32) (0 : Int32) h ls (lv_sub hl [2, 3, 4, 1, 0] rfl)

def f_L_bitsOf_b2 (k : Nat) (p1 : Int32)  : Nat → Int32 → Option (Int32)
  | 0, _ => none
  | n + 1, x1 =>
    zl (p1 >>> (x1 &&& 31)) fun v1 =>
    if v1 ≤ (1 : Int32) then
      if p1 = 0 then
        some (0 : Int32)
      else
        zl ((125 : Int32) + x1) fun v2 =>
        zl (v2 <<< ((23 : Int32) &&& 31)) fun v3 =>
        zl ((23 : Int32) - x1) fun v4 =>
        zl (p1 <<< (v4 &&& 31)) fun v5 =>
        zl (v5 &&& (8388607 : Int32)) fun v6 =>
        zl (v3 ||| v6) fun v7 =>
        some v7
    else
      zl (x1 + (1 : Int32)) fun v8 =>
      f_L_bitsOf_b2 k p1 n v8
def f_L_bitsOf (k : Nat) (p1 : Int32) : Option (Int32) :=
  f_L_bitsOf_b2 k p1 k (0 : Int32)
set_option maxRecDepth 100000 in
set_option maxHeartbeats 4000000 in
theorem ct_L_bitsOf (l : Launch) (p1 : Int32) (k : Nat) (r : Int32) (h : f_L_bitsOf k p1 = some r) : Met l yL_bitsOf (Cond.code yL_bitsOf cL_bitsOf 2 (some .int) :: zT) ({ frames := 0, cells := 0, slots := 0, locals := 0 } : Room) (va_Pc [.int p1] (fun _ => True)) (vp_Si (fun r' => r' = r)) 0 0 (fun _ => False) := by
  refine zMet (cc := cL_bitsOf) (maxL := 2) (ret := (some .int)) (av := [.int p1]) (by decide) (Nat.le_of_ble_eq_true rfl) (fun p e s m below meth c ls hx hb hr hml hts hown hlocks hin hB hl => ?_)
  have hl : lv_has ls 2 [(0, .int p1)] := hl
  have hown : s.vm.findClass RL = some m.cls := hown
  have B2 : ∀ (n : Nat), ∀ (x1 : Int32), f_L_bitsOf_b2 k p1 n x1 = some r → ∀ (ls : Array Slot), lv_has ls 2 [(0, .int p1), (1, .int x1)] → W p l e ({ frames := 0, cells := 0, slots := 0, locals := 0 } : Room) s m ([.int p1] : List Value).toArray below meth c s.heap [] 0 0 (MQ below (vp_Si (fun r' => r' = r)) ([.int p1] : List Value).toArray s 0 0 (fun _ => False)) (F0 m 2 ls []) := by
    intro n
    induction n with
    | zero => intro x1 h; exact absurd h (by rw [f_L_bitsOf_b2]; exact fun q => nomatch q)
    | succ n ih2 =>
      intro x1 h ls hl
      rw [f_L_bitsOf_b2] at h
      refine lv_iload_n hx hb dL_bitsOf_2 rfl (lv_at hl 0 rfl) ?_
      refine lv_iload_n hx hb dL_bitsOf_3 rfl (lv_at hl 1 rfl) ?_
      refine o_ishr hx hb dL_bitsOf_4 h (fun v1 h => ?_)
      refine lv_iconst (v := (1 : Int32)) hx hb dL_bitsOf_5 (by decide) ?_
      refine zc_le (tgt := 15) hx hb dL_bitsOf_6 (by decide) h (fun h => ?_) (fun h => ?_)
      · refine lv_iload_n hx hb dL_bitsOf_15 rfl (lv_at hl 0 rfl) ?_
        refine zi_ne (tgt := 23) hx hb dL_bitsOf_16 (by decide) h (fun h => ?_) (fun h => ?_)
        · refine lv_bipush (v := (125 : Int32)) hx hb dL_bitsOf_23 (by decide) ?_
          refine lv_iload_n hx hb dL_bitsOf_25 rfl (lv_at hl 1 rfl) ?_
          refine o_iadd hx hb dL_bitsOf_26 h (fun v2 h => ?_)
          refine lv_bipush (v := (23 : Int32)) hx hb dL_bitsOf_27 (by decide) ?_
          refine o_ishl hx hb dL_bitsOf_29 h (fun v3 h => ?_)
          refine lv_iload_n hx hb dL_bitsOf_30 rfl (lv_at hl 0 rfl) ?_
          refine lv_bipush (v := (23 : Int32)) hx hb dL_bitsOf_31 (by decide) ?_
          refine lv_iload_n hx hb dL_bitsOf_33 rfl (lv_at hl 1 rfl) ?_
          refine o_isub hx hb dL_bitsOf_34 h (fun v4 h => ?_)
          refine o_ishl hx hb dL_bitsOf_35 h (fun v5 h => ?_)
          refine lv_ldc (v := (8388607 : Int32)) hx hb hown (hts _ (List.mem_cons_of_mem _ tw573)) dL_bitsOf_36 ?_
          refine o_iand hx hb dL_bitsOf_38 h (fun v6 h => ?_)
          refine o_ior hx hb dL_bitsOf_39 h (fun v7 h => ?_)
          exact zR_i hx hb hr hlocks dL_bitsOf_40 h
        · refine lv_iconst (v := (0 : Int32)) hx hb dL_bitsOf_19 (by decide) ?_
          refine lv_goto (tgt := 40) hx hb dL_bitsOf_20 (by decide) ?_
          exact zR_i hx hb hr hlocks dL_bitsOf_40 h
      · refine o_nm h (fun v8 ey h => ?_)
        refine lv_iinc (v := v8) (lv' := [(1, .int v8), (0, .int p1)]) hx hb dL_bitsOf_9 hl (k := 1) rfl (Eq.trans rfl ey) (by decide) rfl (fun ls hl => ?_)
        refine lv_goto (tgt := 2) hx hb dL_bitsOf_12 (by decide) ?_
        exact ih2 v8 h ls (lv_sub hl [1, 0] rfl)
  rw [f_L_bitsOf] at h
  refine lv_iconst (v := (0 : Int32)) hx hb dL_bitsOf_0 (by decide) ?_
  refine lv_istore_n (lv' := [(1, .int (0 : Int32)), (0, .int p1)]) hx hb dL_bitsOf_1 rfl hl (by decide) rfl (fun ls hl => ?_)
  exact B2 k (0 : Int32) h ls (lv_sub hl [1, 0] rfl)

def f_L_isLorry_b245 (k : Nat) (f : Nat → Int32) (hz : Int32) (pl : Int32) (p2 : Int32)   : Option (Int32) :=
  some (0 : Int32)
def f_L_isLorry_b182 (k : Nat) (f : Nat → Int32) (hz : Int32) (pl : Int32) (p2 : Int32)  (x2 : Int32) (x3 : Int32) (x4 : Int32) (y0 : Int32) : Option (Int32) :=
  zb1 (f_X7_ofLorry k f p2 (0 : Int32)) fun v10 =>
  if x4 = v10 then
    zl (x2 + x3) fun v11 =>
    zl ((4 : Int32) * x4) fun v12 =>
    if v11 = v12 then
      zb1 (f_X7_ofLorry k f p2 (1 : Int32)) fun v13 =>
      zb1 (f_L_bitsOf k x2) fun v14 =>
      if v13 = v14 then
        zb1 (f_X7_ofLorry k f p2 (2 : Int32)) fun v15 =>
        zb1 (f_L_bitsOf k x3) fun v16 =>
        if v15 = v16 then
          zb1 (f_X7_why k f p2) fun v17 =>
          if v17 = y0 then
            some (1 : Int32)
          else
            f_L_isLorry_b245 k f hz pl p2
        else
          f_L_isLorry_b245 k f hz pl p2
      else
        f_L_isLorry_b245 k f hz pl p2
    else
      f_L_isLorry_b245 k f hz pl p2
  else
    f_L_isLorry_b245 k f hz pl p2
def f_L_isLorry_b103 (k : Nat) (f : Nat → Int32) (hz : Int32) (pl : Int32) (p2 : Int32) (k23 : Int32 → Int32 → Int32 → Int32 → Int32 → Option (Int32)) (x2 : Int32) (x3 : Int32) (x4 : Int32) (x6 : Int32) (y0 : Int32) : Option (Int32) :=
  zl (x6 + (1 : Int32)) fun v22 =>
  k23 x2 x3 x4 y0 v22
def f_L_isLorry_b98 (k : Nat) (f : Nat → Int32) (hz : Int32) (pl : Int32) (p2 : Int32) (k23 : Int32 → Int32 → Int32 → Int32 → Int32 → Option (Int32)) (x2 : Int32) (x3 : Int32) (x4 : Int32) (x6 : Int32) : Option (Int32) :=
  f_L_isLorry_b103 k f hz pl p2 (k23) x2 x3 x4 x6 (1 : Int32)
def f_L_isLorry_b102 (k : Nat) (f : Nat → Int32) (hz : Int32) (pl : Int32) (p2 : Int32) (k23 : Int32 → Int32 → Int32 → Int32 → Int32 → Option (Int32)) (x2 : Int32) (x3 : Int32) (x4 : Int32) (x6 : Int32) : Option (Int32) :=
  f_L_isLorry_b103 k f hz pl p2 (k23) x2 x3 x4 x6 (0 : Int32)
def f_L_isLorry_b73 (k : Nat) (f : Nat → Int32) (hz : Int32) (pl : Int32) (p2 : Int32) (k23 : Int32 → Int32 → Int32 → Int32 → Int32 → Option (Int32)) (x2 : Int32) (x3 : Int32) (x5 : Int32) (x6 : Int32) (x7 : Int32) (y0 : Int32) (y1 : Int32) : Option (Int32) :=
  zl (y1 + y0) fun v21 =>
  if x5 = 0 then
    if x7 = 0 then
      f_L_isLorry_b102 k f hz pl p2 (k23) x2 x3 v21 x6
    else
      zb1 (f_X7_of k f x6 (7 : Int32)) fun v23 =>
      if v23 = (1 : Int32) then
        f_L_isLorry_b98 k f hz pl p2 (k23) x2 x3 v21 x6
      else
        f_L_isLorry_b102 k f hz pl p2 (k23) x2 x3 v21 x6
  else
    f_L_isLorry_b98 k f hz pl p2 (k23) x2 x3 v21 x6
def f_L_isLorry_b53 (k : Nat) (f : Nat → Int32) (hz : Int32) (pl : Int32) (p2 : Int32) (k23 : Int32 → Int32 → Int32 → Int32 → Int32 → Option (Int32)) (x2 : Int32) (x3 : Int32) (x4 : Int32) (x5 : Int32) (x6 : Int32) (y0 : Int32) : Option (Int32) :=
  if y0 = 0 then
    f_L_isLorry_b73 k f hz pl p2 (k23) x2 x3 x5 x6 y0 (0 : Int32) x4
  else
    zb1 (f_X7_of k f x6 (4 : Int32)) fun v24 =>
    f_L_isLorry_b73 k f hz pl p2 (k23) x2 x3 x5 x6 y0 v24 x4
def f_L_isLorry_b23 (k : Nat) (f : Nat → Int32) (hz : Int32) (pl : Int32) (p2 : Int32)  : Nat → Int32 → Int32 → Int32 → Int32 → Int32 → Option (Int32)
  | 0, _, _, _, _, _ => none
  | n + 1, x2, x3, x4, x5, x6 =>
    zb1 (f_X7_count k f hz pl (1 : Int32)) fun v3 =>
    if v3 ≤ x6 then
      zb1 (f_X7_ofLorry k f p2 (3 : Int32)) fun v4 =>
      if v4 = 0 then
        f_L_isLorry_b182 k f hz pl p2 x2 x3 x4 (1 : Int32)
      else
        if x5 = 0 then
          zb1 (f_X7_ofLorry k f p2 (6 : Int32)) fun v5 =>
          if x4 ≤ v5 then
            zb1 (f_X7_ofLorry k f p2 (4 : Int32)) fun v6 =>
            zl ((4 : Int32) * v6) fun v7 =>
            if x2 ≤ v7 then
              zb1 (f_X7_ofLorry k f p2 (5 : Int32)) fun v8 =>
              zl ((4 : Int32) * v8) fun v9 =>
              if x3 ≤ v9 then
                f_L_isLorry_b182 k f hz pl p2 x2 x3 x4 (0 : Int32)
              else
                f_L_isLorry_b182 k f hz pl p2 x2 x3 x4 (5 : Int32)
            else
              f_L_isLorry_b182 k f hz pl p2 x2 x3 x4 (4 : Int32)
          else
            f_L_isLorry_b182 k f hz pl p2 x2 x3 x4 (3 : Int32)
        else
          f_L_isLorry_b182 k f hz pl p2 x2 x3 x4 (2 : Int32)
    else
      zb1 (f_X7_ofLorry k f p2 (3 : Int32)) fun v18 =>
      zl (v18 >>> (x6 &&& 31)) fun v19 =>
      zl (v19 &&& (1 : Int32)) fun v20 =>
      if v20 = (1 : Int32) then
        f_L_isLorry_b53 k f hz pl p2 (f_L_isLorry_b23 k f hz pl p2 n) x2 x3 x4 x5 x6 (1 : Int32)
      else
        f_L_isLorry_b53 k f hz pl p2 (f_L_isLorry_b23 k f hz pl p2 n) x2 x3 x4 x5 x6 (0 : Int32)
def f_L_isLorry (k : Nat) (f : Nat → Int32) (hz : Int32) (pl : Int32) (p2 : Int32) : Option (Int32) :=
  zb1 (f_L_axle k f hz pl p2 (0 : Int32)) fun v1 =>
  zb1 (f_L_axle k f hz pl p2 (1 : Int32)) fun v2 =>
  f_L_isLorry_b23 k f hz pl p2 k v1 v2 (0 : Int32) (0 : Int32) (0 : Int32)
set_option maxRecDepth 100000 in
set_option maxHeartbeats 4000000 in
theorem ct_L_isLorry (l : Launch) (D : va_G) (ct a : Nat → Nat) (f : Nat → Int32) (g : Nat → Nat → Int32) (nx : Int32) (hz : Int32) (sw : Nat → Nat → Int32) (fl : Nat → Int32) (sg : Nat → Int32) (pl : Int32) (pa : Int32) (pk : Int32) (pn : Nat → Int32) (pf : Int32) (pg : Int32) (p2 : Int32) (k : Nat) (r : Int32) (h : f_L_isLorry k f hz pl p2 = some r) : Met l yL_isLorry (Cond.code yL_isLorry cL_isLorry 8 (some .boolean) :: zT) ({ frames := 7, cells := 0, slots := 0, locals := 156 } : Room) (va_Pc [.ref (a 0), .int p2] (zPR D (zTys ct) (wX7 ct a f g nx hz sw fl sg pl pa pk pn pf pg))) (vp_Si (fun r' => r' = r)) 0 0 (fun _ => False) := by
  refine zMet (cc := cL_isLorry) (maxL := 8) (ret := (some .boolean)) (av := [.ref (a 0), .int p2]) (by decide) (Nat.le_of_ble_eq_true rfl) (fun p e s m below meth c ls hx hb hr hml hts hown hlocks hin hB hl => ?_)
  have hl : lv_has ls 8 [(0, .ref (a 0)), (1, .int p2)] := hl
  have hown : s.vm.findClass RL = some m.cls := hown
  obtain ⟨hP, hK⟩ := hB
  have B245 : ∀ (_ : Unit), f_L_isLorry_b245 k f hz pl p2 = some r → ∀ (ls : Array Slot), lv_has ls 8 [] → W p l e ({ frames := 7, cells := 0, slots := 0, locals := 156 } : Room) s m ([.ref (a 0), .int p2] : List Value).toArray below meth c s.heap [] 0 0 (MQ below (vp_Si (fun r' => r' = r)) ([.ref (a 0), .int p2] : List Value).toArray s 0 0 (fun _ => False)) (F0 m 245 ls []) := by
    intro _ h ls hl
    rw [f_L_isLorry_b245] at h
    refine lv_iconst (v := (0 : Int32)) hx hb dL_isLorry_245 (by decide) ?_
    exact zR_z hx hb hr hlocks dL_isLorry_246 h
  have B182 : ∀ (x2 : Int32) (x3 : Int32) (x4 : Int32) (y0 : Int32), f_L_isLorry_b182 k f hz pl p2 x2 x3 x4 y0 = some r → ∀ (ls : Array Slot), lv_has ls 8 [(0, .ref (a 0)), (1, .int p2), (2, .int x2), (3, .int x3), (4, .int x4)] → W p l e ({ frames := 7, cells := 0, slots := 0, locals := 156 } : Room) s m ([.ref (a 0), .int p2] : List Value).toArray below meth c s.heap [] 0 0 (MQ below (vp_Si (fun r' => r' = r)) ([.ref (a 0), .int p2] : List Value).toArray s 0 0 (fun _ => False)) (F0 m 182 ls [.int y0]) := by
    intro x2 x3 x4 y0 h ls hl
    rw [f_L_isLorry_b182] at h
    refine lv_istore (lv' := [(6, .int y0), (0, .ref (a 0)), (1, .int p2), (2, .int x2), (3, .int x3), (4, .int x4)]) hx hb dL_isLorry_182 hl (by decide) rfl (fun ls hl => ?_)
    refine lv_iload hx hb dL_isLorry_184 (lv_at hl 5 rfl) ?_
    refine lv_aload_n hx hb dL_isLorry_186 rfl (lv_at hl 1 rfl) ?_
    refine lv_iload_n hx hb dL_isLorry_187 rfl (lv_at hl 2 rfl) ?_
    refine lv_iconst (v := (0 : Int32)) hx hb dL_isLorry_188 (by decide) ?_
    obtain ⟨v10, hc, h⟩ := zb1_s h
    refine zE_i (zrV (C := RX7) (As := [.int p2, .int (0 : Int32)]) (rest := [.int x4]) hx hb hml hown hts tw523 mv_X7_ofLorry ⟨Nat.le_of_ble_eq_true rfl, Nat.le_of_ble_eq_true rfl⟩ rfl rfl (ct_X7_ofLorry l D ct a f g nx hz sw fl sg pl pa pk pn pf pg p2 (0 : Int32) k v10 hc) (z_pv hK hP [0, 1, 2, 3, 4, 5, 6, 7, 8, 9, 10, 11, 12, 13, 14, 15, 16, 17, 18, 19, 20, 21] rfl 0 rfl rfl) hl.1 rfl rfl (Nat.le_of_ble_eq_true rfl) dL_isLorry_189 ⟨Nat.le_refl _, Nat.le_refl _⟩) ?_
    refine zc_ne (tgt := 245) hx hb dL_isLorry_192 (by decide) h (fun h => ?_) (fun h => ?_)
    · exact B245 () h ls (lv_sub hl [] rfl)
    · refine lv_iload_n hx hb dL_isLorry_195 rfl (lv_at hl 3 rfl) ?_
      refine lv_iload_n hx hb dL_isLorry_196 rfl (lv_at hl 4 rfl) ?_
      refine o_iadd hx hb dL_isLorry_197 h (fun v11 h => ?_)
      refine lv_iconst (v := (4 : Int32)) hx hb dL_isLorry_198 (by decide) ?_
      refine lv_iload hx hb dL_isLorry_199 (lv_at hl 5 rfl) ?_
      refine o_imul hx hb dL_isLorry_201 h (fun v12 h => ?_)
      refine zc_ne (tgt := 245) hx hb dL_isLorry_202 (by decide) h (fun h => ?_) (fun h => ?_)
      · exact B245 () h ls (lv_sub hl [] rfl)
      · refine lv_aload_n hx hb dL_isLorry_205 rfl (lv_at hl 1 rfl) ?_
        refine lv_iload_n hx hb dL_isLorry_206 rfl (lv_at hl 2 rfl) ?_
        refine lv_iconst (v := (1 : Int32)) hx hb dL_isLorry_207 (by decide) ?_
        obtain ⟨v13, hc, h⟩ := zb1_s h
        refine zE_i (zrV (C := RX7) (As := [.int p2, .int (1 : Int32)]) (rest := []) hx hb hml hown hts tw523 mv_X7_ofLorry ⟨Nat.le_of_ble_eq_true rfl, Nat.le_of_ble_eq_true rfl⟩ rfl rfl (ct_X7_ofLorry l D ct a f g nx hz sw fl sg pl pa pk pn pf pg p2 (1 : Int32) k v13 hc) (z_pv hK hP [0, 1, 2, 3, 4, 5, 6, 7, 8, 9, 10, 11, 12, 13, 14, 15, 16, 17, 18, 19, 20, 21] rfl 0 rfl rfl) hl.1 rfl rfl (Nat.le_of_ble_eq_true rfl) dL_isLorry_208 ⟨Nat.le_refl _, Nat.le_refl _⟩) ?_
        refine lv_iload_n hx hb dL_isLorry_211 rfl (lv_at hl 3 rfl) ?_
        obtain ⟨v14, hc, h⟩ := zb1_s h
        refine zE_i (zrS (As := [.int x2]) (rest := [.int v13]) hx hb hml hown hts tw570 ms_L_bitsOf ⟨Nat.le_of_ble_eq_true rfl, Nat.le_of_ble_eq_true rfl⟩ rfl rfl (ct_L_bitsOf l x2 k v14 hc) z_p0 hl.1 rfl rfl (Nat.le_of_ble_eq_true rfl) dL_isLorry_212 ⟨Nat.le_refl _, Nat.le_refl _⟩) ?_
        refine zc_ne (tgt := 245) hx hb dL_isLorry_215 (by decide) h (fun h => ?_) (fun h => ?_)
        · exact B245 () h ls (lv_sub hl [] rfl)
        · refine lv_aload_n hx hb dL_isLorry_218 rfl (lv_at hl 1 rfl) ?_
          refine lv_iload_n hx hb dL_isLorry_219 rfl (lv_at hl 2 rfl) ?_
          refine lv_iconst (v := (2 : Int32)) hx hb dL_isLorry_220 (by decide) ?_
          obtain ⟨v15, hc, h⟩ := zb1_s h
          refine zE_i (zrV (C := RX7) (As := [.int p2, .int (2 : Int32)]) (rest := []) hx hb hml hown hts tw523 mv_X7_ofLorry ⟨Nat.le_of_ble_eq_true rfl, Nat.le_of_ble_eq_true rfl⟩ rfl rfl (ct_X7_ofLorry l D ct a f g nx hz sw fl sg pl pa pk pn pf pg p2 (2 : Int32) k v15 hc) (z_pv hK hP [0, 1, 2, 3, 4, 5, 6, 7, 8, 9, 10, 11, 12, 13, 14, 15, 16, 17, 18, 19, 20, 21] rfl 0 rfl rfl) hl.1 rfl rfl (Nat.le_of_ble_eq_true rfl) dL_isLorry_221 ⟨Nat.le_refl _, Nat.le_refl _⟩) ?_
          refine lv_iload_n hx hb dL_isLorry_224 rfl (lv_at hl 4 rfl) ?_
          obtain ⟨v16, hc, h⟩ := zb1_s h
          refine zE_i (zrS (As := [.int x3]) (rest := [.int v15]) hx hb hml hown hts tw570 ms_L_bitsOf ⟨Nat.le_of_ble_eq_true rfl, Nat.le_of_ble_eq_true rfl⟩ rfl rfl (ct_L_bitsOf l x3 k v16 hc) z_p0 hl.1 rfl rfl (Nat.le_of_ble_eq_true rfl) dL_isLorry_225 ⟨Nat.le_refl _, Nat.le_refl _⟩) ?_
          refine zc_ne (tgt := 245) hx hb dL_isLorry_228 (by decide) h (fun h => ?_) (fun h => ?_)
          · exact B245 () h ls (lv_sub hl [] rfl)
          · refine lv_aload_n hx hb dL_isLorry_231 rfl (lv_at hl 1 rfl) ?_
            refine lv_iload_n hx hb dL_isLorry_232 rfl (lv_at hl 2 rfl) ?_
            obtain ⟨v17, hc, h⟩ := zb1_s h
            refine zE_i (zrV (C := RX7) (As := [.int p2]) (rest := []) hx hb hml hown hts tw574 mv_X7_why ⟨Nat.le_of_ble_eq_true rfl, Nat.le_of_ble_eq_true rfl⟩ rfl rfl (ct_X7_why l D ct a f g nx hz sw fl sg pl pa pk pn pf pg p2 k v17 hc) (z_pv hK hP [0, 1, 2, 3, 4, 5, 6, 7, 8, 9, 10, 11, 12, 13, 14, 15, 16, 17, 18, 19, 20, 21] rfl 0 rfl rfl) hl.1 rfl rfl (Nat.le_of_ble_eq_true rfl) dL_isLorry_233 ⟨Nat.le_refl _, Nat.le_refl _⟩) ?_
            refine lv_iload hx hb dL_isLorry_236 (lv_at hl 0 rfl) ?_
            refine zc_ne (tgt := 245) hx hb dL_isLorry_238 (by decide) h (fun h => ?_) (fun h => ?_)
            · exact B245 () h ls (lv_sub hl [] rfl)
            · refine lv_iconst (v := (1 : Int32)) hx hb dL_isLorry_241 (by decide) ?_
              refine lv_goto (tgt := 246) hx hb dL_isLorry_242 (by decide) ?_
              exact zR_z hx hb hr hlocks dL_isLorry_246 h
  have B103 : ∀ (k23 : Int32 → Int32 → Int32 → Int32 → Int32 → Option (Int32)) (hk23 : ∀ (x2 : Int32) (x3 : Int32) (x4 : Int32) (x5 : Int32) (x6 : Int32), k23 x2 x3 x4 x5 x6 = some r → ∀ (ls : Array Slot), lv_has ls 8 [(0, .ref (a 0)), (1, .int p2), (2, .int x2), (3, .int x3), (4, .int x4), (5, .int x5), (6, .int x6)] → W p l e ({ frames := 7, cells := 0, slots := 0, locals := 156 } : Room) s m ([.ref (a 0), .int p2] : List Value).toArray below meth c s.heap [] 0 0 (MQ below (vp_Si (fun r' => r' = r)) ([.ref (a 0), .int p2] : List Value).toArray s 0 0 (fun _ => False)) (F0 m 23 ls [])), ∀ (x2 : Int32) (x3 : Int32) (x4 : Int32) (x6 : Int32) (y0 : Int32), f_L_isLorry_b103 k f hz pl p2 k23 x2 x3 x4 x6 y0 = some r → ∀ (ls : Array Slot), lv_has ls 8 [(0, .ref (a 0)), (1, .int p2), (2, .int x2), (3, .int x3), (4, .int x4), (6, .int x6)] → W p l e ({ frames := 7, cells := 0, slots := 0, locals := 156 } : Room) s m ([.ref (a 0), .int p2] : List Value).toArray below meth c s.heap [] 0 0 (MQ below (vp_Si (fun r' => r' = r)) ([.ref (a 0), .int p2] : List Value).toArray s 0 0 (fun _ => False)) (F0 m 103 ls [.int y0]) := by
    intro k23 hk23
    intro x2 x3 x4 x6 y0 h ls hl
    rw [f_L_isLorry_b103] at h
    refine lv_istore (lv' := [(5, .int y0), (0, .ref (a 0)), (1, .int p2), (2, .int x2), (3, .int x3), (4, .int x4), (6, .int x6)]) hx hb dL_isLorry_103 hl (by decide) rfl (fun ls hl => ?_)
    refine o_nm h (fun v22 ey h => ?_)
    refine lv_iinc (v := v22) (lv' := [(6, .int v22), (5, .int y0), (0, .ref (a 0)), (1, .int p2), (2, .int x2), (3, .int x3), (4, .int x4)]) hx hb dL_isLorry_105 hl (k := 6) rfl (Eq.trans rfl ey) (by decide) rfl (fun ls hl => ?_)
    refine lv_goto (tgt := 23) hx hb dL_isLorry_108 (by decide) ?_
    exact hk23 x2 x3 x4 y0 v22 h ls (lv_sub hl [2, 3, 4, 5, 6, 1, 0] rfl)
  have B98 : ∀ (k23 : Int32 → Int32 → Int32 → Int32 → Int32 → Option (Int32)) (hk23 : ∀ (x2 : Int32) (x3 : Int32) (x4 : Int32) (x5 : Int32) (x6 : Int32), k23 x2 x3 x4 x5 x6 = some r → ∀ (ls : Array Slot), lv_has ls 8 [(0, .ref (a 0)), (1, .int p2), (2, .int x2), (3, .int x3), (4, .int x4), (5, .int x5), (6, .int x6)] → W p l e ({ frames := 7, cells := 0, slots := 0, locals := 156 } : Room) s m ([.ref (a 0), .int p2] : List Value).toArray below meth c s.heap [] 0 0 (MQ below (vp_Si (fun r' => r' = r)) ([.ref (a 0), .int p2] : List Value).toArray s 0 0 (fun _ => False)) (F0 m 23 ls [])), ∀ (x2 : Int32) (x3 : Int32) (x4 : Int32) (x6 : Int32), f_L_isLorry_b98 k f hz pl p2 k23 x2 x3 x4 x6 = some r → ∀ (ls : Array Slot), lv_has ls 8 [(0, .ref (a 0)), (1, .int p2), (2, .int x2), (3, .int x3), (4, .int x4), (6, .int x6)] → W p l e ({ frames := 7, cells := 0, slots := 0, locals := 156 } : Room) s m ([.ref (a 0), .int p2] : List Value).toArray below meth c s.heap [] 0 0 (MQ below (vp_Si (fun r' => r' = r)) ([.ref (a 0), .int p2] : List Value).toArray s 0 0 (fun _ => False)) (F0 m 98 ls []) := by
    intro k23 hk23
    intro x2 x3 x4 x6 h ls hl
    rw [f_L_isLorry_b98] at h
    refine lv_iconst (v := (1 : Int32)) hx hb dL_isLorry_98 (by decide) ?_
    refine lv_goto (tgt := 103) hx hb dL_isLorry_99 (by decide) ?_
    exact B103 (k23) hk23 x2 x3 x4 x6 (1 : Int32) h ls (lv_sub hl [0, 1, 2, 3, 4, 5] rfl)
  have B102 : ∀ (k23 : Int32 → Int32 → Int32 → Int32 → Int32 → Option (Int32)) (hk23 : ∀ (x2 : Int32) (x3 : Int32) (x4 : Int32) (x5 : Int32) (x6 : Int32), k23 x2 x3 x4 x5 x6 = some r → ∀ (ls : Array Slot), lv_has ls 8 [(0, .ref (a 0)), (1, .int p2), (2, .int x2), (3, .int x3), (4, .int x4), (5, .int x5), (6, .int x6)] → W p l e ({ frames := 7, cells := 0, slots := 0, locals := 156 } : Room) s m ([.ref (a 0), .int p2] : List Value).toArray below meth c s.heap [] 0 0 (MQ below (vp_Si (fun r' => r' = r)) ([.ref (a 0), .int p2] : List Value).toArray s 0 0 (fun _ => False)) (F0 m 23 ls [])), ∀ (x2 : Int32) (x3 : Int32) (x4 : Int32) (x6 : Int32), f_L_isLorry_b102 k f hz pl p2 k23 x2 x3 x4 x6 = some r → ∀ (ls : Array Slot), lv_has ls 8 [(0, .ref (a 0)), (1, .int p2), (2, .int x2), (3, .int x3), (4, .int x4), (6, .int x6)] → W p l e ({ frames := 7, cells := 0, slots := 0, locals := 156 } : Room) s m ([.ref (a 0), .int p2] : List Value).toArray below meth c s.heap [] 0 0 (MQ below (vp_Si (fun r' => r' = r)) ([.ref (a 0), .int p2] : List Value).toArray s 0 0 (fun _ => False)) (F0 m 102 ls []) := by
    intro k23 hk23
    intro x2 x3 x4 x6 h ls hl
    rw [f_L_isLorry_b102] at h
    refine lv_iconst (v := (0 : Int32)) hx hb dL_isLorry_102 (by decide) ?_
    exact B103 (k23) hk23 x2 x3 x4 x6 (0 : Int32) h ls (lv_sub hl [0, 1, 2, 3, 4, 5] rfl)
  have B73 : ∀ (k23 : Int32 → Int32 → Int32 → Int32 → Int32 → Option (Int32)) (hk23 : ∀ (x2 : Int32) (x3 : Int32) (x4 : Int32) (x5 : Int32) (x6 : Int32), k23 x2 x3 x4 x5 x6 = some r → ∀ (ls : Array Slot), lv_has ls 8 [(0, .ref (a 0)), (1, .int p2), (2, .int x2), (3, .int x3), (4, .int x4), (5, .int x5), (6, .int x6)] → W p l e ({ frames := 7, cells := 0, slots := 0, locals := 156 } : Room) s m ([.ref (a 0), .int p2] : List Value).toArray below meth c s.heap [] 0 0 (MQ below (vp_Si (fun r' => r' = r)) ([.ref (a 0), .int p2] : List Value).toArray s 0 0 (fun _ => False)) (F0 m 23 ls [])), ∀ (x2 : Int32) (x3 : Int32) (x5 : Int32) (x6 : Int32) (x7 : Int32) (y0 : Int32) (y1 : Int32), f_L_isLorry_b73 k f hz pl p2 k23 x2 x3 x5 x6 x7 y0 y1 = some r → ∀ (ls : Array Slot), lv_has ls 8 [(0, .ref (a 0)), (1, .int p2), (2, .int x2), (3, .int x3), (5, .int x5), (6, .int x6), (7, .int x7)] → W p l e ({ frames := 7, cells := 0, slots := 0, locals := 156 } : Room) s m ([.ref (a 0), .int p2] : List Value).toArray below meth c s.heap [] 0 0 (MQ below (vp_Si (fun r' => r' = r)) ([.ref (a 0), .int p2] : List Value).toArray s 0 0 (fun _ => False)) (F0 m 73 ls [.int y0, .int y1]) := by
    intro k23 hk23
    intro x2 x3 x5 x6 x7 y0 y1 h ls hl
    rw [f_L_isLorry_b73] at h
    refine o_iadd hx hb dL_isLorry_73 h (fun v21 h => ?_)
    refine lv_istore (lv' := [(4, .int v21), (0, .ref (a 0)), (1, .int p2), (2, .int x2), (3, .int x3), (5, .int x5), (6, .int x6), (7, .int x7)]) hx hb dL_isLorry_74 hl (by decide) rfl (fun ls hl => ?_)
    refine lv_iload hx hb dL_isLorry_76 (lv_at hl 5 rfl) ?_
    refine zi_ne (tgt := 98) hx hb dL_isLorry_78 (by decide) h (fun h => ?_) (fun h => ?_)
    · exact B98 (k23) hk23 x2 x3 v21 x6 h ls (lv_sub hl [1, 2, 3, 4, 0, 6] rfl)
    · refine lv_iload hx hb dL_isLorry_81 (lv_at hl 7 rfl) ?_
      refine zi_eq (tgt := 102) hx hb dL_isLorry_83 (by decide) h (fun h => ?_) (fun h => ?_)
      · exact B102 (k23) hk23 x2 x3 v21 x6 h ls (lv_sub hl [1, 2, 3, 4, 0, 6] rfl)
      · refine lv_aload_n hx hb dL_isLorry_86 rfl (lv_at hl 1 rfl) ?_
        refine lv_iload hx hb dL_isLorry_87 (lv_at hl 6 rfl) ?_
        refine lv_bipush (v := (7 : Int32)) hx hb dL_isLorry_89 (by decide) ?_
        obtain ⟨v23, hc, h⟩ := zb1_s h
        refine zE_i (zrV (C := RX7) (As := [.int x6, .int (7 : Int32)]) (rest := []) hx hb hml hown hts tw363 mv_X7_of ⟨Nat.le_of_ble_eq_true rfl, Nat.le_of_ble_eq_true rfl⟩ rfl rfl (ct_X7_of l D ct a f g nx hz sw fl sg pl pa pk pn pf pg x6 (7 : Int32) k v23 hc) (z_pv hK hP [0, 1, 2, 3, 4, 5, 6, 7, 8, 9, 10, 11, 12, 13, 14, 15, 16, 17, 18, 19, 20, 21] rfl 0 rfl rfl) hl.1 rfl rfl (Nat.le_of_ble_eq_true rfl) dL_isLorry_91 ⟨Nat.le_refl _, Nat.le_refl _⟩) ?_
        refine lv_iconst (v := (1 : Int32)) hx hb dL_isLorry_94 (by decide) ?_
        refine zc_ne (tgt := 102) hx hb dL_isLorry_95 (by decide) h (fun h => ?_) (fun h => ?_)
        · exact B102 (k23) hk23 x2 x3 v21 x6 h ls (lv_sub hl [1, 2, 3, 4, 0, 6] rfl)
        · exact B98 (k23) hk23 x2 x3 v21 x6 h ls (lv_sub hl [1, 2, 3, 4, 0, 6] rfl)
  have B53 : ∀ (k23 : Int32 → Int32 → Int32 → Int32 → Int32 → Option (Int32)) (hk23 : ∀ (x2 : Int32) (x3 : Int32) (x4 : Int32) (x5 : Int32) (x6 : Int32), k23 x2 x3 x4 x5 x6 = some r → ∀ (ls : Array Slot), lv_has ls 8 [(0, .ref (a 0)), (1, .int p2), (2, .int x2), (3, .int x3), (4, .int x4), (5, .int x5), (6, .int x6)] → W p l e ({ frames := 7, cells := 0, slots := 0, locals := 156 } : Room) s m ([.ref (a 0), .int p2] : List Value).toArray below meth c s.heap [] 0 0 (MQ below (vp_Si (fun r' => r' = r)) ([.ref (a 0), .int p2] : List Value).toArray s 0 0 (fun _ => False)) (F0 m 23 ls [])), ∀ (x2 : Int32) (x3 : Int32) (x4 : Int32) (x5 : Int32) (x6 : Int32) (y0 : Int32), f_L_isLorry_b53 k f hz pl p2 k23 x2 x3 x4 x5 x6 y0 = some r → ∀ (ls : Array Slot), lv_has ls 8 [(0, .ref (a 0)), (1, .int p2), (2, .int x2), (3, .int x3), (4, .int x4), (5, .int x5), (6, .int x6)] → W p l e ({ frames := 7, cells := 0, slots := 0, locals := 156 } : Room) s m ([.ref (a 0), .int p2] : List Value).toArray below meth c s.heap [] 0 0 (MQ below (vp_Si (fun r' => r' = r)) ([.ref (a 0), .int p2] : List Value).toArray s 0 0 (fun _ => False)) (F0 m 53 ls [.int y0]) := by
    intro k23 hk23
    intro x2 x3 x4 x5 x6 y0 h ls hl
    rw [f_L_isLorry_b53] at h
    refine lv_istore (lv' := [(7, .int y0), (0, .ref (a 0)), (1, .int p2), (2, .int x2), (3, .int x3), (4, .int x4), (5, .int x5), (6, .int x6)]) hx hb dL_isLorry_53 hl (by decide) rfl (fun ls hl => ?_)
    refine lv_iload hx hb dL_isLorry_55 (lv_at hl 5 rfl) ?_
    refine lv_iload hx hb dL_isLorry_57 (lv_at hl 0 rfl) ?_
    refine zi_eq (tgt := 72) hx hb dL_isLorry_59 (by decide) h (fun h => ?_) (fun h => ?_)
    · refine lv_iconst (v := (0 : Int32)) hx hb dL_isLorry_72 (by decide) ?_
      exact B73 (k23) hk23 x2 x3 x5 x6 y0 (0 : Int32) x4 h ls (lv_sub hl [1, 2, 3, 4, 6, 7, 0] rfl)
    · refine lv_aload_n hx hb dL_isLorry_62 rfl (lv_at hl 1 rfl) ?_
      refine lv_iload hx hb dL_isLorry_63 (lv_at hl 7 rfl) ?_
      refine lv_iconst (v := (4 : Int32)) hx hb dL_isLorry_65 (by decide) ?_
      obtain ⟨v24, hc, h⟩ := zb1_s h
      refine zE_i (zrV (C := RX7) (As := [.int x6, .int (4 : Int32)]) (rest := [.int x4]) hx hb hml hown hts tw363 mv_X7_of ⟨Nat.le_of_ble_eq_true rfl, Nat.le_of_ble_eq_true rfl⟩ rfl rfl (ct_X7_of l D ct a f g nx hz sw fl sg pl pa pk pn pf pg x6 (4 : Int32) k v24 hc) (z_pv hK hP [0, 1, 2, 3, 4, 5, 6, 7, 8, 9, 10, 11, 12, 13, 14, 15, 16, 17, 18, 19, 20, 21] rfl 0 rfl rfl) hl.1 rfl rfl (Nat.le_of_ble_eq_true rfl) dL_isLorry_66 ⟨Nat.le_refl _, Nat.le_refl _⟩) ?_
      refine lv_goto (tgt := 73) hx hb dL_isLorry_69 (by decide) ?_
      exact B73 (k23) hk23 x2 x3 x5 x6 y0 v24 x4 h ls (lv_sub hl [1, 2, 3, 4, 6, 7, 0] rfl)
  have B23 : ∀ (n : Nat), ∀ (x2 : Int32) (x3 : Int32) (x4 : Int32) (x5 : Int32) (x6 : Int32), f_L_isLorry_b23 k f hz pl p2 n x2 x3 x4 x5 x6 = some r → ∀ (ls : Array Slot), lv_has ls 8 [(0, .ref (a 0)), (1, .int p2), (2, .int x2), (3, .int x3), (4, .int x4), (5, .int x5), (6, .int x6)] → W p l e ({ frames := 7, cells := 0, slots := 0, locals := 156 } : Room) s m ([.ref (a 0), .int p2] : List Value).toArray below meth c s.heap [] 0 0 (MQ below (vp_Si (fun r' => r' = r)) ([.ref (a 0), .int p2] : List Value).toArray s 0 0 (fun _ => False)) (F0 m 23 ls []) := by
    intro n
    induction n with
    | zero => intro x2 x3 x4 x5 x6 h; exact absurd h (by rw [f_L_isLorry_b23]; exact fun q => nomatch q)
    | succ n ih23 =>
      intro x2 x3 x4 x5 x6 h ls hl
      rw [f_L_isLorry_b23] at h
      refine lv_iload hx hb dL_isLorry_23 (lv_at hl 6 rfl) ?_
      refine lv_aload_n hx hb dL_isLorry_25 rfl (lv_at hl 0 rfl) ?_
      refine lv_iconst (v := (1 : Int32)) hx hb dL_isLorry_26 (by decide) ?_
      obtain ⟨v3, hc, h⟩ := zb1_s h
      refine zE_i (zrV (C := RX7) (As := [.int (1 : Int32)]) (rest := [.int x6]) hx hb hml hown hts tw152 mv_X7_count ⟨Nat.le_of_ble_eq_true rfl, Nat.le_of_ble_eq_true rfl⟩ rfl rfl (ct_X7_count l D ct a f g nx hz sw fl sg pl pa pk pn pf pg (1 : Int32) k v3 hc) (z_pv hK hP [0, 1, 2, 3, 4, 5, 6, 7, 8, 9, 10, 11, 12, 13, 14, 15, 16, 17, 18, 19, 20, 21] rfl 0 rfl rfl) hl.1 rfl rfl (Nat.le_of_ble_eq_true rfl) dL_isLorry_27 ⟨Nat.le_refl _, Nat.le_refl _⟩) ?_
      refine zc_ge (tgt := 111) hx hb dL_isLorry_30 (by decide) h (fun h => ?_) (fun h => ?_)
      · refine lv_aload_n hx hb dL_isLorry_111 rfl (lv_at hl 0 rfl) ?_
        refine lv_iload_n hx hb dL_isLorry_112 rfl (lv_at hl 1 rfl) ?_
        refine lv_iconst (v := (3 : Int32)) hx hb dL_isLorry_113 (by decide) ?_
        obtain ⟨v4, hc, h⟩ := zb1_s h
        refine zE_i (zrV (C := RX7) (As := [.int p2, .int (3 : Int32)]) (rest := []) hx hb hml hown hts tw523 mv_X7_ofLorry ⟨Nat.le_of_ble_eq_true rfl, Nat.le_of_ble_eq_true rfl⟩ rfl rfl (ct_X7_ofLorry l D ct a f g nx hz sw fl sg pl pa pk pn pf pg p2 (3 : Int32) k v4 hc) (z_pv hK hP [0, 1, 2, 3, 4, 5, 6, 7, 8, 9, 10, 11, 12, 13, 14, 15, 16, 17, 18, 19, 20, 21] rfl 0 rfl rfl) hl.1 rfl rfl (Nat.le_of_ble_eq_true rfl) dL_isLorry_114 ⟨Nat.le_refl _, Nat.le_refl _⟩) ?_
        refine zi_ne (tgt := 124) hx hb dL_isLorry_117 (by decide) h (fun h => ?_) (fun h => ?_)
        · refine lv_iload hx hb dL_isLorry_124 (lv_at hl 5 rfl) ?_
          refine zi_eq (tgt := 133) hx hb dL_isLorry_126 (by decide) h (fun h => ?_) (fun h => ?_)
          · refine lv_iload hx hb dL_isLorry_133 (lv_at hl 4 rfl) ?_
            refine lv_aload_n hx hb dL_isLorry_135 rfl (lv_at hl 0 rfl) ?_
            refine lv_iload_n hx hb dL_isLorry_136 rfl (lv_at hl 1 rfl) ?_
            refine lv_bipush (v := (6 : Int32)) hx hb dL_isLorry_137 (by decide) ?_
            obtain ⟨v5, hc, h⟩ := zb1_s h
            refine zE_i (zrV (C := RX7) (As := [.int p2, .int (6 : Int32)]) (rest := [.int x4]) hx hb hml hown hts tw523 mv_X7_ofLorry ⟨Nat.le_of_ble_eq_true rfl, Nat.le_of_ble_eq_true rfl⟩ rfl rfl (ct_X7_ofLorry l D ct a f g nx hz sw fl sg pl pa pk pn pf pg p2 (6 : Int32) k v5 hc) (z_pv hK hP [0, 1, 2, 3, 4, 5, 6, 7, 8, 9, 10, 11, 12, 13, 14, 15, 16, 17, 18, 19, 20, 21] rfl 0 rfl rfl) hl.1 rfl rfl (Nat.le_of_ble_eq_true rfl) dL_isLorry_139 ⟨Nat.le_refl _, Nat.le_refl _⟩) ?_
            refine zc_le (tgt := 149) hx hb dL_isLorry_142 (by decide) h (fun h => ?_) (fun h => ?_)
            · refine lv_iload_n hx hb dL_isLorry_149 rfl (lv_at hl 2 rfl) ?_
              refine lv_iconst (v := (4 : Int32)) hx hb dL_isLorry_150 (by decide) ?_
              refine lv_aload_n hx hb dL_isLorry_151 rfl (lv_at hl 0 rfl) ?_
              refine lv_iload_n hx hb dL_isLorry_152 rfl (lv_at hl 1 rfl) ?_
              refine lv_iconst (v := (4 : Int32)) hx hb dL_isLorry_153 (by decide) ?_
              obtain ⟨v6, hc, h⟩ := zb1_s h
              refine zE_i (zrV (C := RX7) (As := [.int p2, .int (4 : Int32)]) (rest := [.int (4 : Int32), .int x2]) hx hb hml hown hts tw523 mv_X7_ofLorry ⟨Nat.le_of_ble_eq_true rfl, Nat.le_of_ble_eq_true rfl⟩ rfl rfl (ct_X7_ofLorry l D ct a f g nx hz sw fl sg pl pa pk pn pf pg p2 (4 : Int32) k v6 hc) (z_pv hK hP [0, 1, 2, 3, 4, 5, 6, 7, 8, 9, 10, 11, 12, 13, 14, 15, 16, 17, 18, 19, 20, 21] rfl 0 rfl rfl) hl.1 rfl rfl (Nat.le_of_ble_eq_true rfl) dL_isLorry_154 ⟨Nat.le_refl _, Nat.le_refl _⟩) ?_
              refine o_imul hx hb dL_isLorry_157 h (fun v7 h => ?_)
              refine zc_le (tgt := 165) hx hb dL_isLorry_158 (by decide) h (fun h => ?_) (fun h => ?_)
              · refine lv_iload_n hx hb dL_isLorry_165 rfl (lv_at hl 3 rfl) ?_
                refine lv_iconst (v := (4 : Int32)) hx hb dL_isLorry_166 (by decide) ?_
                refine lv_aload_n hx hb dL_isLorry_167 rfl (lv_at hl 0 rfl) ?_
                refine lv_iload_n hx hb dL_isLorry_168 rfl (lv_at hl 1 rfl) ?_
                refine lv_iconst (v := (5 : Int32)) hx hb dL_isLorry_169 (by decide) ?_
                obtain ⟨v8, hc, h⟩ := zb1_s h
                refine zE_i (zrV (C := RX7) (As := [.int p2, .int (5 : Int32)]) (rest := [.int (4 : Int32), .int x3]) hx hb hml hown hts tw523 mv_X7_ofLorry ⟨Nat.le_of_ble_eq_true rfl, Nat.le_of_ble_eq_true rfl⟩ rfl rfl (ct_X7_ofLorry l D ct a f g nx hz sw fl sg pl pa pk pn pf pg p2 (5 : Int32) k v8 hc) (z_pv hK hP [0, 1, 2, 3, 4, 5, 6, 7, 8, 9, 10, 11, 12, 13, 14, 15, 16, 17, 18, 19, 20, 21] rfl 0 rfl rfl) hl.1 rfl rfl (Nat.le_of_ble_eq_true rfl) dL_isLorry_170 ⟨Nat.le_refl _, Nat.le_refl _⟩) ?_
                refine o_imul hx hb dL_isLorry_173 h (fun v9 h => ?_)
                refine zc_le (tgt := 181) hx hb dL_isLorry_174 (by decide) h (fun h => ?_) (fun h => ?_)
                · refine lv_iconst (v := (0 : Int32)) hx hb dL_isLorry_181 (by decide) ?_
                  exact B182 x2 x3 x4 (0 : Int32) h ls (lv_sub hl [0, 1, 2, 3, 4] rfl)
                · refine lv_iconst (v := (5 : Int32)) hx hb dL_isLorry_177 (by decide) ?_
                  refine lv_goto (tgt := 182) hx hb dL_isLorry_178 (by decide) ?_
                  exact B182 x2 x3 x4 (5 : Int32) h ls (lv_sub hl [0, 1, 2, 3, 4] rfl)
              · refine lv_iconst (v := (4 : Int32)) hx hb dL_isLorry_161 (by decide) ?_
                refine lv_goto (tgt := 182) hx hb dL_isLorry_162 (by decide) ?_
                exact B182 x2 x3 x4 (4 : Int32) h ls (lv_sub hl [0, 1, 2, 3, 4] rfl)
            · refine lv_iconst (v := (3 : Int32)) hx hb dL_isLorry_145 (by decide) ?_
              refine lv_goto (tgt := 182) hx hb dL_isLorry_146 (by decide) ?_
              exact B182 x2 x3 x4 (3 : Int32) h ls (lv_sub hl [0, 1, 2, 3, 4] rfl)
          · refine lv_iconst (v := (2 : Int32)) hx hb dL_isLorry_129 (by decide) ?_
            refine lv_goto (tgt := 182) hx hb dL_isLorry_130 (by decide) ?_
            exact B182 x2 x3 x4 (2 : Int32) h ls (lv_sub hl [0, 1, 2, 3, 4] rfl)
        · refine lv_iconst (v := (1 : Int32)) hx hb dL_isLorry_120 (by decide) ?_
          refine lv_goto (tgt := 182) hx hb dL_isLorry_121 (by decide) ?_
          exact B182 x2 x3 x4 (1 : Int32) h ls (lv_sub hl [0, 1, 2, 3, 4] rfl)
      · refine lv_aload_n hx hb dL_isLorry_33 rfl (lv_at hl 0 rfl) ?_
        refine lv_iload_n hx hb dL_isLorry_34 rfl (lv_at hl 1 rfl) ?_
        refine lv_iconst (v := (3 : Int32)) hx hb dL_isLorry_35 (by decide) ?_
        obtain ⟨v18, hc, h⟩ := zb1_s h
        refine zE_i (zrV (C := RX7) (As := [.int p2, .int (3 : Int32)]) (rest := []) hx hb hml hown hts tw523 mv_X7_ofLorry ⟨Nat.le_of_ble_eq_true rfl, Nat.le_of_ble_eq_true rfl⟩ rfl rfl (ct_X7_ofLorry l D ct a f g nx hz sw fl sg pl pa pk pn pf pg p2 (3 : Int32) k v18 hc) (z_pv hK hP [0, 1, 2, 3, 4, 5, 6, 7, 8, 9, 10, 11, 12, 13, 14, 15, 16, 17, 18, 19, 20, 21] rfl 0 rfl rfl) hl.1 rfl rfl (Nat.le_of_ble_eq_true rfl) dL_isLorry_36 ⟨Nat.le_refl _, Nat.le_refl _⟩) ?_
        refine lv_iload hx hb dL_isLorry_39 (lv_at hl 6 rfl) ?_
        refine o_ishr hx hb dL_isLorry_41 h (fun v19 h => ?_)
        refine lv_iconst (v := (1 : Int32)) hx hb dL_isLorry_42 (by decide) ?_
        refine o_iand hx hb dL_isLorry_43 h (fun v20 h => ?_)
        refine lv_iconst (v := (1 : Int32)) hx hb dL_isLorry_44 (by decide) ?_
        refine zc_ne (tgt := 52) hx hb dL_isLorry_45 (by decide) h (fun h => ?_) (fun h => ?_)
        · refine lv_iconst (v := (0 : Int32)) hx hb dL_isLorry_52 (by decide) ?_
          exact B53 (f_L_isLorry_b23 k f hz pl p2 n) ih23 x2 x3 x4 x5 x6 (0 : Int32) h ls (lv_sub hl [0, 1, 2, 3, 4, 5, 6] rfl)
        · refine lv_iconst (v := (1 : Int32)) hx hb dL_isLorry_48 (by decide) ?_
          refine lv_goto (tgt := 53) hx hb dL_isLorry_49 (by decide) ?_
          exact B53 (f_L_isLorry_b23 k f hz pl p2 n) ih23 x2 x3 x4 x5 x6 (1 : Int32) h ls (lv_sub hl [0, 1, 2, 3, 4, 5, 6] rfl)
  rw [f_L_isLorry] at h
  refine lv_aload_n hx hb dL_isLorry_0 rfl (lv_at hl 0 rfl) ?_
  refine lv_iload_n hx hb dL_isLorry_1 rfl (lv_at hl 1 rfl) ?_
  refine lv_iconst (v := (0 : Int32)) hx hb dL_isLorry_2 (by decide) ?_
  obtain ⟨v1, hc, h⟩ := zb1_s h
  refine zE_i (zrS (As := [.ref (a 0), .int p2, .int (0 : Int32)]) (rest := []) hx hb hml hown hts tw567 ms_L_axle ⟨Nat.le_of_ble_eq_true rfl, Nat.le_of_ble_eq_true rfl⟩ rfl rfl (ct_L_axle l D ct a f g nx hz sw fl sg pl pa pk pn pf pg p2 (0 : Int32) k v1 hc) (z_ps hK hP [0, 1, 2, 3, 4, 5, 6, 7, 8, 9, 10, 11, 12, 13, 14, 15, 16, 17, 18, 19, 20, 21] rfl) hl.1 rfl rfl (Nat.le_of_ble_eq_true rfl) dL_isLorry_3 ⟨Nat.le_refl _, Nat.le_refl _⟩) ?_
  refine lv_istore_n (lv' := [(2, .int v1), (0, .ref (a 0)), (1, .int p2)]) hx hb dL_isLorry_6 rfl hl (by decide) rfl (fun ls hl => ?_)
  refine lv_aload_n hx hb dL_isLorry_7 rfl (lv_at hl 1 rfl) ?_
  refine lv_iload_n hx hb dL_isLorry_8 rfl (lv_at hl 2 rfl) ?_
  refine lv_iconst (v := (1 : Int32)) hx hb dL_isLorry_9 (by decide) ?_
  obtain ⟨v2, hc, h⟩ := zb1_s h
  refine zE_i (zrS (As := [.ref (a 0), .int p2, .int (1 : Int32)]) (rest := []) hx hb hml hown hts tw567 ms_L_axle ⟨Nat.le_of_ble_eq_true rfl, Nat.le_of_ble_eq_true rfl⟩ rfl rfl (ct_L_axle l D ct a f g nx hz sw fl sg pl pa pk pn pf pg p2 (1 : Int32) k v2 hc) (z_ps hK hP [0, 1, 2, 3, 4, 5, 6, 7, 8, 9, 10, 11, 12, 13, 14, 15, 16, 17, 18, 19, 20, 21] rfl) hl.1 rfl rfl (Nat.le_of_ble_eq_true rfl) dL_isLorry_10 ⟨Nat.le_refl _, Nat.le_refl _⟩) ?_
  refine lv_istore_n (lv' := [(3, .int v2), (2, .int v1), (0, .ref (a 0)), (1, .int p2)]) hx hb dL_isLorry_13 rfl hl (by decide) rfl (fun ls hl => ?_)
  refine lv_iconst (v := (0 : Int32)) hx hb dL_isLorry_14 (by decide) ?_
  refine lv_istore (lv' := [(4, .int (0 : Int32)), (3, .int v2), (2, .int v1), (0, .ref (a 0)), (1, .int p2)]) hx hb dL_isLorry_15 hl (by decide) rfl (fun ls hl => ?_)
  refine lv_iconst (v := (0 : Int32)) hx hb dL_isLorry_17 (by decide) ?_
  refine lv_istore (lv' := [(5, .int (0 : Int32)), (4, .int (0 : Int32)), (3, .int v2), (2, .int v1), (0, .ref (a 0)), (1, .int p2)]) hx hb dL_isLorry_18 hl (by decide) rfl (fun ls hl => ?_)
  refine lv_iconst (v := (0 : Int32)) hx hb dL_isLorry_20 (by decide) ?_
  refine lv_istore (lv' := [(6, .int (0 : Int32)), (5, .int (0 : Int32)), (4, .int (0 : Int32)), (3, .int v2), (2, .int v1), (0, .ref (a 0)), (1, .int p2)]) hx hb dL_isLorry_21 hl (by decide) rfl (fun ls hl => ?_)
  exact B23 k v1 v2 (0 : Int32) (0 : Int32) (0 : Int32) h ls (lv_sub hl [5, 6, 4, 3, 2, 1, 0] rfl)

def f_L_bits_b4 (k : Nat) (p1 : Int32)  : Nat → Int32 → Int32 → Option (Int32)
  | 0, _, _ => none
  | n + 1, x1, x2 =>
    if (24 : Int32) ≤ x2 then
      some x1
    else
      zl (p1 >>> (x2 &&& 31)) fun v1 =>
      zl (v1 &&& (1 : Int32)) fun v2 =>
      zl (x1 + v2) fun v3 =>
      zl (x2 + (1 : Int32)) fun v4 =>
      f_L_bits_b4 k p1 n v3 v4
def f_L_bits (k : Nat) (p1 : Int32) : Option (Int32) :=
  f_L_bits_b4 k p1 k (0 : Int32) (0 : Int32)
set_option maxRecDepth 100000 in
set_option maxHeartbeats 4000000 in
theorem ct_L_bits (l : Launch) (p1 : Int32) (k : Nat) (r : Int32) (h : f_L_bits k p1 = some r) : Met l yL_bits (Cond.code yL_bits cL_bits 3 (some .int) :: zT) ({ frames := 0, cells := 0, slots := 0, locals := 0 } : Room) (va_Pc [.int p1] (fun _ => True)) (vp_Si (fun r' => r' = r)) 0 0 (fun _ => False) := by
  refine zMet (cc := cL_bits) (maxL := 3) (ret := (some .int)) (av := [.int p1]) (by decide) (Nat.le_of_ble_eq_true rfl) (fun p e s m below meth c ls hx hb hr hml hts hown hlocks hin hB hl => ?_)
  have hl : lv_has ls 3 [(0, .int p1)] := hl
  have hown : s.vm.findClass RL = some m.cls := hown
  have B4 : ∀ (n : Nat), ∀ (x1 : Int32) (x2 : Int32), f_L_bits_b4 k p1 n x1 x2 = some r → ∀ (ls : Array Slot), lv_has ls 3 [(0, .int p1), (1, .int x1), (2, .int x2)] → W p l e ({ frames := 0, cells := 0, slots := 0, locals := 0 } : Room) s m ([.int p1] : List Value).toArray below meth c s.heap [] 0 0 (MQ below (vp_Si (fun r' => r' = r)) ([.int p1] : List Value).toArray s 0 0 (fun _ => False)) (F0 m 4 ls []) := by
    intro n
    induction n with
    | zero => intro x1 x2 h; exact absurd h (by rw [f_L_bits_b4]; exact fun q => nomatch q)
    | succ n ih4 =>
      intro x1 x2 h ls hl
      rw [f_L_bits_b4] at h
      refine lv_iload_n hx hb dL_bits_4 rfl (lv_at hl 2 rfl) ?_
      refine lv_bipush (v := (24 : Int32)) hx hb dL_bits_5 (by decide) ?_
      refine zc_ge (tgt := 24) hx hb dL_bits_7 (by decide) h (fun h => ?_) (fun h => ?_)
      · refine lv_iload_n hx hb dL_bits_24 rfl (lv_at hl 1 rfl) ?_
        exact zR_i hx hb hr hlocks dL_bits_25 h
      · refine lv_iload_n hx hb dL_bits_10 rfl (lv_at hl 1 rfl) ?_
        refine lv_iload_n hx hb dL_bits_11 rfl (lv_at hl 0 rfl) ?_
        refine lv_iload_n hx hb dL_bits_12 rfl (lv_at hl 2 rfl) ?_
        refine o_ishr hx hb dL_bits_13 h (fun v1 h => ?_)
        refine lv_iconst (v := (1 : Int32)) hx hb dL_bits_14 (by decide) ?_
        refine o_iand hx hb dL_bits_15 h (fun v2 h => ?_)
        refine o_iadd hx hb dL_bits_16 h (fun v3 h => ?_)
        refine lv_istore_n (lv' := [(1, .int v3), (0, .int p1), (2, .int x2)]) hx hb dL_bits_17 rfl hl (by decide) rfl (fun ls hl => ?_)
        refine o_nm h (fun v4 ey h => ?_)
        refine lv_iinc (v := v4) (lv' := [(2, .int v4), (1, .int v3), (0, .int p1)]) hx hb dL_bits_18 hl (k := 2) rfl (Eq.trans rfl ey) (by decide) rfl (fun ls hl => ?_)
        refine lv_goto (tgt := 4) hx hb dL_bits_21 (by decide) ?_
        exact ih4 v3 v4 h ls (lv_sub hl [2, 1, 0] rfl)
  rw [f_L_bits] at h
  refine lv_iconst (v := (0 : Int32)) hx hb dL_bits_0 (by decide) ?_
  refine lv_istore_n (lv' := [(1, .int (0 : Int32)), (0, .int p1)]) hx hb dL_bits_1 rfl hl (by decide) rfl (fun ls hl => ?_)
  refine lv_iconst (v := (0 : Int32)) hx hb dL_bits_2 (by decide) ?_
  refine lv_istore_n (lv' := [(2, .int (0 : Int32)), (1, .int (0 : Int32)), (0, .int p1)]) hx hb dL_bits_3 rfl hl (by decide) rfl (fun ls hl => ?_)
  exact B4 k (0 : Int32) (0 : Int32) h ls (lv_sub hl [2, 1, 0] rfl)

def f_L_holds_b276 (k : Nat) (f : Nat → Int32) (hz : Int32) (pl : Int32)   : Option (Int32) :=
  some (0 : Int32)
def f_L_holds_b225 (k : Nat) (f : Nat → Int32) (hz : Int32) (pl : Int32)  (x1 : Int32) (x2 : Int32) (x3 : Int32) (x4 : Int32) : Option (Int32) :=
  if x4 = 0 then
    f_L_holds_b276 k f hz pl
  else
    zb1 (f_X7_count k f hz pl (7 : Int32)) fun v5 =>
    if x1 = v5 then
      zb1 (f_X7_count k f hz pl (9 : Int32)) fun v6 =>
      if x3 = v6 then
        zb1 (f_X7_count k f hz pl (10 : Int32)) fun v7 =>
        if x2 = v7 then
          zb1 (f_X7_count k f hz pl (4 : Int32)) fun v8 =>
          zb1 (f_L_bits k v8) fun v9 =>
          if (4 : Int32) < v9 then
            f_L_holds_b276 k f hz pl
          else
            some (1 : Int32)
        else
          f_L_holds_b276 k f hz pl
      else
        f_L_holds_b276 k f hz pl
    else
      f_L_holds_b276 k f hz pl
def f_L_holds_b200 (k : Nat) (f : Nat → Int32) (hz : Int32) (pl : Int32)  : Nat → Int32 → Int32 → Int32 → Int32 → Int32 → Option (Int32)
  | 0, _, _, _, _, _ => none
  | n + 1, x1, x2, x3, x4, x5 =>
    if (3 : Int32) ≤ x5 then
      f_L_holds_b225 k f hz pl x1 x2 x3 x4
    else
      if x4 = 0 then
        f_L_holds_b225 k f hz pl x1 x2 x3 x4
      else
        zb1 (f_L_isLorry k f hz pl x5) fun v10 =>
        zl (x5 + (1 : Int32)) fun v11 =>
        f_L_holds_b200 k f hz pl n x1 x2 x3 v10 v11
def f_L_holds_b197 (k : Nat) (f : Nat → Int32) (hz : Int32) (pl : Int32)  (x1 : Int32) (x2 : Int32) (x3 : Int32) (x4 : Int32) : Option (Int32) :=
  f_L_holds_b200 k f hz pl k x1 x2 x3 x4 (0 : Int32)
def f_L_holds_b189 (k : Nat) (f : Nat → Int32) (hz : Int32) (pl : Int32) (k143 : Int32 → Int32 → Int32 → Int32 → Int32 → Option (Int32)) (x1 : Int32) (x3 : Int32) (x4 : Int32) (x5 : Int32) (y0 : Int32) (y1 : Int32) : Option (Int32) :=
  zl (y1 + y0) fun v14 =>
  zl (x5 + (1 : Int32)) fun v15 =>
  k143 x1 v14 x3 x4 v15
def f_L_holds_b143 (k : Nat) (f : Nat → Int32) (hz : Int32) (pl : Int32)  : Nat → Int32 → Int32 → Int32 → Int32 → Int32 → Option (Int32)
  | 0, _, _, _, _, _ => none
  | n + 1, x1, x2, x3, x4, x5 =>
    zb1 (f_X7_count k f hz pl (2 : Int32)) fun v4 =>
    if v4 ≤ x5 then
      f_L_holds_b197 k f hz pl x1 x2 x3 x4
    else
      if x4 = 0 then
        f_L_holds_b197 k f hz pl x1 x2 x3 x4
      else
        zb1 (f_L_isOrder k f hz pl x5) fun v12 =>
        zb1 (f_X7_ofOrder k f x5 (3 : Int32)) fun v13 =>
        if v13 = (2 : Int32) then
          zb1 (f_X7_ofOrder k f x5 (5 : Int32)) fun v16 =>
          f_L_holds_b189 k f hz pl (f_L_holds_b143 k f hz pl n) x1 x3 v12 x5 v16 x2
        else
          f_L_holds_b189 k f hz pl (f_L_holds_b143 k f hz pl n) x1 x3 v12 x5 (0 : Int32) x2
def f_L_holds_b140 (k : Nat) (f : Nat → Int32) (hz : Int32) (pl : Int32)  (x1 : Int32) (x2 : Int32) (x3 : Int32) (x4 : Int32) : Option (Int32) :=
  f_L_holds_b143 k f hz pl k x1 x2 x3 x4 (0 : Int32)
def f_L_holds_b132 (k : Nat) (f : Nat → Int32) (hz : Int32) (pl : Int32) (k61 : Int32 → Int32 → Int32 → Int32 → Int32 → Option (Int32)) (x1 : Int32) (x2 : Int32) (x4 : Int32) (x5 : Int32) (y0 : Int32) (y1 : Int32) : Option (Int32) :=
  zl (y1 + y0) fun v22 =>
  zl (x5 + (1 : Int32)) fun v23 =>
  k61 x1 x2 v22 x4 v23
def f_L_holds_b107 (k : Nat) (f : Nat → Int32) (hz : Int32) (pl : Int32) (k61 : Int32 → Int32 → Int32 → Int32 → Int32 → Option (Int32)) (x2 : Int32) (x3 : Int32) (x4 : Int32) (x5 : Int32) (y0 : Int32) (y1 : Int32) : Option (Int32) :=
  zl (y1 + y0) fun v20 =>
  zb1 (f_X7_of k f x5 (5 : Int32)) fun v21 =>
  if v21 = (3 : Int32) then
    zb1 (f_X7_of k f x5 (4 : Int32)) fun v24 =>
    f_L_holds_b132 k f hz pl (k61) v20 x2 x4 x5 v24 x3
  else
    f_L_holds_b132 k f hz pl (k61) v20 x2 x4 x5 (0 : Int32) x3
def f_L_holds_b61 (k : Nat) (f : Nat → Int32) (hz : Int32) (pl : Int32)  : Nat → Int32 → Int32 → Int32 → Int32 → Int32 → Option (Int32)
  | 0, _, _, _, _, _ => none
  | n + 1, x1, x2, x3, x4, x5 =>
    zb1 (f_X7_count k f hz pl (1 : Int32)) fun v3 =>
    if v3 ≤ x5 then
      f_L_holds_b140 k f hz pl x1 x2 x3 x4
    else
      if x4 = 0 then
        f_L_holds_b140 k f hz pl x1 x2 x3 x4
      else
        zb1 (f_L_isBlock k f hz pl x5) fun v17 =>
        zb1 (f_X7_of k f x5 (5 : Int32)) fun v18 =>
        if v18 = (4 : Int32) then
          f_L_holds_b107 k f hz pl (f_L_holds_b61 k f hz pl n) x2 x3 v17 x5 (0 : Int32) x1
        else
          zb1 (f_X7_of k f x5 (4 : Int32)) fun v19 =>
          f_L_holds_b107 k f hz pl (f_L_holds_b61 k f hz pl n) x2 x3 v17 x5 v19 x1
def f_L_holds_b56 (k : Nat) (f : Nat → Int32) (hz : Int32) (pl : Int32)  (x1 : Int32) (x2 : Int32) (x3 : Int32) (y0 : Int32) : Option (Int32) :=
  f_L_holds_b61 k f hz pl k x1 x2 x3 y0 (0 : Int32)
def f_L_holds_b55 (k : Nat) (f : Nat → Int32) (hz : Int32) (pl : Int32)  (x1 : Int32) (x2 : Int32) (x3 : Int32) : Option (Int32) :=
  f_L_holds_b56 k f hz pl x1 x2 x3 (0 : Int32)
def f_L_holds (k : Nat) (f : Nat → Int32) (hz : Int32) (pl : Int32) : Option (Int32) :=
  zb1 (f_X7_count k f hz pl (1 : Int32)) fun v1 =>
  zb1 (f_X7_of k f v1 (0 : Int32)) fun v2 =>
  if v2 = (-1 : Int32) then
    zb1 (f_X7_count k f hz pl (6 : Int32)) fun v25 =>
    zb1 (f_X7_count k f hz pl (7 : Int32)) fun v26 =>
    zb1 (f_X7_count k f hz pl (8 : Int32)) fun v27 =>
    zl (v26 + v27) fun v28 =>
    if v25 = v28 then
      zb1 (f_X7_count k f hz pl (8 : Int32)) fun v29 =>
      if v29 < 0 then
        f_L_holds_b55 k f hz pl (0 : Int32) (0 : Int32) (0 : Int32)
      else
        f_L_holds_b56 k f hz pl (0 : Int32) (0 : Int32) (0 : Int32) (1 : Int32)
    else
      f_L_holds_b55 k f hz pl (0 : Int32) (0 : Int32) (0 : Int32)
  else
    f_L_holds_b55 k f hz pl (0 : Int32) (0 : Int32) (0 : Int32)
set_option maxRecDepth 100000 in
set_option maxHeartbeats 4000000 in
theorem ct_L_holds (l : Launch) (D : va_G) (ct a : Nat → Nat) (f : Nat → Int32) (g : Nat → Nat → Int32) (nx : Int32) (hz : Int32) (sw : Nat → Nat → Int32) (fl : Nat → Int32) (sg : Nat → Int32) (pl : Int32) (pa : Int32) (pk : Int32) (pn : Nat → Int32) (pf : Int32) (pg : Int32) (k : Nat) (r : Int32) (h : f_L_holds k f hz pl = some r) : Met l yL_holds (Cond.code yL_holds cL_holds 6 (some .boolean) :: zT) ({ frames := 8, cells := 0, slots := 0, locals := 192 } : Room) (va_Pc [.ref (a 0)] (zPR D (zTys ct) (wX7 ct a f g nx hz sw fl sg pl pa pk pn pf pg))) (vp_Si (fun r' => r' = r)) 0 0 (fun _ => False) := by
  refine zMet (cc := cL_holds) (maxL := 6) (ret := (some .boolean)) (av := [.ref (a 0)]) (by decide) (Nat.le_of_ble_eq_true rfl) (fun p e s m below meth c ls hx hb hr hml hts hown hlocks hin hB hl => ?_)
  have hl : lv_has ls 6 [(0, .ref (a 0))] := hl
  have hown : s.vm.findClass RL = some m.cls := hown
  obtain ⟨hP, hK⟩ := hB
  have B276 : ∀ (_ : Unit), f_L_holds_b276 k f hz pl = some r → ∀ (ls : Array Slot), lv_has ls 6 [] → W p l e ({ frames := 8, cells := 0, slots := 0, locals := 192 } : Room) s m ([.ref (a 0)] : List Value).toArray below meth c s.heap [] 0 0 (MQ below (vp_Si (fun r' => r' = r)) ([.ref (a 0)] : List Value).toArray s 0 0 (fun _ => False)) (F0 m 276 ls []) := by
    intro _ h ls hl
    rw [f_L_holds_b276] at h
    refine lv_iconst (v := (0 : Int32)) hx hb dL_holds_276 (by decide) ?_
    exact zR_z hx hb hr hlocks dL_holds_277 h
  have B225 : ∀ (x1 : Int32) (x2 : Int32) (x3 : Int32) (x4 : Int32), f_L_holds_b225 k f hz pl x1 x2 x3 x4 = some r → ∀ (ls : Array Slot), lv_has ls 6 [(0, .ref (a 0)), (1, .int x1), (2, .int x2), (3, .int x3), (4, .int x4)] → W p l e ({ frames := 8, cells := 0, slots := 0, locals := 192 } : Room) s m ([.ref (a 0)] : List Value).toArray below meth c s.heap [] 0 0 (MQ below (vp_Si (fun r' => r' = r)) ([.ref (a 0)] : List Value).toArray s 0 0 (fun _ => False)) (F0 m 225 ls []) := by
    intro x1 x2 x3 x4 h ls hl
    rw [f_L_holds_b225] at h
    refine lv_iload hx hb dL_holds_225 (lv_at hl 4 rfl) ?_
    refine zi_eq (tgt := 276) hx hb dL_holds_227 (by decide) h (fun h => ?_) (fun h => ?_)
    · exact B276 () h ls (lv_sub hl [] rfl)
    · refine lv_iload_n hx hb dL_holds_230 rfl (lv_at hl 1 rfl) ?_
      refine lv_aload_n hx hb dL_holds_231 rfl (lv_at hl 0 rfl) ?_
      refine lv_bipush (v := (7 : Int32)) hx hb dL_holds_232 (by decide) ?_
      obtain ⟨v5, hc, h⟩ := zb1_s h
      refine zE_i (zrV (C := RX7) (As := [.int (7 : Int32)]) (rest := [.int x1]) hx hb hml hown hts tw152 mv_X7_count ⟨Nat.le_of_ble_eq_true rfl, Nat.le_of_ble_eq_true rfl⟩ rfl rfl (ct_X7_count l D ct a f g nx hz sw fl sg pl pa pk pn pf pg (7 : Int32) k v5 hc) (z_pv hK hP [0, 1, 2, 3, 4, 5, 6, 7, 8, 9, 10, 11, 12, 13, 14, 15, 16, 17, 18, 19, 20, 21] rfl 0 rfl rfl) hl.1 rfl rfl (Nat.le_of_ble_eq_true rfl) dL_holds_234 ⟨Nat.le_refl _, Nat.le_refl _⟩) ?_
      refine zc_ne (tgt := 276) hx hb dL_holds_237 (by decide) h (fun h => ?_) (fun h => ?_)
      · exact B276 () h ls (lv_sub hl [] rfl)
      · refine lv_iload_n hx hb dL_holds_240 rfl (lv_at hl 3 rfl) ?_
        refine lv_aload_n hx hb dL_holds_241 rfl (lv_at hl 0 rfl) ?_
        refine lv_bipush (v := (9 : Int32)) hx hb dL_holds_242 (by decide) ?_
        obtain ⟨v6, hc, h⟩ := zb1_s h
        refine zE_i (zrV (C := RX7) (As := [.int (9 : Int32)]) (rest := [.int x3]) hx hb hml hown hts tw152 mv_X7_count ⟨Nat.le_of_ble_eq_true rfl, Nat.le_of_ble_eq_true rfl⟩ rfl rfl (ct_X7_count l D ct a f g nx hz sw fl sg pl pa pk pn pf pg (9 : Int32) k v6 hc) (z_pv hK hP [0, 1, 2, 3, 4, 5, 6, 7, 8, 9, 10, 11, 12, 13, 14, 15, 16, 17, 18, 19, 20, 21] rfl 0 rfl rfl) hl.1 rfl rfl (Nat.le_of_ble_eq_true rfl) dL_holds_244 ⟨Nat.le_refl _, Nat.le_refl _⟩) ?_
        refine zc_ne (tgt := 276) hx hb dL_holds_247 (by decide) h (fun h => ?_) (fun h => ?_)
        · exact B276 () h ls (lv_sub hl [] rfl)
        · refine lv_iload_n hx hb dL_holds_250 rfl (lv_at hl 2 rfl) ?_
          refine lv_aload_n hx hb dL_holds_251 rfl (lv_at hl 0 rfl) ?_
          refine lv_bipush (v := (10 : Int32)) hx hb dL_holds_252 (by decide) ?_
          obtain ⟨v7, hc, h⟩ := zb1_s h
          refine zE_i (zrV (C := RX7) (As := [.int (10 : Int32)]) (rest := [.int x2]) hx hb hml hown hts tw152 mv_X7_count ⟨Nat.le_of_ble_eq_true rfl, Nat.le_of_ble_eq_true rfl⟩ rfl rfl (ct_X7_count l D ct a f g nx hz sw fl sg pl pa pk pn pf pg (10 : Int32) k v7 hc) (z_pv hK hP [0, 1, 2, 3, 4, 5, 6, 7, 8, 9, 10, 11, 12, 13, 14, 15, 16, 17, 18, 19, 20, 21] rfl 0 rfl rfl) hl.1 rfl rfl (Nat.le_of_ble_eq_true rfl) dL_holds_254 ⟨Nat.le_refl _, Nat.le_refl _⟩) ?_
          refine zc_ne (tgt := 276) hx hb dL_holds_257 (by decide) h (fun h => ?_) (fun h => ?_)
          · exact B276 () h ls (lv_sub hl [] rfl)
          · refine lv_aload_n hx hb dL_holds_260 rfl (lv_at hl 0 rfl) ?_
            refine lv_iconst (v := (4 : Int32)) hx hb dL_holds_261 (by decide) ?_
            obtain ⟨v8, hc, h⟩ := zb1_s h
            refine zE_i (zrV (C := RX7) (As := [.int (4 : Int32)]) (rest := []) hx hb hml hown hts tw152 mv_X7_count ⟨Nat.le_of_ble_eq_true rfl, Nat.le_of_ble_eq_true rfl⟩ rfl rfl (ct_X7_count l D ct a f g nx hz sw fl sg pl pa pk pn pf pg (4 : Int32) k v8 hc) (z_pv hK hP [0, 1, 2, 3, 4, 5, 6, 7, 8, 9, 10, 11, 12, 13, 14, 15, 16, 17, 18, 19, 20, 21] rfl 0 rfl rfl) hl.1 rfl rfl (Nat.le_of_ble_eq_true rfl) dL_holds_262 ⟨Nat.le_refl _, Nat.le_refl _⟩) ?_
            obtain ⟨v9, hc, h⟩ := zb1_s h
            refine zE_i (zrS (As := [.int v8]) (rest := []) hx hb hml hown hts tw579 ms_L_bits ⟨Nat.le_of_ble_eq_true rfl, Nat.le_of_ble_eq_true rfl⟩ rfl rfl (ct_L_bits l v8 k v9 hc) z_p0 hl.1 rfl rfl (Nat.le_of_ble_eq_true rfl) dL_holds_265 ⟨Nat.le_refl _, Nat.le_refl _⟩) ?_
            refine lv_iconst (v := (4 : Int32)) hx hb dL_holds_268 (by decide) ?_
            refine zc_gt (tgt := 276) hx hb dL_holds_269 (by decide) h (fun h => ?_) (fun h => ?_)
            · exact B276 () h ls (lv_sub hl [] rfl)
            · refine lv_iconst (v := (1 : Int32)) hx hb dL_holds_272 (by decide) ?_
              refine lv_goto (tgt := 277) hx hb dL_holds_273 (by decide) ?_
              exact zR_z hx hb hr hlocks dL_holds_277 h
  have B200 : ∀ (n : Nat), ∀ (x1 : Int32) (x2 : Int32) (x3 : Int32) (x4 : Int32) (x5 : Int32), f_L_holds_b200 k f hz pl n x1 x2 x3 x4 x5 = some r → ∀ (ls : Array Slot), lv_has ls 6 [(0, .ref (a 0)), (1, .int x1), (2, .int x2), (3, .int x3), (4, .int x4), (5, .int x5)] → W p l e ({ frames := 8, cells := 0, slots := 0, locals := 192 } : Room) s m ([.ref (a 0)] : List Value).toArray below meth c s.heap [] 0 0 (MQ below (vp_Si (fun r' => r' = r)) ([.ref (a 0)] : List Value).toArray s 0 0 (fun _ => False)) (F0 m 200 ls []) := by
    intro n
    induction n with
    | zero => intro x1 x2 x3 x4 x5 h; exact absurd h (by rw [f_L_holds_b200]; exact fun q => nomatch q)
    | succ n ih200 =>
      intro x1 x2 x3 x4 x5 h ls hl
      rw [f_L_holds_b200] at h
      refine lv_iload hx hb dL_holds_200 (lv_at hl 5 rfl) ?_
      refine lv_iconst (v := (3 : Int32)) hx hb dL_holds_202 (by decide) ?_
      refine zc_ge (tgt := 225) hx hb dL_holds_203 (by decide) h (fun h => ?_) (fun h => ?_)
      · exact B225 x1 x2 x3 x4 h ls (lv_sub hl [0, 1, 2, 3, 4] rfl)
      · refine lv_iload hx hb dL_holds_206 (lv_at hl 4 rfl) ?_
        refine zi_eq (tgt := 225) hx hb dL_holds_208 (by decide) h (fun h => ?_) (fun h => ?_)
        · exact B225 x1 x2 x3 x4 h ls (lv_sub hl [0, 1, 2, 3, 4] rfl)
        · refine lv_aload_n hx hb dL_holds_211 rfl (lv_at hl 0 rfl) ?_
          refine lv_iload hx hb dL_holds_212 (lv_at hl 5 rfl) ?_
          obtain ⟨v10, hc, h⟩ := zb1_s h
          refine zE_i (zrS (As := [.ref (a 0), .int x5]) (rest := []) hx hb hml hown hts tw564 ms_L_isLorry ⟨Nat.le_of_ble_eq_true rfl, Nat.le_of_ble_eq_true rfl⟩ rfl rfl (ct_L_isLorry l D ct a f g nx hz sw fl sg pl pa pk pn pf pg x5 k v10 hc) (z_ps hK hP [0, 1, 2, 3, 4, 5, 6, 7, 8, 9, 10, 11, 12, 13, 14, 15, 16, 17, 18, 19, 20, 21] rfl) hl.1 rfl rfl (Nat.le_of_ble_eq_true rfl) dL_holds_214 ⟨Nat.le_refl _, Nat.le_refl _⟩) ?_
          refine lv_istore (lv' := [(4, .int v10), (0, .ref (a 0)), (1, .int x1), (2, .int x2), (3, .int x3), (5, .int x5)]) hx hb dL_holds_217 hl (by decide) rfl (fun ls hl => ?_)
          refine o_nm h (fun v11 ey h => ?_)
          refine lv_iinc (v := v11) (lv' := [(5, .int v11), (4, .int v10), (0, .ref (a 0)), (1, .int x1), (2, .int x2), (3, .int x3)]) hx hb dL_holds_219 hl (k := 5) rfl (Eq.trans rfl ey) (by decide) rfl (fun ls hl => ?_)
          refine lv_goto (tgt := 200) hx hb dL_holds_222 (by decide) ?_
          exact ih200 x1 x2 x3 v10 v11 h ls (lv_sub hl [2, 3, 4, 5, 1, 0] rfl)
  have B197 : ∀ (x1 : Int32) (x2 : Int32) (x3 : Int32) (x4 : Int32), f_L_holds_b197 k f hz pl x1 x2 x3 x4 = some r → ∀ (ls : Array Slot), lv_has ls 6 [(0, .ref (a 0)), (1, .int x1), (2, .int x2), (3, .int x3), (4, .int x4)] → W p l e ({ frames := 8, cells := 0, slots := 0, locals := 192 } : Room) s m ([.ref (a 0)] : List Value).toArray below meth c s.heap [] 0 0 (MQ below (vp_Si (fun r' => r' = r)) ([.ref (a 0)] : List Value).toArray s 0 0 (fun _ => False)) (F0 m 197 ls []) := by
    intro x1 x2 x3 x4 h ls hl
    rw [f_L_holds_b197] at h
    refine lv_iconst (v := (0 : Int32)) hx hb dL_holds_197 (by decide) ?_
    refine lv_istore (lv' := [(5, .int (0 : Int32)), (0, .ref (a 0)), (1, .int x1), (2, .int x2), (3, .int x3), (4, .int x4)]) hx hb dL_holds_198 hl (by decide) rfl (fun ls hl => ?_)
    exact B200 k x1 x2 x3 x4 (0 : Int32) h ls (lv_sub hl [1, 2, 3, 4, 5, 0] rfl)
  have B189 : ∀ (k143 : Int32 → Int32 → Int32 → Int32 → Int32 → Option (Int32)) (hk143 : ∀ (x1 : Int32) (x2 : Int32) (x3 : Int32) (x4 : Int32) (x5 : Int32), k143 x1 x2 x3 x4 x5 = some r → ∀ (ls : Array Slot), lv_has ls 6 [(0, .ref (a 0)), (1, .int x1), (2, .int x2), (3, .int x3), (4, .int x4), (5, .int x5)] → W p l e ({ frames := 8, cells := 0, slots := 0, locals := 192 } : Room) s m ([.ref (a 0)] : List Value).toArray below meth c s.heap [] 0 0 (MQ below (vp_Si (fun r' => r' = r)) ([.ref (a 0)] : List Value).toArray s 0 0 (fun _ => False)) (F0 m 143 ls [])), ∀ (x1 : Int32) (x3 : Int32) (x4 : Int32) (x5 : Int32) (y0 : Int32) (y1 : Int32), f_L_holds_b189 k f hz pl k143 x1 x3 x4 x5 y0 y1 = some r → ∀ (ls : Array Slot), lv_has ls 6 [(0, .ref (a 0)), (1, .int x1), (3, .int x3), (4, .int x4), (5, .int x5)] → W p l e ({ frames := 8, cells := 0, slots := 0, locals := 192 } : Room) s m ([.ref (a 0)] : List Value).toArray below meth c s.heap [] 0 0 (MQ below (vp_Si (fun r' => r' = r)) ([.ref (a 0)] : List Value).toArray s 0 0 (fun _ => False)) (F0 m 189 ls [.int y0, .int y1]) := by
    intro k143 hk143
    intro x1 x3 x4 x5 y0 y1 h ls hl
    rw [f_L_holds_b189] at h
    refine o_iadd hx hb dL_holds_189 h (fun v14 h => ?_)
    refine lv_istore_n (lv' := [(2, .int v14), (0, .ref (a 0)), (1, .int x1), (3, .int x3), (4, .int x4), (5, .int x5)]) hx hb dL_holds_190 rfl hl (by decide) rfl (fun ls hl => ?_)
    refine o_nm h (fun v15 ey h => ?_)
    refine lv_iinc (v := v15) (lv' := [(5, .int v15), (2, .int v14), (0, .ref (a 0)), (1, .int x1), (3, .int x3), (4, .int x4)]) hx hb dL_holds_191 hl (k := 5) rfl (Eq.trans rfl ey) (by decide) rfl (fun ls hl => ?_)
    refine lv_goto (tgt := 143) hx hb dL_holds_194 (by decide) ?_
    exact hk143 x1 v14 x3 x4 v15 h ls (lv_sub hl [2, 3, 1, 4, 5, 0] rfl)
  have B143 : ∀ (n : Nat), ∀ (x1 : Int32) (x2 : Int32) (x3 : Int32) (x4 : Int32) (x5 : Int32), f_L_holds_b143 k f hz pl n x1 x2 x3 x4 x5 = some r → ∀ (ls : Array Slot), lv_has ls 6 [(0, .ref (a 0)), (1, .int x1), (2, .int x2), (3, .int x3), (4, .int x4), (5, .int x5)] → W p l e ({ frames := 8, cells := 0, slots := 0, locals := 192 } : Room) s m ([.ref (a 0)] : List Value).toArray below meth c s.heap [] 0 0 (MQ below (vp_Si (fun r' => r' = r)) ([.ref (a 0)] : List Value).toArray s 0 0 (fun _ => False)) (F0 m 143 ls []) := by
    intro n
    induction n with
    | zero => intro x1 x2 x3 x4 x5 h; exact absurd h (by rw [f_L_holds_b143]; exact fun q => nomatch q)
    | succ n ih143 =>
      intro x1 x2 x3 x4 x5 h ls hl
      rw [f_L_holds_b143] at h
      refine lv_iload hx hb dL_holds_143 (lv_at hl 5 rfl) ?_
      refine lv_aload_n hx hb dL_holds_145 rfl (lv_at hl 0 rfl) ?_
      refine lv_iconst (v := (2 : Int32)) hx hb dL_holds_146 (by decide) ?_
      obtain ⟨v4, hc, h⟩ := zb1_s h
      refine zE_i (zrV (C := RX7) (As := [.int (2 : Int32)]) (rest := [.int x5]) hx hb hml hown hts tw152 mv_X7_count ⟨Nat.le_of_ble_eq_true rfl, Nat.le_of_ble_eq_true rfl⟩ rfl rfl (ct_X7_count l D ct a f g nx hz sw fl sg pl pa pk pn pf pg (2 : Int32) k v4 hc) (z_pv hK hP [0, 1, 2, 3, 4, 5, 6, 7, 8, 9, 10, 11, 12, 13, 14, 15, 16, 17, 18, 19, 20, 21] rfl 0 rfl rfl) hl.1 rfl rfl (Nat.le_of_ble_eq_true rfl) dL_holds_147 ⟨Nat.le_refl _, Nat.le_refl _⟩) ?_
      refine zc_ge (tgt := 197) hx hb dL_holds_150 (by decide) h (fun h => ?_) (fun h => ?_)
      · exact B197 x1 x2 x3 x4 h ls (lv_sub hl [0, 1, 2, 3, 4] rfl)
      · refine lv_iload hx hb dL_holds_153 (lv_at hl 4 rfl) ?_
        refine zi_eq (tgt := 197) hx hb dL_holds_155 (by decide) h (fun h => ?_) (fun h => ?_)
        · exact B197 x1 x2 x3 x4 h ls (lv_sub hl [0, 1, 2, 3, 4] rfl)
        · refine lv_aload_n hx hb dL_holds_158 rfl (lv_at hl 0 rfl) ?_
          refine lv_iload hx hb dL_holds_159 (lv_at hl 5 rfl) ?_
          obtain ⟨v12, hc, h⟩ := zb1_s h
          refine zE_i (zrS (As := [.ref (a 0), .int x5]) (rest := []) hx hb hml hown hts tw553 ms_L_isOrder ⟨Nat.le_of_ble_eq_true rfl, Nat.le_of_ble_eq_true rfl⟩ rfl rfl (ct_L_isOrder l D ct a f g nx hz sw fl sg pl pa pk pn pf pg x5 k v12 hc) (z_ps hK hP [0, 1, 2, 3, 4, 5, 6, 7, 8, 9, 10, 11, 12, 13, 14, 15, 16, 17, 18, 19, 20, 21] rfl) hl.1 rfl rfl (Nat.le_of_ble_eq_true rfl) dL_holds_161 ⟨Nat.le_refl _, Nat.le_refl _⟩) ?_
          refine lv_istore (lv' := [(4, .int v12), (0, .ref (a 0)), (1, .int x1), (2, .int x2), (3, .int x3), (5, .int x5)]) hx hb dL_holds_164 hl (by decide) rfl (fun ls hl => ?_)
          refine lv_iload_n hx hb dL_holds_166 rfl (lv_at hl 3 rfl) ?_
          refine lv_aload_n hx hb dL_holds_167 rfl (lv_at hl 1 rfl) ?_
          refine lv_iload hx hb dL_holds_168 (lv_at hl 5 rfl) ?_
          refine lv_iconst (v := (3 : Int32)) hx hb dL_holds_170 (by decide) ?_
          obtain ⟨v13, hc, h⟩ := zb1_s h
          refine zE_i (zrV (C := RX7) (As := [.int x5, .int (3 : Int32)]) (rest := [.int x2]) hx hb hml hown hts tw537 mv_X7_ofOrder ⟨Nat.le_of_ble_eq_true rfl, Nat.le_of_ble_eq_true rfl⟩ rfl rfl (ct_X7_ofOrder l D ct a f g nx hz sw fl sg pl pa pk pn pf pg x5 (3 : Int32) k v13 hc) (z_pv hK hP [0, 1, 2, 3, 4, 5, 6, 7, 8, 9, 10, 11, 12, 13, 14, 15, 16, 17, 18, 19, 20, 21] rfl 0 rfl rfl) hl.1 rfl rfl (Nat.le_of_ble_eq_true rfl) dL_holds_171 ⟨Nat.le_refl _, Nat.le_refl _⟩) ?_
          refine lv_iconst (v := (2 : Int32)) hx hb dL_holds_174 (by decide) ?_
          refine zc_ne (tgt := 188) hx hb dL_holds_175 (by decide) h (fun h => ?_) (fun h => ?_)
          · refine lv_iconst (v := (0 : Int32)) hx hb dL_holds_188 (by decide) ?_
            exact B189 (f_L_holds_b143 k f hz pl n) ih143 x1 x3 v12 x5 (0 : Int32) x2 h ls (lv_sub hl [1, 2, 4, 0, 5] rfl)
          · refine lv_aload_n hx hb dL_holds_178 rfl (lv_at hl 1 rfl) ?_
            refine lv_iload hx hb dL_holds_179 (lv_at hl 5 rfl) ?_
            refine lv_iconst (v := (5 : Int32)) hx hb dL_holds_181 (by decide) ?_
            obtain ⟨v16, hc, h⟩ := zb1_s h
            refine zE_i (zrV (C := RX7) (As := [.int x5, .int (5 : Int32)]) (rest := [.int x2]) hx hb hml hown hts tw537 mv_X7_ofOrder ⟨Nat.le_of_ble_eq_true rfl, Nat.le_of_ble_eq_true rfl⟩ rfl rfl (ct_X7_ofOrder l D ct a f g nx hz sw fl sg pl pa pk pn pf pg x5 (5 : Int32) k v16 hc) (z_pv hK hP [0, 1, 2, 3, 4, 5, 6, 7, 8, 9, 10, 11, 12, 13, 14, 15, 16, 17, 18, 19, 20, 21] rfl 0 rfl rfl) hl.1 rfl rfl (Nat.le_of_ble_eq_true rfl) dL_holds_182 ⟨Nat.le_refl _, Nat.le_refl _⟩) ?_
            refine lv_goto (tgt := 189) hx hb dL_holds_185 (by decide) ?_
            exact B189 (f_L_holds_b143 k f hz pl n) ih143 x1 x3 v12 x5 v16 x2 h ls (lv_sub hl [1, 2, 4, 0, 5] rfl)
  have B140 : ∀ (x1 : Int32) (x2 : Int32) (x3 : Int32) (x4 : Int32), f_L_holds_b140 k f hz pl x1 x2 x3 x4 = some r → ∀ (ls : Array Slot), lv_has ls 6 [(0, .ref (a 0)), (1, .int x1), (2, .int x2), (3, .int x3), (4, .int x4)] → W p l e ({ frames := 8, cells := 0, slots := 0, locals := 192 } : Room) s m ([.ref (a 0)] : List Value).toArray below meth c s.heap [] 0 0 (MQ below (vp_Si (fun r' => r' = r)) ([.ref (a 0)] : List Value).toArray s 0 0 (fun _ => False)) (F0 m 140 ls []) := by
    intro x1 x2 x3 x4 h ls hl
    rw [f_L_holds_b140] at h
    refine lv_iconst (v := (0 : Int32)) hx hb dL_holds_140 (by decide) ?_
    refine lv_istore (lv' := [(5, .int (0 : Int32)), (0, .ref (a 0)), (1, .int x1), (2, .int x2), (3, .int x3), (4, .int x4)]) hx hb dL_holds_141 hl (by decide) rfl (fun ls hl => ?_)
    exact B143 k x1 x2 x3 x4 (0 : Int32) h ls (lv_sub hl [1, 2, 3, 4, 5, 0] rfl)
  have B132 : ∀ (k61 : Int32 → Int32 → Int32 → Int32 → Int32 → Option (Int32)) (hk61 : ∀ (x1 : Int32) (x2 : Int32) (x3 : Int32) (x4 : Int32) (x5 : Int32), k61 x1 x2 x3 x4 x5 = some r → ∀ (ls : Array Slot), lv_has ls 6 [(0, .ref (a 0)), (1, .int x1), (2, .int x2), (3, .int x3), (4, .int x4), (5, .int x5)] → W p l e ({ frames := 8, cells := 0, slots := 0, locals := 192 } : Room) s m ([.ref (a 0)] : List Value).toArray below meth c s.heap [] 0 0 (MQ below (vp_Si (fun r' => r' = r)) ([.ref (a 0)] : List Value).toArray s 0 0 (fun _ => False)) (F0 m 61 ls [])), ∀ (x1 : Int32) (x2 : Int32) (x4 : Int32) (x5 : Int32) (y0 : Int32) (y1 : Int32), f_L_holds_b132 k f hz pl k61 x1 x2 x4 x5 y0 y1 = some r → ∀ (ls : Array Slot), lv_has ls 6 [(0, .ref (a 0)), (1, .int x1), (2, .int x2), (4, .int x4), (5, .int x5)] → W p l e ({ frames := 8, cells := 0, slots := 0, locals := 192 } : Room) s m ([.ref (a 0)] : List Value).toArray below meth c s.heap [] 0 0 (MQ below (vp_Si (fun r' => r' = r)) ([.ref (a 0)] : List Value).toArray s 0 0 (fun _ => False)) (F0 m 132 ls [.int y0, .int y1]) := by
    intro k61 hk61
    intro x1 x2 x4 x5 y0 y1 h ls hl
    rw [f_L_holds_b132] at h
    refine o_iadd hx hb dL_holds_132 h (fun v22 h => ?_)
    refine lv_istore_n (lv' := [(3, .int v22), (0, .ref (a 0)), (1, .int x1), (2, .int x2), (4, .int x4), (5, .int x5)]) hx hb dL_holds_133 rfl hl (by decide) rfl (fun ls hl => ?_)
    refine o_nm h (fun v23 ey h => ?_)
    refine lv_iinc (v := v23) (lv' := [(5, .int v23), (3, .int v22), (0, .ref (a 0)), (1, .int x1), (2, .int x2), (4, .int x4)]) hx hb dL_holds_134 hl (k := 5) rfl (Eq.trans rfl ey) (by decide) rfl (fun ls hl => ?_)
    refine lv_goto (tgt := 61) hx hb dL_holds_137 (by decide) ?_
    exact hk61 x1 x2 v22 x4 v23 h ls (lv_sub hl [2, 3, 4, 1, 5, 0] rfl)
  have B107 : ∀ (k61 : Int32 → Int32 → Int32 → Int32 → Int32 → Option (Int32)) (hk61 : ∀ (x1 : Int32) (x2 : Int32) (x3 : Int32) (x4 : Int32) (x5 : Int32), k61 x1 x2 x3 x4 x5 = some r → ∀ (ls : Array Slot), lv_has ls 6 [(0, .ref (a 0)), (1, .int x1), (2, .int x2), (3, .int x3), (4, .int x4), (5, .int x5)] → W p l e ({ frames := 8, cells := 0, slots := 0, locals := 192 } : Room) s m ([.ref (a 0)] : List Value).toArray below meth c s.heap [] 0 0 (MQ below (vp_Si (fun r' => r' = r)) ([.ref (a 0)] : List Value).toArray s 0 0 (fun _ => False)) (F0 m 61 ls [])), ∀ (x2 : Int32) (x3 : Int32) (x4 : Int32) (x5 : Int32) (y0 : Int32) (y1 : Int32), f_L_holds_b107 k f hz pl k61 x2 x3 x4 x5 y0 y1 = some r → ∀ (ls : Array Slot), lv_has ls 6 [(0, .ref (a 0)), (2, .int x2), (3, .int x3), (4, .int x4), (5, .int x5)] → W p l e ({ frames := 8, cells := 0, slots := 0, locals := 192 } : Room) s m ([.ref (a 0)] : List Value).toArray below meth c s.heap [] 0 0 (MQ below (vp_Si (fun r' => r' = r)) ([.ref (a 0)] : List Value).toArray s 0 0 (fun _ => False)) (F0 m 107 ls [.int y0, .int y1]) := by
    intro k61 hk61
    intro x2 x3 x4 x5 y0 y1 h ls hl
    rw [f_L_holds_b107] at h
    refine o_iadd hx hb dL_holds_107 h (fun v20 h => ?_)
    refine lv_istore_n (lv' := [(1, .int v20), (0, .ref (a 0)), (2, .int x2), (3, .int x3), (4, .int x4), (5, .int x5)]) hx hb dL_holds_108 rfl hl (by decide) rfl (fun ls hl => ?_)
    refine lv_iload_n hx hb dL_holds_109 rfl (lv_at hl 3 rfl) ?_
    refine lv_aload_n hx hb dL_holds_110 rfl (lv_at hl 1 rfl) ?_
    refine lv_iload hx hb dL_holds_111 (lv_at hl 5 rfl) ?_
    refine lv_iconst (v := (5 : Int32)) hx hb dL_holds_113 (by decide) ?_
    obtain ⟨v21, hc, h⟩ := zb1_s h
    refine zE_i (zrV (C := RX7) (As := [.int x5, .int (5 : Int32)]) (rest := [.int x3]) hx hb hml hown hts tw363 mv_X7_of ⟨Nat.le_of_ble_eq_true rfl, Nat.le_of_ble_eq_true rfl⟩ rfl rfl (ct_X7_of l D ct a f g nx hz sw fl sg pl pa pk pn pf pg x5 (5 : Int32) k v21 hc) (z_pv hK hP [0, 1, 2, 3, 4, 5, 6, 7, 8, 9, 10, 11, 12, 13, 14, 15, 16, 17, 18, 19, 20, 21] rfl 0 rfl rfl) hl.1 rfl rfl (Nat.le_of_ble_eq_true rfl) dL_holds_114 ⟨Nat.le_refl _, Nat.le_refl _⟩) ?_
    refine lv_iconst (v := (3 : Int32)) hx hb dL_holds_117 (by decide) ?_
    refine zc_ne (tgt := 131) hx hb dL_holds_118 (by decide) h (fun h => ?_) (fun h => ?_)
    · refine lv_iconst (v := (0 : Int32)) hx hb dL_holds_131 (by decide) ?_
      exact B132 (k61) hk61 v20 x2 x4 x5 (0 : Int32) x3 h ls (lv_sub hl [1, 0, 2, 4, 5] rfl)
    · refine lv_aload_n hx hb dL_holds_121 rfl (lv_at hl 1 rfl) ?_
      refine lv_iload hx hb dL_holds_122 (lv_at hl 5 rfl) ?_
      refine lv_iconst (v := (4 : Int32)) hx hb dL_holds_124 (by decide) ?_
      obtain ⟨v24, hc, h⟩ := zb1_s h
      refine zE_i (zrV (C := RX7) (As := [.int x5, .int (4 : Int32)]) (rest := [.int x3]) hx hb hml hown hts tw363 mv_X7_of ⟨Nat.le_of_ble_eq_true rfl, Nat.le_of_ble_eq_true rfl⟩ rfl rfl (ct_X7_of l D ct a f g nx hz sw fl sg pl pa pk pn pf pg x5 (4 : Int32) k v24 hc) (z_pv hK hP [0, 1, 2, 3, 4, 5, 6, 7, 8, 9, 10, 11, 12, 13, 14, 15, 16, 17, 18, 19, 20, 21] rfl 0 rfl rfl) hl.1 rfl rfl (Nat.le_of_ble_eq_true rfl) dL_holds_125 ⟨Nat.le_refl _, Nat.le_refl _⟩) ?_
      refine lv_goto (tgt := 132) hx hb dL_holds_128 (by decide) ?_
      exact B132 (k61) hk61 v20 x2 x4 x5 v24 x3 h ls (lv_sub hl [1, 0, 2, 4, 5] rfl)
  have B61 : ∀ (n : Nat), ∀ (x1 : Int32) (x2 : Int32) (x3 : Int32) (x4 : Int32) (x5 : Int32), f_L_holds_b61 k f hz pl n x1 x2 x3 x4 x5 = some r → ∀ (ls : Array Slot), lv_has ls 6 [(0, .ref (a 0)), (1, .int x1), (2, .int x2), (3, .int x3), (4, .int x4), (5, .int x5)] → W p l e ({ frames := 8, cells := 0, slots := 0, locals := 192 } : Room) s m ([.ref (a 0)] : List Value).toArray below meth c s.heap [] 0 0 (MQ below (vp_Si (fun r' => r' = r)) ([.ref (a 0)] : List Value).toArray s 0 0 (fun _ => False)) (F0 m 61 ls []) := by
    intro n
    induction n with
    | zero => intro x1 x2 x3 x4 x5 h; exact absurd h (by rw [f_L_holds_b61]; exact fun q => nomatch q)
    | succ n ih61 =>
      intro x1 x2 x3 x4 x5 h ls hl
      rw [f_L_holds_b61] at h
      refine lv_iload hx hb dL_holds_61 (lv_at hl 5 rfl) ?_
      refine lv_aload_n hx hb dL_holds_63 rfl (lv_at hl 0 rfl) ?_
      refine lv_iconst (v := (1 : Int32)) hx hb dL_holds_64 (by decide) ?_
      obtain ⟨v3, hc, h⟩ := zb1_s h
      refine zE_i (zrV (C := RX7) (As := [.int (1 : Int32)]) (rest := [.int x5]) hx hb hml hown hts tw152 mv_X7_count ⟨Nat.le_of_ble_eq_true rfl, Nat.le_of_ble_eq_true rfl⟩ rfl rfl (ct_X7_count l D ct a f g nx hz sw fl sg pl pa pk pn pf pg (1 : Int32) k v3 hc) (z_pv hK hP [0, 1, 2, 3, 4, 5, 6, 7, 8, 9, 10, 11, 12, 13, 14, 15, 16, 17, 18, 19, 20, 21] rfl 0 rfl rfl) hl.1 rfl rfl (Nat.le_of_ble_eq_true rfl) dL_holds_65 ⟨Nat.le_refl _, Nat.le_refl _⟩) ?_
      refine zc_ge (tgt := 140) hx hb dL_holds_68 (by decide) h (fun h => ?_) (fun h => ?_)
      · exact B140 x1 x2 x3 x4 h ls (lv_sub hl [0, 1, 2, 3, 4] rfl)
      · refine lv_iload hx hb dL_holds_71 (lv_at hl 4 rfl) ?_
        refine zi_eq (tgt := 140) hx hb dL_holds_73 (by decide) h (fun h => ?_) (fun h => ?_)
        · exact B140 x1 x2 x3 x4 h ls (lv_sub hl [0, 1, 2, 3, 4] rfl)
        · refine lv_aload_n hx hb dL_holds_76 rfl (lv_at hl 0 rfl) ?_
          refine lv_iload hx hb dL_holds_77 (lv_at hl 5 rfl) ?_
          obtain ⟨v17, hc, h⟩ := zb1_s h
          refine zE_i (zrS (As := [.ref (a 0), .int x5]) (rest := []) hx hb hml hown hts tw520 ms_L_isBlock ⟨Nat.le_of_ble_eq_true rfl, Nat.le_of_ble_eq_true rfl⟩ rfl rfl (ct_L_isBlock l D ct a f g nx hz sw fl sg pl pa pk pn pf pg x5 k v17 hc) (z_ps hK hP [0, 1, 2, 3, 4, 5, 6, 7, 8, 9, 10, 11, 12, 13, 14, 15, 16, 17, 18, 19, 20, 21] rfl) hl.1 rfl rfl (Nat.le_of_ble_eq_true rfl) dL_holds_79 ⟨Nat.le_refl _, Nat.le_refl _⟩) ?_
          refine lv_istore (lv' := [(4, .int v17), (0, .ref (a 0)), (1, .int x1), (2, .int x2), (3, .int x3), (5, .int x5)]) hx hb dL_holds_82 hl (by decide) rfl (fun ls hl => ?_)
          refine lv_iload_n hx hb dL_holds_84 rfl (lv_at hl 2 rfl) ?_
          refine lv_aload_n hx hb dL_holds_85 rfl (lv_at hl 1 rfl) ?_
          refine lv_iload hx hb dL_holds_86 (lv_at hl 5 rfl) ?_
          refine lv_iconst (v := (5 : Int32)) hx hb dL_holds_88 (by decide) ?_
          obtain ⟨v18, hc, h⟩ := zb1_s h
          refine zE_i (zrV (C := RX7) (As := [.int x5, .int (5 : Int32)]) (rest := [.int x1]) hx hb hml hown hts tw363 mv_X7_of ⟨Nat.le_of_ble_eq_true rfl, Nat.le_of_ble_eq_true rfl⟩ rfl rfl (ct_X7_of l D ct a f g nx hz sw fl sg pl pa pk pn pf pg x5 (5 : Int32) k v18 hc) (z_pv hK hP [0, 1, 2, 3, 4, 5, 6, 7, 8, 9, 10, 11, 12, 13, 14, 15, 16, 17, 18, 19, 20, 21] rfl 0 rfl rfl) hl.1 rfl rfl (Nat.le_of_ble_eq_true rfl) dL_holds_89 ⟨Nat.le_refl _, Nat.le_refl _⟩) ?_
          refine lv_iconst (v := (4 : Int32)) hx hb dL_holds_92 (by decide) ?_
          refine zc_ne (tgt := 100) hx hb dL_holds_93 (by decide) h (fun h => ?_) (fun h => ?_)
          · refine lv_aload_n hx hb dL_holds_100 rfl (lv_at hl 1 rfl) ?_
            refine lv_iload hx hb dL_holds_101 (lv_at hl 5 rfl) ?_
            refine lv_iconst (v := (4 : Int32)) hx hb dL_holds_103 (by decide) ?_
            obtain ⟨v19, hc, h⟩ := zb1_s h
            refine zE_i (zrV (C := RX7) (As := [.int x5, .int (4 : Int32)]) (rest := [.int x1]) hx hb hml hown hts tw363 mv_X7_of ⟨Nat.le_of_ble_eq_true rfl, Nat.le_of_ble_eq_true rfl⟩ rfl rfl (ct_X7_of l D ct a f g nx hz sw fl sg pl pa pk pn pf pg x5 (4 : Int32) k v19 hc) (z_pv hK hP [0, 1, 2, 3, 4, 5, 6, 7, 8, 9, 10, 11, 12, 13, 14, 15, 16, 17, 18, 19, 20, 21] rfl 0 rfl rfl) hl.1 rfl rfl (Nat.le_of_ble_eq_true rfl) dL_holds_104 ⟨Nat.le_refl _, Nat.le_refl _⟩) ?_
            exact B107 (f_L_holds_b61 k f hz pl n) ih61 x2 x3 v17 x5 v19 x1 h ls (lv_sub hl [1, 3, 4, 0, 5] rfl)
          · refine lv_iconst (v := (0 : Int32)) hx hb dL_holds_96 (by decide) ?_
            refine lv_goto (tgt := 107) hx hb dL_holds_97 (by decide) ?_
            exact B107 (f_L_holds_b61 k f hz pl n) ih61 x2 x3 v17 x5 (0 : Int32) x1 h ls (lv_sub hl [1, 3, 4, 0, 5] rfl)
  have B56 : ∀ (x1 : Int32) (x2 : Int32) (x3 : Int32) (y0 : Int32), f_L_holds_b56 k f hz pl x1 x2 x3 y0 = some r → ∀ (ls : Array Slot), lv_has ls 6 [(0, .ref (a 0)), (1, .int x1), (2, .int x2), (3, .int x3)] → W p l e ({ frames := 8, cells := 0, slots := 0, locals := 192 } : Room) s m ([.ref (a 0)] : List Value).toArray below meth c s.heap [] 0 0 (MQ below (vp_Si (fun r' => r' = r)) ([.ref (a 0)] : List Value).toArray s 0 0 (fun _ => False)) (F0 m 56 ls [.int y0]) := by
    intro x1 x2 x3 y0 h ls hl
    rw [f_L_holds_b56] at h
    refine lv_istore (lv' := [(4, .int y0), (0, .ref (a 0)), (1, .int x1), (2, .int x2), (3, .int x3)]) hx hb dL_holds_56 hl (by decide) rfl (fun ls hl => ?_)
    refine lv_iconst (v := (0 : Int32)) hx hb dL_holds_58 (by decide) ?_
    refine lv_istore (lv' := [(5, .int (0 : Int32)), (4, .int y0), (0, .ref (a 0)), (1, .int x1), (2, .int x2), (3, .int x3)]) hx hb dL_holds_59 hl (by decide) rfl (fun ls hl => ?_)
    exact B61 k x1 x2 x3 y0 (0 : Int32) h ls (lv_sub hl [2, 3, 4, 5, 1, 0] rfl)
  have B55 : ∀ (x1 : Int32) (x2 : Int32) (x3 : Int32), f_L_holds_b55 k f hz pl x1 x2 x3 = some r → ∀ (ls : Array Slot), lv_has ls 6 [(0, .ref (a 0)), (1, .int x1), (2, .int x2), (3, .int x3)] → W p l e ({ frames := 8, cells := 0, slots := 0, locals := 192 } : Room) s m ([.ref (a 0)] : List Value).toArray below meth c s.heap [] 0 0 (MQ below (vp_Si (fun r' => r' = r)) ([.ref (a 0)] : List Value).toArray s 0 0 (fun _ => False)) (F0 m 55 ls []) := by
    intro x1 x2 x3 h ls hl
    rw [f_L_holds_b55] at h
    refine lv_iconst (v := (0 : Int32)) hx hb dL_holds_55 (by decide) ?_
    exact B56 x1 x2 x3 (0 : Int32) h ls (lv_sub hl [0, 1, 2, 3] rfl)
  rw [f_L_holds] at h
  refine lv_iconst (v := (0 : Int32)) hx hb dL_holds_0 (by decide) ?_
  refine lv_istore_n (lv' := [(1, .int (0 : Int32)), (0, .ref (a 0))]) hx hb dL_holds_1 rfl hl (by decide) rfl (fun ls hl => ?_)
  refine lv_iconst (v := (0 : Int32)) hx hb dL_holds_2 (by decide) ?_
  refine lv_istore_n (lv' := [(2, .int (0 : Int32)), (1, .int (0 : Int32)), (0, .ref (a 0))]) hx hb dL_holds_3 rfl hl (by decide) rfl (fun ls hl => ?_)
  refine lv_iconst (v := (0 : Int32)) hx hb dL_holds_4 (by decide) ?_
  refine lv_istore_n (lv' := [(3, .int (0 : Int32)), (2, .int (0 : Int32)), (1, .int (0 : Int32)), (0, .ref (a 0))]) hx hb dL_holds_5 rfl hl (by decide) rfl (fun ls hl => ?_)
  refine lv_aload_n hx hb dL_holds_6 rfl (lv_at hl 3 rfl) ?_
  refine lv_aload_n hx hb dL_holds_7 rfl (lv_at hl 3 rfl) ?_
  refine lv_iconst (v := (1 : Int32)) hx hb dL_holds_8 (by decide) ?_
  obtain ⟨v1, hc, h⟩ := zb1_s h
  refine zE_i (zrV (C := RX7) (As := [.int (1 : Int32)]) (rest := [.ref (a 0)]) hx hb hml hown hts tw152 mv_X7_count ⟨Nat.le_of_ble_eq_true rfl, Nat.le_of_ble_eq_true rfl⟩ rfl rfl (ct_X7_count l D ct a f g nx hz sw fl sg pl pa pk pn pf pg (1 : Int32) k v1 hc) (z_pv hK hP [0, 1, 2, 3, 4, 5, 6, 7, 8, 9, 10, 11, 12, 13, 14, 15, 16, 17, 18, 19, 20, 21] rfl 0 rfl rfl) hl.1 rfl rfl (Nat.le_of_ble_eq_true rfl) dL_holds_9 ⟨Nat.le_refl _, Nat.le_refl _⟩) ?_
  refine lv_iconst (v := (0 : Int32)) hx hb dL_holds_12 (by decide) ?_
  obtain ⟨v2, hc, h⟩ := zb1_s h
  refine zE_i (zrV (C := RX7) (As := [.int v1, .int (0 : Int32)]) (rest := []) hx hb hml hown hts tw363 mv_X7_of ⟨Nat.le_of_ble_eq_true rfl, Nat.le_of_ble_eq_true rfl⟩ rfl rfl (ct_X7_of l D ct a f g nx hz sw fl sg pl pa pk pn pf pg v1 (0 : Int32) k v2 hc) (z_pv hK hP [0, 1, 2, 3, 4, 5, 6, 7, 8, 9, 10, 11, 12, 13, 14, 15, 16, 17, 18, 19, 20, 21] rfl 0 rfl rfl) hl.1 rfl rfl (Nat.le_of_ble_eq_true rfl) dL_holds_13 ⟨Nat.le_refl _, Nat.le_refl _⟩) ?_
  refine lv_iconst (v := (-1 : Int32)) hx hb dL_holds_16 (by decide) ?_
  refine zc_ne (tgt := 55) hx hb dL_holds_17 (by decide) h (fun h => ?_) (fun h => ?_)
  · exact B55 (0 : Int32) (0 : Int32) (0 : Int32) h ls (lv_sub hl [3, 2, 1, 0] rfl)
  · refine lv_aload_n hx hb dL_holds_20 rfl (lv_at hl 3 rfl) ?_
    refine lv_bipush (v := (6 : Int32)) hx hb dL_holds_21 (by decide) ?_
    obtain ⟨v25, hc, h⟩ := zb1_s h
    refine zE_i (zrV (C := RX7) (As := [.int (6 : Int32)]) (rest := []) hx hb hml hown hts tw152 mv_X7_count ⟨Nat.le_of_ble_eq_true rfl, Nat.le_of_ble_eq_true rfl⟩ rfl rfl (ct_X7_count l D ct a f g nx hz sw fl sg pl pa pk pn pf pg (6 : Int32) k v25 hc) (z_pv hK hP [0, 1, 2, 3, 4, 5, 6, 7, 8, 9, 10, 11, 12, 13, 14, 15, 16, 17, 18, 19, 20, 21] rfl 0 rfl rfl) hl.1 rfl rfl (Nat.le_of_ble_eq_true rfl) dL_holds_23 ⟨Nat.le_refl _, Nat.le_refl _⟩) ?_
    refine lv_aload_n hx hb dL_holds_26 rfl (lv_at hl 3 rfl) ?_
    refine lv_bipush (v := (7 : Int32)) hx hb dL_holds_27 (by decide) ?_
    obtain ⟨v26, hc, h⟩ := zb1_s h
    refine zE_i (zrV (C := RX7) (As := [.int (7 : Int32)]) (rest := [.int v25]) hx hb hml hown hts tw152 mv_X7_count ⟨Nat.le_of_ble_eq_true rfl, Nat.le_of_ble_eq_true rfl⟩ rfl rfl (ct_X7_count l D ct a f g nx hz sw fl sg pl pa pk pn pf pg (7 : Int32) k v26 hc) (z_pv hK hP [0, 1, 2, 3, 4, 5, 6, 7, 8, 9, 10, 11, 12, 13, 14, 15, 16, 17, 18, 19, 20, 21] rfl 0 rfl rfl) hl.1 rfl rfl (Nat.le_of_ble_eq_true rfl) dL_holds_29 ⟨Nat.le_refl _, Nat.le_refl _⟩) ?_
    refine lv_aload_n hx hb dL_holds_32 rfl (lv_at hl 3 rfl) ?_
    refine lv_bipush (v := (8 : Int32)) hx hb dL_holds_33 (by decide) ?_
    obtain ⟨v27, hc, h⟩ := zb1_s h
    refine zE_i (zrV (C := RX7) (As := [.int (8 : Int32)]) (rest := [.int v26, .int v25]) hx hb hml hown hts tw152 mv_X7_count ⟨Nat.le_of_ble_eq_true rfl, Nat.le_of_ble_eq_true rfl⟩ rfl rfl (ct_X7_count l D ct a f g nx hz sw fl sg pl pa pk pn pf pg (8 : Int32) k v27 hc) (z_pv hK hP [0, 1, 2, 3, 4, 5, 6, 7, 8, 9, 10, 11, 12, 13, 14, 15, 16, 17, 18, 19, 20, 21] rfl 0 rfl rfl) hl.1 rfl rfl (Nat.le_of_ble_eq_true rfl) dL_holds_35 ⟨Nat.le_refl _, Nat.le_refl _⟩) ?_
    refine o_iadd hx hb dL_holds_38 h (fun v28 h => ?_)
    refine zc_ne (tgt := 55) hx hb dL_holds_39 (by decide) h (fun h => ?_) (fun h => ?_)
    · exact B55 (0 : Int32) (0 : Int32) (0 : Int32) h ls (lv_sub hl [3, 2, 1, 0] rfl)
    · refine lv_aload_n hx hb dL_holds_42 rfl (lv_at hl 3 rfl) ?_
      refine lv_bipush (v := (8 : Int32)) hx hb dL_holds_43 (by decide) ?_
      obtain ⟨v29, hc, h⟩ := zb1_s h
      refine zE_i (zrV (C := RX7) (As := [.int (8 : Int32)]) (rest := []) hx hb hml hown hts tw152 mv_X7_count ⟨Nat.le_of_ble_eq_true rfl, Nat.le_of_ble_eq_true rfl⟩ rfl rfl (ct_X7_count l D ct a f g nx hz sw fl sg pl pa pk pn pf pg (8 : Int32) k v29 hc) (z_pv hK hP [0, 1, 2, 3, 4, 5, 6, 7, 8, 9, 10, 11, 12, 13, 14, 15, 16, 17, 18, 19, 20, 21] rfl 0 rfl rfl) hl.1 rfl rfl (Nat.le_of_ble_eq_true rfl) dL_holds_45 ⟨Nat.le_refl _, Nat.le_refl _⟩) ?_
      refine zi_lt (tgt := 55) hx hb dL_holds_48 (by decide) h (fun h => ?_) (fun h => ?_)
      · exact B55 (0 : Int32) (0 : Int32) (0 : Int32) h ls (lv_sub hl [3, 2, 1, 0] rfl)
      · refine lv_iconst (v := (1 : Int32)) hx hb dL_holds_51 (by decide) ?_
        refine lv_goto (tgt := 56) hx hb dL_holds_52 (by decide) ?_
        exact B56 (0 : Int32) (0 : Int32) (0 : Int32) (1 : Int32) h ls (lv_sub hl [3, 2, 1, 0] rfl)

def f_L_share (k : Nat) (f : Nat → Int32) (g : Nat → Nat → Int32) (nx : Int32) (hz : Int32) (pl : Int32) (p2 : Int32) (p3 : Int32) (p4 : Int32) : Option (Int64 × (Nat → Int32) × (Nat → Nat → Int32) × Int32 × Int32) :=
  zb5 (f_X7_load k f g nx hz p2 p3 p4) fun v1 f2 g3 nx4 hz5 =>
  if 0 ≤ v1 then
    zb1 (f_L_axle k f2 hz5 pl p3 (0 : Int32)) fun v6 =>
    zl (v6.toInt64) fun v7 =>
    zl ((250000 : Int64) * v7) fun v8 =>
    zb1 (f_X7_ofLorry k f2 p3 (4 : Int32)) fun v9 =>
    zl (v9.toInt64) fun v10 =>
    zg (znzl v10) (zl (v8 / v10) fun v11 =>
    zb1 (f_L_axle k f2 hz5 pl p3 (1 : Int32)) fun v12 =>
    zl (v12.toInt64) fun v13 =>
    zl ((250000 : Int64) * v13) fun v14 =>
    zb1 (f_X7_ofLorry k f2 p3 (5 : Int32)) fun v15 =>
    zl (v15.toInt64) fun v16 =>
    zg (znzl v16) (zl (v14 / v16) fun v17 =>
    zb4 (f_X7_undo k f2 g3 nx4 hz5) fun v18 f19 nx20 hz21 =>
    zl (lg_cmp v11 v17) fun v22 =>
    if v22 ≤ 0 then
      some (v17, f19, g3, nx20, hz21)
    else
      some (v11, f19, g3, nx20, hz21)))
  else
    some ((-1 : Int64), f2, g3, nx4, hz5)
set_option maxRecDepth 100000 in
set_option maxHeartbeats 4000000 in
theorem ct_L_share (l : Launch) (D : va_G) (ct a : Nat → Nat) (f : Nat → Int32) (g : Nat → Nat → Int32) (nx : Int32) (hz : Int32) (sw : Nat → Nat → Int32) (fl : Nat → Int32) (sg : Nat → Int32) (pl : Int32) (pa : Int32) (pk : Int32) (pn : Nat → Int32) (pf : Int32) (pg : Int32) (sz : Nat) (p2 : Int32) (p3 : Int32) (p4 : Int32) (k : Nat) (r : Int64) (f' : Nat → Int32) (g' : Nat → Nat → Int32) (nx' : Int32) (hz' : Int32) (h : f_L_share k f g nx hz pl p2 p3 p4 = some (r, f', g', nx', hz')) : Met l yL_share (Cond.code yL_share cL_share 9 (some .long) :: zT) ({ frames := 7, cells := 0, slots := 0, locals := 156 } : Room) (va_Pc [.ref (a 0), .int p2, .int p3, .int p4] (zPW D (zTys ct) (wX7 ct a f g nx hz sw fl sg pl pa pk pn pf pg) sz)) (va_Ql (fun r' (_ : Unit) => r' = r) (zQW D (wX7 ct a f g nx hz sw fl sg pl pa pk pn pf pg) sz (wX7 ct a f' g' nx' hz' sw fl sg pl pa pk pn pf pg)) (va_A (wX7 ct a f g nx hz sw fl sg pl pa pk pn pf pg) sz)) 0 0 (va_A (wX7 ct a f g nx hz sw fl sg pl pa pk pn pf pg) sz) := by
  refine zMet (cc := cL_share) (maxL := 9) (ret := (some .long)) (av := [.ref (a 0), .int p2, .int p3, .int p4]) (by decide) (Nat.le_of_ble_eq_true rfl) (fun p e s m below meth c ls hx hb hr hml hts hown hlocks hin hB hl => ?_)
  have hl : lv_has ls 9 [(0, .ref (a 0)), (1, .int p2), (2, .int p3), (3, .int p4)] := hl
  have hown : s.vm.findClass RL = some m.cls := hown
  obtain ⟨hsz, hP, hK, hD0⟩ := hB
  subst hsz
  have hD := hD0.self (sz := s.heap.size)
  obtain ⟨A, hAe⟩ : ∃ A, A = va_A (wX7 ct a f g nx hz sw fl sg pl pa pk pn pf pg) s.heap.size := ⟨_, rfl⟩
  rw [← hAe] at hD
  have hA : ∀ q : Nat, s.heap.size ≤ q → A q := fun q h => by rw [hAe]; exact Or.inr h
  have hS : va_S A s.heap s.heap [] := va_S.rf
  rw [f_L_share] at h
  refine lv_aload_n hx hb dL_share_0 rfl (lv_at hl 0 rfl) ?_
  refine lv_iload_n hx hb dL_share_1 rfl (lv_at hl 1 rfl) ?_
  refine lv_iload_n hx hb dL_share_2 rfl (lv_at hl 2 rfl) ?_
  refine lv_iload_n hx hb dL_share_3 rfl (lv_at hl 3 rfl) ?_
  obtain ⟨v1, f2, g3, nx4, hz5, hc, h⟩ := zb5_s h
  refine zG_i (w1 := wX7 ct a f2 g3 nx4 hz5 sw fl sg pl pa pk pn pf pg) (ws' := wX7 ct a f2 g3 nx4 hz5 sw fl sg pl pa pk pn pf pg) hP hD hS hA [0, 1, 2, 3, 4, 5, 6, 7, 8, 9, 10, 11, 12, 13, 14, 15, 16, 17, 18, 19, 20, 21] [] [0, 1, 2, 3, 4, 5, 6, 7, 8, 9, 10, 11, 12, 13, 14, 15, 16, 17, 18, 19, 20, 21] rfl rfl (by decide) (by decide) rfl (by decide) (zrV (C := RX7) (As := [.int p2, .int p3, .int p4]) (rest := []) hx hb hml hown hts tw420 mv_X7_load ⟨Nat.le_of_ble_eq_true rfl, Nat.le_of_ble_eq_true rfl⟩ rfl rfl (ct_X7_load l D ct a f g nx hz sw fl sg pl pa pk pn pf pg _ p2 p3 p4 k v1 f2 g3 nx4 hz5 hc) (z_wv hK hP hD [0, 1, 2, 3, 4, 5, 6, 7, 8, 9, 10, 11, 12, 13, 14, 15, 16, 17, 18, 19, 20, 21] (by decide) rfl 0 rfl rfl) hl.1 rfl rfl (Nat.le_of_ble_eq_true rfl) dL_share_4 ⟨Nat.le_refl _, Nat.le_refl _⟩) (fun H locs hP hD hS => ?_)
  refine zi_ge (tgt := 14) hx hb dL_share_7 (by decide) h (fun h => ?_) (fun h => ?_)
  · refine lv_ldc2 (v := (250000 : Int64)) hx hb hown (hts _ (List.mem_cons_of_mem _ tw615)) dL_share_14 ?_
    refine lv_aload_n hx hb dL_share_17 rfl (lv_at hl 0 rfl) ?_
    refine lv_iload_n hx hb dL_share_18 rfl (lv_at hl 2 rfl) ?_
    refine lv_iconst (v := (0 : Int32)) hx hb dL_share_19 (by decide) ?_
    obtain ⟨v6, hc, h⟩ := zb1_s h
    refine zE_i (zrS (As := [.ref (a 0), .int p3, .int (0 : Int32)]) (rest := [.long (250000 : Int64)]) hx hb hml hown hts tw567 ms_L_axle ⟨Nat.le_of_ble_eq_true rfl, Nat.le_of_ble_eq_true rfl⟩ rfl rfl (ct_L_axle l D ct a f2 g3 nx4 hz5 sw fl sg pl pa pk pn pf pg p3 (0 : Int32) k v6 hc) (z_ps hK hP [0, 1, 2, 3, 4, 5, 6, 7, 8, 9, 10, 11, 12, 13, 14, 15, 16, 17, 18, 19, 20, 21] rfl) hl.1 rfl rfl (Nat.le_of_ble_eq_true rfl) dL_share_20 ⟨Nat.le_refl _, Nat.le_refl _⟩) ?_
    refine o_i2l hx hb dL_share_23 h (fun v7 h => ?_)
    refine o_lmul hx hb dL_share_24 h (fun v8 h => ?_)
    refine lv_aload_n hx hb dL_share_25 rfl (lv_at hl 0 rfl) ?_
    refine lv_iload_n hx hb dL_share_26 rfl (lv_at hl 2 rfl) ?_
    refine lv_iconst (v := (4 : Int32)) hx hb dL_share_27 (by decide) ?_
    obtain ⟨v9, hc, h⟩ := zb1_s h
    refine zE_i (zrV (C := RX7) (As := [.int p3, .int (4 : Int32)]) (rest := [.long v8]) hx hb hml hown hts tw523 mv_X7_ofLorry ⟨Nat.le_of_ble_eq_true rfl, Nat.le_of_ble_eq_true rfl⟩ rfl rfl (ct_X7_ofLorry l D ct a f2 g3 nx4 hz5 sw fl sg pl pa pk pn pf pg p3 (4 : Int32) k v9 hc) (z_pv hK hP [0, 1, 2, 3, 4, 5, 6, 7, 8, 9, 10, 11, 12, 13, 14, 15, 16, 17, 18, 19, 20, 21] rfl 0 rfl rfl) hl.1 rfl rfl (Nat.le_of_ble_eq_true rfl) dL_share_28 ⟨Nat.le_refl _, Nat.le_refl _⟩) ?_
    refine o_i2l hx hb dL_share_31 h (fun v10 h => ?_)
    obtain ⟨hz, h⟩ := zg_s h
    refine o_ldiv hx hb dL_share_32 (of_decide_eq_true hz) h (fun v11 h => ?_)
    refine lv_lstore (lv' := [(4, .long v11), (0, .ref (a 0)), (1, .int p2), (2, .int p3), (3, .int p4)]) hx hb dL_share_33 hl (by decide) rfl (fun ls hl => ?_)
    refine lv_ldc2 (v := (250000 : Int64)) hx hb hown (hts _ (List.mem_cons_of_mem _ tw615)) dL_share_35 ?_
    refine lv_aload_n hx hb dL_share_38 rfl (lv_at hl 1 rfl) ?_
    refine lv_iload_n hx hb dL_share_39 rfl (lv_at hl 3 rfl) ?_
    refine lv_iconst (v := (1 : Int32)) hx hb dL_share_40 (by decide) ?_
    obtain ⟨v12, hc, h⟩ := zb1_s h
    refine zE_i (zrS (As := [.ref (a 0), .int p3, .int (1 : Int32)]) (rest := [.long (250000 : Int64)]) hx hb hml hown hts tw567 ms_L_axle ⟨Nat.le_of_ble_eq_true rfl, Nat.le_of_ble_eq_true rfl⟩ rfl rfl (ct_L_axle l D ct a f2 g3 nx4 hz5 sw fl sg pl pa pk pn pf pg p3 (1 : Int32) k v12 hc) (z_ps hK hP [0, 1, 2, 3, 4, 5, 6, 7, 8, 9, 10, 11, 12, 13, 14, 15, 16, 17, 18, 19, 20, 21] rfl) hl.1 rfl rfl (Nat.le_of_ble_eq_true rfl) dL_share_41 ⟨Nat.le_refl _, Nat.le_refl _⟩) ?_
    refine o_i2l hx hb dL_share_44 h (fun v13 h => ?_)
    refine o_lmul hx hb dL_share_45 h (fun v14 h => ?_)
    refine lv_aload_n hx hb dL_share_46 rfl (lv_at hl 1 rfl) ?_
    refine lv_iload_n hx hb dL_share_47 rfl (lv_at hl 3 rfl) ?_
    refine lv_iconst (v := (5 : Int32)) hx hb dL_share_48 (by decide) ?_
    obtain ⟨v15, hc, h⟩ := zb1_s h
    refine zE_i (zrV (C := RX7) (As := [.int p3, .int (5 : Int32)]) (rest := [.long v14]) hx hb hml hown hts tw523 mv_X7_ofLorry ⟨Nat.le_of_ble_eq_true rfl, Nat.le_of_ble_eq_true rfl⟩ rfl rfl (ct_X7_ofLorry l D ct a f2 g3 nx4 hz5 sw fl sg pl pa pk pn pf pg p3 (5 : Int32) k v15 hc) (z_pv hK hP [0, 1, 2, 3, 4, 5, 6, 7, 8, 9, 10, 11, 12, 13, 14, 15, 16, 17, 18, 19, 20, 21] rfl 0 rfl rfl) hl.1 rfl rfl (Nat.le_of_ble_eq_true rfl) dL_share_49 ⟨Nat.le_refl _, Nat.le_refl _⟩) ?_
    refine o_i2l hx hb dL_share_52 h (fun v16 h => ?_)
    obtain ⟨hz, h⟩ := zg_s h
    refine o_ldiv hx hb dL_share_53 (of_decide_eq_true hz) h (fun v17 h => ?_)
    refine lv_lstore (lv' := [(6, .long v17), (4, .long v11), (0, .ref (a 0)), (1, .int p2), (2, .int p3), (3, .int p4)]) hx hb dL_share_54 hl (by decide) rfl (fun ls hl => ?_)
    refine lv_aload_n hx hb dL_share_56 rfl (lv_at hl 2 rfl) ?_
    obtain ⟨v18, f19, nx20, hz21, hc, h⟩ := zb4_s h
    refine zG_i (w1 := wX7 ct a f19 g3 nx20 hz21 sw fl sg pl pa pk pn pf pg) (ws' := wX7 ct a f19 g3 nx20 hz21 sw fl sg pl pa pk pn pf pg) hP hD hS hA [0, 1, 2, 3, 4, 5, 6, 7, 8, 9, 10, 11, 12, 13, 14, 15, 16, 17, 18, 19, 20, 21] [] [0, 1, 2, 3, 4, 5, 6, 7, 8, 9, 10, 11, 12, 13, 14, 15, 16, 17, 18, 19, 20, 21] rfl rfl (by decide) (by decide) rfl (by decide) (zrV (C := RX7) (As := []) (rest := []) hx hb hml hown hts tw228 mv_X7_undo ⟨Nat.le_of_ble_eq_true rfl, Nat.le_of_ble_eq_true rfl⟩ rfl rfl (ct_X7_undo l D ct a f2 g3 nx4 hz5 sw fl sg pl pa pk pn pf pg _  k v18 f19 nx20 hz21 hc) (z_wv hK hP hD [0, 1, 2, 3, 4, 5, 6, 7, 8, 9, 10, 11, 12, 13, 14, 15, 16, 17, 18, 19, 20, 21] (by decide) rfl 0 rfl rfl) hl.1 rfl rfl (Nat.le_of_ble_eq_true rfl) dL_share_57 ⟨Nat.le_refl _, Nat.le_refl _⟩) (fun H locs hP hD hS => ?_)
    refine lv_istore (lv' := [(8, .int v18), (6, .long v17), (4, .long v11), (0, .ref (a 0)), (1, .int p2), (2, .int p3), (3, .int p4)]) hx hb dL_share_60 hl (by decide) rfl (fun ls hl => ?_)
    refine lv_lload hx hb dL_share_62 (lv_at hl 2 rfl) ?_
    refine lv_lload hx hb dL_share_64 (lv_at hl 1 rfl) ?_
    refine o_lcmp hx hb dL_share_66 h (fun v22 h => ?_)
    refine zi_le (tgt := 75) hx hb dL_share_67 (by decide) h (fun h => ?_) (fun h => ?_)
    · refine lv_lload hx hb dL_share_75 (lv_at hl 1 rfl) ?_
      cases h
      exact zX_l hx hb hr hlocks hP hD hS hAe dL_share_77 rfl
    · refine lv_lload hx hb dL_share_70 (lv_at hl 2 rfl) ?_
      refine lv_goto (tgt := 77) hx hb dL_share_72 (by decide) ?_
      cases h
      exact zX_l hx hb hr hlocks hP hD hS hAe dL_share_77 rfl
  · refine lv_ldc2 (v := (-1 : Int64)) hx hb hown (hts _ (List.mem_cons_of_mem _ tw614)) dL_share_10 ?_
    cases h
    exact zX_l hx hb hr hlocks hP hD hS hAe dL_share_13 rfl

def f_L_tries_b389 (k : Nat) (pl : Int32) (p2 : Int32)  (f_ : Nat → Int32) (g_ : Nat → Nat → Int32) (nx_ : Int32) (hz_ : Int32) : Option (Int32 × (Nat → Int32) × (Nat → Nat → Int32) × Int32 × Int32) :=
  some ((0 : Int32), f_, g_, nx_, hz_)
def f_L_tries_b370 (k : Nat) (pl : Int32) (p2 : Int32)  (f_ : Nat → Int32) (g_ : Nat → Nat → Int32) (nx_ : Int32) (hz_ : Int32) (x4 : Int32) (x5 : Int32) : Option (Int32 × (Nat → Int32) × (Nat → Nat → Int32) × Int32 × Int32) :=
  if x4 = 0 then
    f_L_tries_b389 k pl p2 f_ g_ nx_ hz_
  else
    zb1 (f_X7_count k f_ hz_ pl (1 : Int32)) fun v21 =>
    if v21 = x5 then
      some ((1 : Int32), f_, g_, nx_, hz_)
    else
      f_L_tries_b389 k pl p2 f_ g_ nx_ hz_
def f_L_tries_b362 (k : Nat) (pl : Int32) (p2 : Int32) (k308 : (Nat → Int32) → (Nat → Nat → Int32) → Int32 → Int32 → Int32 → Int32 → Int32 → Int32 → Int64 → Int32 → Option (Int32 × (Nat → Int32) × (Nat → Nat → Int32) × Int32 × Int32)) (f_ : Nat → Int32) (g_ : Nat → Nat → Int32) (nx_ : Int32) (hz_ : Int32) (x5 : Int32) (x7 : Int32) (x10 : Int32) (x12 : Int64) (x14 : Int32) (y0 : Int32) : Option (Int32 × (Nat → Int32) × (Nat → Nat → Int32) × Int32 × Int32) :=
  zl (x14 + (1 : Int32)) fun v33 =>
  k308 f_ g_ nx_ hz_ y0 x5 x7 x10 x12 v33
def f_L_tries_b357 (k : Nat) (pl : Int32) (p2 : Int32) (k308 : (Nat → Int32) → (Nat → Nat → Int32) → Int32 → Int32 → Int32 → Int32 → Int32 → Int32 → Int64 → Int32 → Option (Int32 × (Nat → Int32) × (Nat → Nat → Int32) × Int32 × Int32)) (f_ : Nat → Int32) (g_ : Nat → Nat → Int32) (nx_ : Int32) (hz_ : Int32) (x5 : Int32) (x7 : Int32) (x10 : Int32) (x12 : Int64) (x14 : Int32) : Option (Int32 × (Nat → Int32) × (Nat → Nat → Int32) × Int32 × Int32) :=
  f_L_tries_b362 k pl p2 (k308) f_ g_ nx_ hz_ x5 x7 x10 x12 x14 (1 : Int32)
def f_L_tries_b308 (k : Nat) (pl : Int32) (p2 : Int32)  : Nat → (Nat → Int32) → (Nat → Nat → Int32) → Int32 → Int32 → Int32 → Int32 → Int32 → Int32 → Int64 → Int32 → Option (Int32 × (Nat → Int32) × (Nat → Nat → Int32) × Int32 × Int32)
  | 0, _, _, _, _, _, _, _, _, _, _ => none
  | n + 1, f_, g_, nx_, hz_, x4, x5, x7, x10, x12, x14 =>
    if (5 : Int32) ≤ x14 then
      f_L_tries_b370 k pl p2 f_ g_ nx_ hz_ x4 x5
    else
      if x4 = 0 then
        f_L_tries_b370 k pl p2 f_ g_ nx_ hz_ x4 x5
      else
        zb5 (f_L_share k f_ g_ nx_ hz_ pl x7 x10 x14) fun v27 f28 g29 nx30 hz31 =>
        zl (lg_cmp v27 (0 : Int64)) fun v32 =>
        if v32 < 0 then
          f_L_tries_b357 k pl p2 (f_L_tries_b308 k pl p2 n) f28 g29 nx30 hz31 x5 x7 x10 x12 x14
        else
          zg (znzl (1000000 : Int64)) (zl (v27 / (1000000 : Int64)) fun v34 =>
          zl (v27 + v34) fun v35 =>
          zl (v35 + (2 : Int64)) fun v36 =>
          zl (lg_cmp v36 x12) fun v37 =>
          if v37 < 0 then
            f_L_tries_b362 k pl p2 (f_L_tries_b308 k pl p2 n) f28 g29 nx30 hz31 x5 x7 x10 x12 x14 (0 : Int32)
          else
            f_L_tries_b357 k pl p2 (f_L_tries_b308 k pl p2 n) f28 g29 nx30 hz31 x5 x7 x10 x12 x14)
def f_L_tries_b263 (k : Nat) (pl : Int32) (p2 : Int32)  (f_ : Nat → Int32) (g_ : Nat → Nat → Int32) (nx_ : Int32) (hz_ : Int32) (x4 : Int32) (x5 : Int32) (x7 : Int32) : Option (Int32 × (Nat → Int32) × (Nat → Nat → Int32) × Int32 × Int32) :=
  zl (p2 >>> ((9 : Int32) &&& 31)) fun v18 =>
  zb1 (f_L_low k v18 (3 : Int32)) fun v19 =>
  zb1 (f_X7_bestPlace k f_ x7 v19) fun v20 =>
  if x4 = 0 then
    f_L_tries_b370 k pl p2 f_ g_ nx_ hz_ x4 x5
  else
    if v20 < 0 then
      f_L_tries_b370 k pl p2 f_ g_ nx_ hz_ x4 x5
    else
      zb5 (f_L_share k f_ g_ nx_ hz_ pl x7 v19 v20) fun v22 f23 g24 nx25 hz26 =>
      f_L_tries_b308 k pl p2 k f23 g24 nx25 hz26 x4 x5 x7 v19 v22 (0 : Int32)
def f_L_tries_b261 (k : Nat) (pl : Int32) (p2 : Int32)  (f_ : Nat → Int32) (g_ : Nat → Nat → Int32) (nx_ : Int32) (hz_ : Int32) (x5 : Int32) (x7 : Int32) (y0 : Int32) : Option (Int32 × (Nat → Int32) × (Nat → Nat → Int32) × Int32 × Int32) :=
  f_L_tries_b263 k pl p2 f_ g_ nx_ hz_ y0 x5 x7
def f_L_tries_b260 (k : Nat) (pl : Int32) (p2 : Int32)  (f_ : Nat → Int32) (g_ : Nat → Nat → Int32) (nx_ : Int32) (hz_ : Int32) (x5 : Int32) (x7 : Int32) : Option (Int32 × (Nat → Int32) × (Nat → Nat → Int32) × Int32 × Int32) :=
  f_L_tries_b261 k pl p2 f_ g_ nx_ hz_ x5 x7 (0 : Int32)
def f_L_tries_b249 (k : Nat) (pl : Int32) (p2 : Int32)  (f_ : Nat → Int32) (g_ : Nat → Nat → Int32) (nx_ : Int32) (hz_ : Int32) (x5 : Int32) (x7 : Int32) : Option (Int32 × (Nat → Int32) × (Nat → Nat → Int32) × Int32 × Int32) :=
  zb4 (f_X7_undo k f_ g_ nx_ hz_) fun v44 f45 nx46 hz47 =>
  if v44 < 0 then
    f_L_tries_b260 k pl p2 f45 g_ nx46 hz47 x5 x7
  else
    f_L_tries_b261 k pl p2 f45 g_ nx46 hz47 x5 x7 (1 : Int32)
def f_L_tries_b215 (k : Nat) (pl : Int32) (p2 : Int32)  (f_ : Nat → Int32) (g_ : Nat → Nat → Int32) (nx_ : Int32) (hz_ : Int32) (x5 : Int32) (x6 : Int32) (x7 : Int32) (y0 : Int32) : Option (Int32 × (Nat → Int32) × (Nat → Nat → Int32) × Int32 × Int32) :=
  if y0 = 0 then
    f_L_tries_b260 k pl p2 f_ g_ nx_ hz_ x5 x7
  else
    zb1 (f_X7_ofOrder k f_ x6 (3 : Int32)) fun v43 =>
    if v43 = 0 then
      zb1 (f_X7_ofOrder k f_ x6 (6 : Int32)) fun v48 =>
      zl (v48 >>> (x5 &&& 31)) fun v49 =>
      zl (v49 &&& (1 : Int32)) fun v50 =>
      if v50 = (1 : Int32) then
        f_L_tries_b249 k pl p2 f_ g_ nx_ hz_ x5 x7
      else
        f_L_tries_b260 k pl p2 f_ g_ nx_ hz_ x5 x7
    else
      f_L_tries_b249 k pl p2 f_ g_ nx_ hz_ x5 x7
def f_L_tries_b214 (k : Nat) (pl : Int32) (p2 : Int32)  (f_ : Nat → Int32) (g_ : Nat → Nat → Int32) (nx_ : Int32) (hz_ : Int32) (x5 : Int32) (x6 : Int32) (x7 : Int32) : Option (Int32 × (Nat → Int32) × (Nat → Nat → Int32) × Int32 × Int32) :=
  f_L_tries_b215 k pl p2 f_ g_ nx_ hz_ x5 x6 x7 (0 : Int32)
def f_L_tries_b65 (k : Nat) (pl : Int32) (p2 : Int32)  (f_ : Nat → Int32) (g_ : Nat → Nat → Int32) (nx_ : Int32) (hz_ : Int32) (y0 : Int32) : Option (Int32 × (Nat → Int32) × (Nat → Nat → Int32) × Int32 × Int32) :=
  zb1 (f_X7_count k f_ hz_ pl (1 : Int32)) fun v9 =>
  zb1 (f_X7_count k f_ hz_ pl (2 : Int32)) fun v10 =>
  zl (v10 + (1 : Int32)) fun v11 =>
  zb1 (f_L_low k p2 v11) fun v12 =>
  zl (p2 >>> ((4 : Int32) &&& 31)) fun v13 =>
  zl (v9 + (1 : Int32)) fun v14 =>
  zb1 (f_L_low k v13 v14) fun v15 =>
  zb1 (f_X7_fittingCut k f_ v12 v15 (0 : Int32)) fun v16 =>
  zb1 (f_X7_fittingCut k f_ v12 v15 (1 : Int32)) fun v17 =>
  if y0 = 0 then
    f_L_tries_b263 k pl p2 f_ g_ nx_ hz_ y0 v9 v15
  else
    if v16 < 0 then
      f_L_tries_b263 k pl p2 f_ g_ nx_ hz_ y0 v9 v15
    else
      if (22 : Int32) < v9 then
        f_L_tries_b263 k pl p2 f_ g_ nx_ hz_ y0 v9 v15
      else
        zb5 (f_X7_cut k f_ g_ nx_ hz_ v15 v16 v17) fun v38 f39 g40 nx41 hz42 =>
        if v38 = v9 then
          zb1 (f_X7_of k f39 v9 v16) fun v51 =>
          if v51 = v17 then
            zl (v9 + (1 : Int32)) fun v52 =>
            zb1 (f_X7_of k f39 v52 v16) fun v53 =>
            zb1 (f_X7_of k f39 v15 v16) fun v54 =>
            zl (v54 - v17) fun v55 =>
            zb1 (f_X7_count k f39 hz42 pl (12 : Int32)) fun v56 =>
            zl (v55 - v56) fun v57 =>
            if v53 = v57 then
              zb1 (f_X7_of k f39 v9 (10 : Int32)) fun v58 =>
              if v58 = v15 then
                f_L_tries_b215 k pl p2 f39 g40 nx41 hz42 v9 v12 v15 (1 : Int32)
              else
                f_L_tries_b214 k pl p2 f39 g40 nx41 hz42 v9 v12 v15
            else
              f_L_tries_b214 k pl p2 f39 g40 nx41 hz42 v9 v12 v15
          else
            f_L_tries_b214 k pl p2 f39 g40 nx41 hz42 v9 v12 v15
        else
          f_L_tries_b214 k pl p2 f39 g40 nx41 hz42 v9 v12 v15
def f_L_tries_b64 (k : Nat) (pl : Int32) (p2 : Int32)  (f_ : Nat → Int32) (g_ : Nat → Nat → Int32) (nx_ : Int32) (hz_ : Int32) : Option (Int32 × (Nat → Int32) × (Nat → Nat → Int32) × Int32 × Int32) :=
  f_L_tries_b65 k pl p2 f_ g_ nx_ hz_ (0 : Int32)
def f_L_tries (k : Nat) (f : Nat → Int32) (g : Nat → Nat → Int32) (nx : Int32) (hz : Int32) (pl : Int32) (p2 : Int32) : Option (Int32 × (Nat → Int32) × (Nat → Nat → Int32) × Int32 × Int32) :=
  zb1 (f_X7_ifFrost k f) fun v1 =>
  zb1 (f_X7_count k f hz pl (5 : Int32)) fun v2 =>
  zb5 (f_X7_night k f g nx hz (-40 : Int32)) fun v3 f4 g5 nx6 hz7 =>
  zb1 (f_L_bits k v1) fun v8 =>
  if v3 = v8 then
    zb1 (f_X7_count k f4 hz7 pl (5 : Int32)) fun v59 =>
    zl (v2 ||| v1) fun v60 =>
    if v59 = v60 then
      zb1 (f_X7_count k f4 hz7 pl (3 : Int32)) fun v61 =>
      if v61 = (1 : Int32) then
        zb4 (f_X7_undo k f4 g5 nx6 hz7) fun v62 f63 nx64 hz65 =>
        if v62 < 0 then
          f_L_tries_b64 k pl p2 f63 g5 nx64 hz65
        else
          zb1 (f_X7_count k f63 hz65 pl (5 : Int32)) fun v66 =>
          if v66 = v2 then
            f_L_tries_b65 k pl p2 f63 g5 nx64 hz65 (1 : Int32)
          else
            f_L_tries_b64 k pl p2 f63 g5 nx64 hz65
      else
        f_L_tries_b64 k pl p2 f4 g5 nx6 hz7
    else
      f_L_tries_b64 k pl p2 f4 g5 nx6 hz7
  else
    f_L_tries_b64 k pl p2 f4 g5 nx6 hz7
set_option maxRecDepth 100000 in
set_option maxHeartbeats 4000000 in
theorem ct_L_tries (l : Launch) (D : va_G) (ct a : Nat → Nat) (f : Nat → Int32) (g : Nat → Nat → Int32) (nx : Int32) (hz : Int32) (sw : Nat → Nat → Int32) (fl : Nat → Int32) (sg : Nat → Int32) (pl : Int32) (pa : Int32) (pk : Int32) (pn : Nat → Int32) (pf : Int32) (pg : Int32) (sz : Nat) (p2 : Int32) (k : Nat) (r : Int32) (f' : Nat → Int32) (g' : Nat → Nat → Int32) (nx' : Int32) (hz' : Int32) (h : f_L_tries k f g nx hz pl p2 = some (r, f', g', nx', hz')) : Met l yL_tries (Cond.code yL_tries cL_tries 17 (some .boolean) :: zT) ({ frames := 8, cells := 0, slots := 0, locals := 184 } : Room) (va_Pc [.ref (a 0), .int p2] (zPW D (zTys ct) (wX7 ct a f g nx hz sw fl sg pl pa pk pn pf pg) sz)) (va_Qi (fun r' (_ : Unit) => r' = r) (zQW D (wX7 ct a f g nx hz sw fl sg pl pa pk pn pf pg) sz (wX7 ct a f' g' nx' hz' sw fl sg pl pa pk pn pf pg)) (va_A (wX7 ct a f g nx hz sw fl sg pl pa pk pn pf pg) sz)) 0 0 (va_A (wX7 ct a f g nx hz sw fl sg pl pa pk pn pf pg) sz) := by
  refine zMet (cc := cL_tries) (maxL := 17) (ret := (some .boolean)) (av := [.ref (a 0), .int p2]) (by decide) (Nat.le_of_ble_eq_true rfl) (fun p e s m below meth c ls hx hb hr hml hts hown hlocks hin hB hl => ?_)
  have hl : lv_has ls 17 [(0, .ref (a 0)), (1, .int p2)] := hl
  have hown : s.vm.findClass RL = some m.cls := hown
  obtain ⟨hsz, hP, hK, hD0⟩ := hB
  subst hsz
  have hD := hD0.self (sz := s.heap.size)
  obtain ⟨A, hAe⟩ : ∃ A, A = va_A (wX7 ct a f g nx hz sw fl sg pl pa pk pn pf pg) s.heap.size := ⟨_, rfl⟩
  rw [← hAe] at hD
  have hA : ∀ q : Nat, s.heap.size ≤ q → A q := fun q h => by rw [hAe]; exact Or.inr h
  have hS : va_S A s.heap s.heap [] := va_S.rf
  have B389 : ∀ (f_ : Nat → Int32) (g_ : Nat → Nat → Int32) (nx_ : Int32) (hz_ : Int32), f_L_tries_b389 k pl p2 f_ g_ nx_ hz_ = some (r, f', g', nx', hz') → ∀ (H : Heap) (locs : List Loc), va_P D vwCl (wX7 ct a f_ g_ nx_ hz_ sw fl sg pl pa pk pn pf pg) H → va_D A (wX7 ct a f_ g_ nx_ hz_ sw fl sg pl pa pk pn pf pg) → va_S A s.heap H locs → ∀ (ls : Array Slot), lv_has ls 17 [] → W p l e ({ frames := 8, cells := 0, slots := 0, locals := 184 } : Room) s m ([.ref (a 0), .int p2] : List Value).toArray below meth c H locs 0 0 (MQ below (va_Qi (fun r' (_ : Unit) => r' = r) (zQW D (wX7 ct a f g nx hz sw fl sg pl pa pk pn pf pg) s.heap.size (wX7 ct a f' g' nx' hz' sw fl sg pl pa pk pn pf pg)) (va_A (wX7 ct a f g nx hz sw fl sg pl pa pk pn pf pg) s.heap.size)) ([.ref (a 0), .int p2] : List Value).toArray s 0 0 (va_A (wX7 ct a f g nx hz sw fl sg pl pa pk pn pf pg) s.heap.size)) (F0 m 389 ls []) := by
    intro f_ g_ nx_ hz_ h H locs hP hD hS ls hl
    rw [f_L_tries_b389] at h
    refine lv_iconst (v := (0 : Int32)) hx hb dL_tries_389 (by decide) ?_
    cases h
    exact zX_z hx hb hr hlocks hP hD hS hAe dL_tries_390 (by decide) rfl
  have B370 : ∀ (f_ : Nat → Int32) (g_ : Nat → Nat → Int32) (nx_ : Int32) (hz_ : Int32) (x4 : Int32) (x5 : Int32), f_L_tries_b370 k pl p2 f_ g_ nx_ hz_ x4 x5 = some (r, f', g', nx', hz') → ∀ (H : Heap) (locs : List Loc), va_P D vwCl (wX7 ct a f_ g_ nx_ hz_ sw fl sg pl pa pk pn pf pg) H → va_D A (wX7 ct a f_ g_ nx_ hz_ sw fl sg pl pa pk pn pf pg) → va_S A s.heap H locs → ∀ (ls : Array Slot), lv_has ls 17 [(0, .ref (a 0)), (4, .int x4), (5, .int x5)] → W p l e ({ frames := 8, cells := 0, slots := 0, locals := 184 } : Room) s m ([.ref (a 0), .int p2] : List Value).toArray below meth c H locs 0 0 (MQ below (va_Qi (fun r' (_ : Unit) => r' = r) (zQW D (wX7 ct a f g nx hz sw fl sg pl pa pk pn pf pg) s.heap.size (wX7 ct a f' g' nx' hz' sw fl sg pl pa pk pn pf pg)) (va_A (wX7 ct a f g nx hz sw fl sg pl pa pk pn pf pg) s.heap.size)) ([.ref (a 0), .int p2] : List Value).toArray s 0 0 (va_A (wX7 ct a f g nx hz sw fl sg pl pa pk pn pf pg) s.heap.size)) (F0 m 370 ls []) := by
    intro f_ g_ nx_ hz_ x4 x5 h H locs hP hD hS ls hl
    rw [f_L_tries_b370] at h
    refine lv_iload hx hb dL_tries_370 (lv_at hl 1 rfl) ?_
    refine zi_eq (tgt := 389) hx hb dL_tries_372 (by decide) h (fun h => ?_) (fun h => ?_)
    · exact B389 f_ g_ nx_ hz_ h _ _ hP hD hS ls (lv_sub hl [] rfl)
    · refine lv_aload_n hx hb dL_tries_375 rfl (lv_at hl 0 rfl) ?_
      refine lv_iconst (v := (1 : Int32)) hx hb dL_tries_376 (by decide) ?_
      obtain ⟨v21, hc, h⟩ := zb1_s h
      refine zE_i (zrV (C := RX7) (As := [.int (1 : Int32)]) (rest := []) hx hb hml hown hts tw152 mv_X7_count ⟨Nat.le_of_ble_eq_true rfl, Nat.le_of_ble_eq_true rfl⟩ rfl rfl (ct_X7_count l D ct a f_ g_ nx_ hz_ sw fl sg pl pa pk pn pf pg (1 : Int32) k v21 hc) (z_pv hK hP [0, 1, 2, 3, 4, 5, 6, 7, 8, 9, 10, 11, 12, 13, 14, 15, 16, 17, 18, 19, 20, 21] rfl 0 rfl rfl) hl.1 rfl rfl (Nat.le_of_ble_eq_true rfl) dL_tries_377 ⟨Nat.le_refl _, Nat.le_refl _⟩) ?_
      refine lv_iload hx hb dL_tries_380 (lv_at hl 2 rfl) ?_
      refine zc_ne (tgt := 389) hx hb dL_tries_382 (by decide) h (fun h => ?_) (fun h => ?_)
      · exact B389 f_ g_ nx_ hz_ h _ _ hP hD hS ls (lv_sub hl [] rfl)
      · refine lv_iconst (v := (1 : Int32)) hx hb dL_tries_385 (by decide) ?_
        refine lv_goto (tgt := 390) hx hb dL_tries_386 (by decide) ?_
        cases h
        exact zX_z hx hb hr hlocks hP hD hS hAe dL_tries_390 (by decide) rfl
  have B362 : ∀ (k308 : (Nat → Int32) → (Nat → Nat → Int32) → Int32 → Int32 → Int32 → Int32 → Int32 → Int32 → Int64 → Int32 → Option (Int32 × (Nat → Int32) × (Nat → Nat → Int32) × Int32 × Int32)) (hk308 : ∀ (f_ : Nat → Int32) (g_ : Nat → Nat → Int32) (nx_ : Int32) (hz_ : Int32) (x4 : Int32) (x5 : Int32) (x7 : Int32) (x10 : Int32) (x12 : Int64) (x14 : Int32), k308 f_ g_ nx_ hz_ x4 x5 x7 x10 x12 x14 = some (r, f', g', nx', hz') → ∀ (H : Heap) (locs : List Loc), va_P D vwCl (wX7 ct a f_ g_ nx_ hz_ sw fl sg pl pa pk pn pf pg) H → va_D A (wX7 ct a f_ g_ nx_ hz_ sw fl sg pl pa pk pn pf pg) → va_S A s.heap H locs → ∀ (ls : Array Slot), lv_has ls 17 [(0, .ref (a 0)), (4, .int x4), (5, .int x5), (7, .int x7), (10, .int x10), (12, .long x12), (14, .int x14)] → W p l e ({ frames := 8, cells := 0, slots := 0, locals := 184 } : Room) s m ([.ref (a 0), .int p2] : List Value).toArray below meth c H locs 0 0 (MQ below (va_Qi (fun r' (_ : Unit) => r' = r) (zQW D (wX7 ct a f g nx hz sw fl sg pl pa pk pn pf pg) s.heap.size (wX7 ct a f' g' nx' hz' sw fl sg pl pa pk pn pf pg)) (va_A (wX7 ct a f g nx hz sw fl sg pl pa pk pn pf pg) s.heap.size)) ([.ref (a 0), .int p2] : List Value).toArray s 0 0 (va_A (wX7 ct a f g nx hz sw fl sg pl pa pk pn pf pg) s.heap.size)) (F0 m 308 ls [])), ∀ (f_ : Nat → Int32) (g_ : Nat → Nat → Int32) (nx_ : Int32) (hz_ : Int32) (x5 : Int32) (x7 : Int32) (x10 : Int32) (x12 : Int64) (x14 : Int32) (y0 : Int32), f_L_tries_b362 k pl p2 k308 f_ g_ nx_ hz_ x5 x7 x10 x12 x14 y0 = some (r, f', g', nx', hz') → ∀ (H : Heap) (locs : List Loc), va_P D vwCl (wX7 ct a f_ g_ nx_ hz_ sw fl sg pl pa pk pn pf pg) H → va_D A (wX7 ct a f_ g_ nx_ hz_ sw fl sg pl pa pk pn pf pg) → va_S A s.heap H locs → ∀ (ls : Array Slot), lv_has ls 17 [(0, .ref (a 0)), (5, .int x5), (7, .int x7), (10, .int x10), (12, .long x12), (14, .int x14)] → W p l e ({ frames := 8, cells := 0, slots := 0, locals := 184 } : Room) s m ([.ref (a 0), .int p2] : List Value).toArray below meth c H locs 0 0 (MQ below (va_Qi (fun r' (_ : Unit) => r' = r) (zQW D (wX7 ct a f g nx hz sw fl sg pl pa pk pn pf pg) s.heap.size (wX7 ct a f' g' nx' hz' sw fl sg pl pa pk pn pf pg)) (va_A (wX7 ct a f g nx hz sw fl sg pl pa pk pn pf pg) s.heap.size)) ([.ref (a 0), .int p2] : List Value).toArray s 0 0 (va_A (wX7 ct a f g nx hz sw fl sg pl pa pk pn pf pg) s.heap.size)) (F0 m 362 ls [.int y0]) := by
    intro k308 hk308
    intro f_ g_ nx_ hz_ x5 x7 x10 x12 x14 y0 h H locs hP hD hS ls hl
    rw [f_L_tries_b362] at h
    refine lv_istore (lv' := [(4, .int y0), (0, .ref (a 0)), (5, .int x5), (7, .int x7), (10, .int x10), (12, .long x12), (14, .int x14)]) hx hb dL_tries_362 hl (by decide) rfl (fun ls hl => ?_)
    refine o_nm h (fun v33 ey h => ?_)
    refine lv_iinc (v := v33) (lv' := [(14, .int v33), (4, .int y0), (0, .ref (a 0)), (5, .int x5), (7, .int x7), (10, .int x10), (12, .long x12)]) hx hb dL_tries_364 hl (k := 6) rfl (Eq.trans rfl ey) (by decide) rfl (fun ls hl => ?_)
    refine lv_goto (tgt := 308) hx hb dL_tries_367 (by decide) ?_
    exact hk308 f_ g_ nx_ hz_ y0 x5 x7 x10 x12 v33 h _ _ hP hD hS ls (lv_sub hl [2, 1, 3, 4, 5, 6, 0] rfl)
  have B357 : ∀ (k308 : (Nat → Int32) → (Nat → Nat → Int32) → Int32 → Int32 → Int32 → Int32 → Int32 → Int32 → Int64 → Int32 → Option (Int32 × (Nat → Int32) × (Nat → Nat → Int32) × Int32 × Int32)) (hk308 : ∀ (f_ : Nat → Int32) (g_ : Nat → Nat → Int32) (nx_ : Int32) (hz_ : Int32) (x4 : Int32) (x5 : Int32) (x7 : Int32) (x10 : Int32) (x12 : Int64) (x14 : Int32), k308 f_ g_ nx_ hz_ x4 x5 x7 x10 x12 x14 = some (r, f', g', nx', hz') → ∀ (H : Heap) (locs : List Loc), va_P D vwCl (wX7 ct a f_ g_ nx_ hz_ sw fl sg pl pa pk pn pf pg) H → va_D A (wX7 ct a f_ g_ nx_ hz_ sw fl sg pl pa pk pn pf pg) → va_S A s.heap H locs → ∀ (ls : Array Slot), lv_has ls 17 [(0, .ref (a 0)), (4, .int x4), (5, .int x5), (7, .int x7), (10, .int x10), (12, .long x12), (14, .int x14)] → W p l e ({ frames := 8, cells := 0, slots := 0, locals := 184 } : Room) s m ([.ref (a 0), .int p2] : List Value).toArray below meth c H locs 0 0 (MQ below (va_Qi (fun r' (_ : Unit) => r' = r) (zQW D (wX7 ct a f g nx hz sw fl sg pl pa pk pn pf pg) s.heap.size (wX7 ct a f' g' nx' hz' sw fl sg pl pa pk pn pf pg)) (va_A (wX7 ct a f g nx hz sw fl sg pl pa pk pn pf pg) s.heap.size)) ([.ref (a 0), .int p2] : List Value).toArray s 0 0 (va_A (wX7 ct a f g nx hz sw fl sg pl pa pk pn pf pg) s.heap.size)) (F0 m 308 ls [])), ∀ (f_ : Nat → Int32) (g_ : Nat → Nat → Int32) (nx_ : Int32) (hz_ : Int32) (x5 : Int32) (x7 : Int32) (x10 : Int32) (x12 : Int64) (x14 : Int32), f_L_tries_b357 k pl p2 k308 f_ g_ nx_ hz_ x5 x7 x10 x12 x14 = some (r, f', g', nx', hz') → ∀ (H : Heap) (locs : List Loc), va_P D vwCl (wX7 ct a f_ g_ nx_ hz_ sw fl sg pl pa pk pn pf pg) H → va_D A (wX7 ct a f_ g_ nx_ hz_ sw fl sg pl pa pk pn pf pg) → va_S A s.heap H locs → ∀ (ls : Array Slot), lv_has ls 17 [(0, .ref (a 0)), (5, .int x5), (7, .int x7), (10, .int x10), (12, .long x12), (14, .int x14)] → W p l e ({ frames := 8, cells := 0, slots := 0, locals := 184 } : Room) s m ([.ref (a 0), .int p2] : List Value).toArray below meth c H locs 0 0 (MQ below (va_Qi (fun r' (_ : Unit) => r' = r) (zQW D (wX7 ct a f g nx hz sw fl sg pl pa pk pn pf pg) s.heap.size (wX7 ct a f' g' nx' hz' sw fl sg pl pa pk pn pf pg)) (va_A (wX7 ct a f g nx hz sw fl sg pl pa pk pn pf pg) s.heap.size)) ([.ref (a 0), .int p2] : List Value).toArray s 0 0 (va_A (wX7 ct a f g nx hz sw fl sg pl pa pk pn pf pg) s.heap.size)) (F0 m 357 ls []) := by
    intro k308 hk308
    intro f_ g_ nx_ hz_ x5 x7 x10 x12 x14 h H locs hP hD hS ls hl
    rw [f_L_tries_b357] at h
    refine lv_iconst (v := (1 : Int32)) hx hb dL_tries_357 (by decide) ?_
    refine lv_goto (tgt := 362) hx hb dL_tries_358 (by decide) ?_
    exact B362 (k308) hk308 f_ g_ nx_ hz_ x5 x7 x10 x12 x14 (1 : Int32) h _ _ hP hD hS ls (lv_sub hl [0, 1, 2, 3, 4, 5] rfl)
  have B308 : ∀ (n : Nat), ∀ (f_ : Nat → Int32) (g_ : Nat → Nat → Int32) (nx_ : Int32) (hz_ : Int32) (x4 : Int32) (x5 : Int32) (x7 : Int32) (x10 : Int32) (x12 : Int64) (x14 : Int32), f_L_tries_b308 k pl p2 n f_ g_ nx_ hz_ x4 x5 x7 x10 x12 x14 = some (r, f', g', nx', hz') → ∀ (H : Heap) (locs : List Loc), va_P D vwCl (wX7 ct a f_ g_ nx_ hz_ sw fl sg pl pa pk pn pf pg) H → va_D A (wX7 ct a f_ g_ nx_ hz_ sw fl sg pl pa pk pn pf pg) → va_S A s.heap H locs → ∀ (ls : Array Slot), lv_has ls 17 [(0, .ref (a 0)), (4, .int x4), (5, .int x5), (7, .int x7), (10, .int x10), (12, .long x12), (14, .int x14)] → W p l e ({ frames := 8, cells := 0, slots := 0, locals := 184 } : Room) s m ([.ref (a 0), .int p2] : List Value).toArray below meth c H locs 0 0 (MQ below (va_Qi (fun r' (_ : Unit) => r' = r) (zQW D (wX7 ct a f g nx hz sw fl sg pl pa pk pn pf pg) s.heap.size (wX7 ct a f' g' nx' hz' sw fl sg pl pa pk pn pf pg)) (va_A (wX7 ct a f g nx hz sw fl sg pl pa pk pn pf pg) s.heap.size)) ([.ref (a 0), .int p2] : List Value).toArray s 0 0 (va_A (wX7 ct a f g nx hz sw fl sg pl pa pk pn pf pg) s.heap.size)) (F0 m 308 ls []) := by
    intro n
    induction n with
    | zero => intro f_ g_ nx_ hz_ x4 x5 x7 x10 x12 x14 h; exact absurd h (by rw [f_L_tries_b308]; exact fun q => nomatch q)
    | succ n ih308 =>
      intro f_ g_ nx_ hz_ x4 x5 x7 x10 x12 x14 h H locs hP hD hS ls hl
      rw [f_L_tries_b308] at h
      refine lv_iload hx hb dL_tries_308 (lv_at hl 6 rfl) ?_
      refine lv_iconst (v := (5 : Int32)) hx hb dL_tries_310 (by decide) ?_
      refine zc_ge (tgt := 370) hx hb dL_tries_311 (by decide) h (fun h => ?_) (fun h => ?_)
      · exact B370 f_ g_ nx_ hz_ x4 x5 h _ _ hP hD hS ls (lv_sub hl [0, 1, 2] rfl)
      · refine lv_iload hx hb dL_tries_314 (lv_at hl 1 rfl) ?_
        refine zi_eq (tgt := 370) hx hb dL_tries_316 (by decide) h (fun h => ?_) (fun h => ?_)
        · exact B370 f_ g_ nx_ hz_ x4 x5 h _ _ hP hD hS ls (lv_sub hl [0, 1, 2] rfl)
        · refine lv_aload_n hx hb dL_tries_319 rfl (lv_at hl 0 rfl) ?_
          refine lv_iload hx hb dL_tries_320 (lv_at hl 3 rfl) ?_
          refine lv_iload hx hb dL_tries_322 (lv_at hl 4 rfl) ?_
          refine lv_iload hx hb dL_tries_324 (lv_at hl 6 rfl) ?_
          obtain ⟨v27, f28, g29, nx30, hz31, hc, h⟩ := zb5_s h
          refine zG_l (w1 := wX7 ct a f28 g29 nx30 hz31 sw fl sg pl pa pk pn pf pg) (ws' := wX7 ct a f28 g29 nx30 hz31 sw fl sg pl pa pk pn pf pg) hP hD hS hA [0, 1, 2, 3, 4, 5, 6, 7, 8, 9, 10, 11, 12, 13, 14, 15, 16, 17, 18, 19, 20, 21] [] [0, 1, 2, 3, 4, 5, 6, 7, 8, 9, 10, 11, 12, 13, 14, 15, 16, 17, 18, 19, 20, 21] rfl rfl (by decide) (by decide) rfl (by decide) (zrS (As := [.ref (a 0), .int x7, .int x10, .int x14]) (rest := []) hx hb hml hown hts tw611 ms_L_share ⟨Nat.le_of_ble_eq_true rfl, Nat.le_of_ble_eq_true rfl⟩ rfl rfl (ct_L_share l D ct a f_ g_ nx_ hz_ sw fl sg pl pa pk pn pf pg _ x7 x10 x14 k v27 f28 g29 nx30 hz31 hc) (z_ws hK hP hD [0, 1, 2, 3, 4, 5, 6, 7, 8, 9, 10, 11, 12, 13, 14, 15, 16, 17, 18, 19, 20, 21] (by decide) rfl) hl.1 rfl rfl (Nat.le_of_ble_eq_true rfl) dL_tries_326 ⟨Nat.le_refl _, Nat.le_refl _⟩) (fun H locs hP hD hS => ?_)
          refine lv_lstore (lv' := [(15, .long v27), (0, .ref (a 0)), (4, .int x4), (5, .int x5), (7, .int x7), (10, .int x10), (12, .long x12), (14, .int x14)]) hx hb dL_tries_329 hl (by decide) rfl (fun ls hl => ?_)
          refine lv_lload hx hb dL_tries_331 (lv_at hl 0 rfl) ?_
          refine lv_lconst (v := (0 : Int64)) hx hb dL_tries_333 (by decide) ?_
          refine o_lcmp hx hb dL_tries_334 h (fun v32 h => ?_)
          refine zi_lt (tgt := 357) hx hb dL_tries_335 (by decide) h (fun h => ?_) (fun h => ?_)
          · exact B357 (f_L_tries_b308 k pl p2 n) ih308 f28 g29 nx30 hz31 x5 x7 x10 x12 x14 h _ _ hP hD hS ls (lv_sub hl [1, 3, 4, 5, 6, 7] rfl)
          · refine lv_lload hx hb dL_tries_338 (lv_at hl 0 rfl) ?_
            refine lv_lload hx hb dL_tries_340 (lv_at hl 0 rfl) ?_
            refine lv_ldc2 (v := (1000000 : Int64)) hx hb hown (hts _ (List.mem_cons_of_mem _ tw616)) dL_tries_342 ?_
            obtain ⟨hz, h⟩ := zg_s h
            refine o_ldiv hx hb dL_tries_345 (of_decide_eq_true hz) h (fun v34 h => ?_)
            refine o_ladd hx hb dL_tries_346 h (fun v35 h => ?_)
            refine lv_ldc2 (v := (2 : Int64)) hx hb hown (hts _ (List.mem_cons_of_mem _ tw617)) dL_tries_347 ?_
            refine o_ladd hx hb dL_tries_350 h (fun v36 h => ?_)
            refine lv_lload hx hb dL_tries_351 (lv_at hl 6 rfl) ?_
            refine o_lcmp hx hb dL_tries_353 h (fun v37 h => ?_)
            refine zi_lt (tgt := 361) hx hb dL_tries_354 (by decide) h (fun h => ?_) (fun h => ?_)
            · refine lv_iconst (v := (0 : Int32)) hx hb dL_tries_361 (by decide) ?_
              exact B362 (f_L_tries_b308 k pl p2 n) ih308 f28 g29 nx30 hz31 x5 x7 x10 x12 x14 (0 : Int32) h _ _ hP hD hS ls (lv_sub hl [1, 3, 4, 5, 6, 7] rfl)
            · exact B357 (f_L_tries_b308 k pl p2 n) ih308 f28 g29 nx30 hz31 x5 x7 x10 x12 x14 h _ _ hP hD hS ls (lv_sub hl [1, 3, 4, 5, 6, 7] rfl)
  have B263 : ∀ (f_ : Nat → Int32) (g_ : Nat → Nat → Int32) (nx_ : Int32) (hz_ : Int32) (x4 : Int32) (x5 : Int32) (x7 : Int32), f_L_tries_b263 k pl p2 f_ g_ nx_ hz_ x4 x5 x7 = some (r, f', g', nx', hz') → ∀ (H : Heap) (locs : List Loc), va_P D vwCl (wX7 ct a f_ g_ nx_ hz_ sw fl sg pl pa pk pn pf pg) H → va_D A (wX7 ct a f_ g_ nx_ hz_ sw fl sg pl pa pk pn pf pg) → va_S A s.heap H locs → ∀ (ls : Array Slot), lv_has ls 17 [(0, .ref (a 0)), (1, .int p2), (4, .int x4), (5, .int x5), (7, .int x7)] → W p l e ({ frames := 8, cells := 0, slots := 0, locals := 184 } : Room) s m ([.ref (a 0), .int p2] : List Value).toArray below meth c H locs 0 0 (MQ below (va_Qi (fun r' (_ : Unit) => r' = r) (zQW D (wX7 ct a f g nx hz sw fl sg pl pa pk pn pf pg) s.heap.size (wX7 ct a f' g' nx' hz' sw fl sg pl pa pk pn pf pg)) (va_A (wX7 ct a f g nx hz sw fl sg pl pa pk pn pf pg) s.heap.size)) ([.ref (a 0), .int p2] : List Value).toArray s 0 0 (va_A (wX7 ct a f g nx hz sw fl sg pl pa pk pn pf pg) s.heap.size)) (F0 m 263 ls []) := by
    intro f_ g_ nx_ hz_ x4 x5 x7 h H locs hP hD hS ls hl
    rw [f_L_tries_b263] at h
    refine lv_iload_n hx hb dL_tries_263 rfl (lv_at hl 1 rfl) ?_
    refine lv_bipush (v := (9 : Int32)) hx hb dL_tries_264 (by decide) ?_
    refine o_ishr hx hb dL_tries_266 h (fun v18 h => ?_)
    refine lv_iconst (v := (3 : Int32)) hx hb dL_tries_267 (by decide) ?_
    obtain ⟨v19, hc, h⟩ := zb1_s h
    refine zE_i (zrS (As := [.int v18, .int (3 : Int32)]) (rest := []) hx hb hml hown hts tw254 ms_L_low ⟨Nat.le_of_ble_eq_true rfl, Nat.le_of_ble_eq_true rfl⟩ rfl rfl (ct_L_low l v18 (3 : Int32) k v19 hc) z_p0 hl.1 rfl rfl (Nat.le_of_ble_eq_true rfl) dL_tries_268 ⟨Nat.le_refl _, Nat.le_refl _⟩) ?_
    refine lv_istore (lv' := [(10, .int v19), (0, .ref (a 0)), (1, .int p2), (4, .int x4), (5, .int x5), (7, .int x7)]) hx hb dL_tries_271 hl (by decide) rfl (fun ls hl => ?_)
    refine lv_aload_n hx hb dL_tries_273 rfl (lv_at hl 1 rfl) ?_
    refine lv_iload hx hb dL_tries_274 (lv_at hl 5 rfl) ?_
    refine lv_iload hx hb dL_tries_276 (lv_at hl 0 rfl) ?_
    obtain ⟨v20, hc, h⟩ := zb1_s h
    refine zE_i (zrV (C := RX7) (As := [.int x7, .int v19]) (rest := []) hx hb hml hown hts tw594 mv_X7_bestPlace ⟨Nat.le_of_ble_eq_true rfl, Nat.le_of_ble_eq_true rfl⟩ rfl rfl (ct_X7_bestPlace l D ct a f_ g_ nx_ hz_ sw fl sg pl pa pk pn pf pg x7 v19 k v20 hc) (z_pv hK hP [0, 1, 2, 3, 4, 5, 6, 7, 8, 9, 10, 11, 12, 13, 14, 15, 16, 17, 18, 19, 20, 21] rfl 0 rfl rfl) hl.1 rfl rfl (Nat.le_of_ble_eq_true rfl) dL_tries_278 ⟨Nat.le_refl _, Nat.le_refl _⟩) ?_
    refine lv_istore (lv' := [(11, .int v20), (10, .int v19), (0, .ref (a 0)), (1, .int p2), (4, .int x4), (5, .int x5), (7, .int x7)]) hx hb dL_tries_281 hl (by decide) rfl (fun ls hl => ?_)
    refine lv_iload hx hb dL_tries_283 (lv_at hl 4 rfl) ?_
    refine zi_eq (tgt := 370) hx hb dL_tries_285 (by decide) h (fun h => ?_) (fun h => ?_)
    · exact B370 f_ g_ nx_ hz_ x4 x5 h _ _ hP hD hS ls (lv_sub hl [2, 4, 5] rfl)
    · refine lv_iload hx hb dL_tries_288 (lv_at hl 0 rfl) ?_
      refine zi_lt (tgt := 370) hx hb dL_tries_290 (by decide) h (fun h => ?_) (fun h => ?_)
      · exact B370 f_ g_ nx_ hz_ x4 x5 h _ _ hP hD hS ls (lv_sub hl [2, 4, 5] rfl)
      · refine lv_aload_n hx hb dL_tries_293 rfl (lv_at hl 2 rfl) ?_
        refine lv_iload hx hb dL_tries_294 (lv_at hl 6 rfl) ?_
        refine lv_iload hx hb dL_tries_296 (lv_at hl 1 rfl) ?_
        refine lv_iload hx hb dL_tries_298 (lv_at hl 0 rfl) ?_
        obtain ⟨v22, f23, g24, nx25, hz26, hc, h⟩ := zb5_s h
        refine zG_l (w1 := wX7 ct a f23 g24 nx25 hz26 sw fl sg pl pa pk pn pf pg) (ws' := wX7 ct a f23 g24 nx25 hz26 sw fl sg pl pa pk pn pf pg) hP hD hS hA [0, 1, 2, 3, 4, 5, 6, 7, 8, 9, 10, 11, 12, 13, 14, 15, 16, 17, 18, 19, 20, 21] [] [0, 1, 2, 3, 4, 5, 6, 7, 8, 9, 10, 11, 12, 13, 14, 15, 16, 17, 18, 19, 20, 21] rfl rfl (by decide) (by decide) rfl (by decide) (zrS (As := [.ref (a 0), .int x7, .int v19, .int v20]) (rest := []) hx hb hml hown hts tw611 ms_L_share ⟨Nat.le_of_ble_eq_true rfl, Nat.le_of_ble_eq_true rfl⟩ rfl rfl (ct_L_share l D ct a f_ g_ nx_ hz_ sw fl sg pl pa pk pn pf pg _ x7 v19 v20 k v22 f23 g24 nx25 hz26 hc) (z_ws hK hP hD [0, 1, 2, 3, 4, 5, 6, 7, 8, 9, 10, 11, 12, 13, 14, 15, 16, 17, 18, 19, 20, 21] (by decide) rfl) hl.1 rfl rfl (Nat.le_of_ble_eq_true rfl) dL_tries_300 ⟨Nat.le_refl _, Nat.le_refl _⟩) (fun H locs hP hD hS => ?_)
        refine lv_lstore (lv' := [(12, .long v22), (11, .int v20), (10, .int v19), (0, .ref (a 0)), (1, .int p2), (4, .int x4), (5, .int x5), (7, .int x7)]) hx hb dL_tries_303 hl (by decide) rfl (fun ls hl => ?_)
        refine lv_iconst (v := (0 : Int32)) hx hb dL_tries_305 (by decide) ?_
        refine lv_istore (lv' := [(14, .int (0 : Int32)), (12, .long v22), (11, .int v20), (10, .int v19), (0, .ref (a 0)), (1, .int p2), (4, .int x4), (5, .int x5), (7, .int x7)]) hx hb dL_tries_306 hl (by decide) rfl (fun ls hl => ?_)
        exact B308 k f23 g24 nx25 hz26 x4 x5 x7 v19 v22 (0 : Int32) h _ _ hP hD hS ls (lv_sub hl [4, 6, 7, 8, 3, 1, 0] rfl)
  have B261 : ∀ (f_ : Nat → Int32) (g_ : Nat → Nat → Int32) (nx_ : Int32) (hz_ : Int32) (x5 : Int32) (x7 : Int32) (y0 : Int32), f_L_tries_b261 k pl p2 f_ g_ nx_ hz_ x5 x7 y0 = some (r, f', g', nx', hz') → ∀ (H : Heap) (locs : List Loc), va_P D vwCl (wX7 ct a f_ g_ nx_ hz_ sw fl sg pl pa pk pn pf pg) H → va_D A (wX7 ct a f_ g_ nx_ hz_ sw fl sg pl pa pk pn pf pg) → va_S A s.heap H locs → ∀ (ls : Array Slot), lv_has ls 17 [(0, .ref (a 0)), (1, .int p2), (5, .int x5), (7, .int x7)] → W p l e ({ frames := 8, cells := 0, slots := 0, locals := 184 } : Room) s m ([.ref (a 0), .int p2] : List Value).toArray below meth c H locs 0 0 (MQ below (va_Qi (fun r' (_ : Unit) => r' = r) (zQW D (wX7 ct a f g nx hz sw fl sg pl pa pk pn pf pg) s.heap.size (wX7 ct a f' g' nx' hz' sw fl sg pl pa pk pn pf pg)) (va_A (wX7 ct a f g nx hz sw fl sg pl pa pk pn pf pg) s.heap.size)) ([.ref (a 0), .int p2] : List Value).toArray s 0 0 (va_A (wX7 ct a f g nx hz sw fl sg pl pa pk pn pf pg) s.heap.size)) (F0 m 261 ls [.int y0]) := by
    intro f_ g_ nx_ hz_ x5 x7 y0 h H locs hP hD hS ls hl
    rw [f_L_tries_b261] at h
    refine lv_istore (lv' := [(4, .int y0), (0, .ref (a 0)), (1, .int p2), (5, .int x5), (7, .int x7)]) hx hb dL_tries_261 hl (by decide) rfl (fun ls hl => ?_)
    exact B263 f_ g_ nx_ hz_ y0 x5 x7 h _ _ hP hD hS ls (lv_sub hl [1, 2, 0, 3, 4] rfl)
  have B260 : ∀ (f_ : Nat → Int32) (g_ : Nat → Nat → Int32) (nx_ : Int32) (hz_ : Int32) (x5 : Int32) (x7 : Int32), f_L_tries_b260 k pl p2 f_ g_ nx_ hz_ x5 x7 = some (r, f', g', nx', hz') → ∀ (H : Heap) (locs : List Loc), va_P D vwCl (wX7 ct a f_ g_ nx_ hz_ sw fl sg pl pa pk pn pf pg) H → va_D A (wX7 ct a f_ g_ nx_ hz_ sw fl sg pl pa pk pn pf pg) → va_S A s.heap H locs → ∀ (ls : Array Slot), lv_has ls 17 [(0, .ref (a 0)), (1, .int p2), (5, .int x5), (7, .int x7)] → W p l e ({ frames := 8, cells := 0, slots := 0, locals := 184 } : Room) s m ([.ref (a 0), .int p2] : List Value).toArray below meth c H locs 0 0 (MQ below (va_Qi (fun r' (_ : Unit) => r' = r) (zQW D (wX7 ct a f g nx hz sw fl sg pl pa pk pn pf pg) s.heap.size (wX7 ct a f' g' nx' hz' sw fl sg pl pa pk pn pf pg)) (va_A (wX7 ct a f g nx hz sw fl sg pl pa pk pn pf pg) s.heap.size)) ([.ref (a 0), .int p2] : List Value).toArray s 0 0 (va_A (wX7 ct a f g nx hz sw fl sg pl pa pk pn pf pg) s.heap.size)) (F0 m 260 ls []) := by
    intro f_ g_ nx_ hz_ x5 x7 h H locs hP hD hS ls hl
    rw [f_L_tries_b260] at h
    refine lv_iconst (v := (0 : Int32)) hx hb dL_tries_260 (by decide) ?_
    exact B261 f_ g_ nx_ hz_ x5 x7 (0 : Int32) h _ _ hP hD hS ls (lv_sub hl [0, 1, 2, 3] rfl)
  have B249 : ∀ (f_ : Nat → Int32) (g_ : Nat → Nat → Int32) (nx_ : Int32) (hz_ : Int32) (x5 : Int32) (x7 : Int32), f_L_tries_b249 k pl p2 f_ g_ nx_ hz_ x5 x7 = some (r, f', g', nx', hz') → ∀ (H : Heap) (locs : List Loc), va_P D vwCl (wX7 ct a f_ g_ nx_ hz_ sw fl sg pl pa pk pn pf pg) H → va_D A (wX7 ct a f_ g_ nx_ hz_ sw fl sg pl pa pk pn pf pg) → va_S A s.heap H locs → ∀ (ls : Array Slot), lv_has ls 17 [(0, .ref (a 0)), (1, .int p2), (5, .int x5), (7, .int x7)] → W p l e ({ frames := 8, cells := 0, slots := 0, locals := 184 } : Room) s m ([.ref (a 0), .int p2] : List Value).toArray below meth c H locs 0 0 (MQ below (va_Qi (fun r' (_ : Unit) => r' = r) (zQW D (wX7 ct a f g nx hz sw fl sg pl pa pk pn pf pg) s.heap.size (wX7 ct a f' g' nx' hz' sw fl sg pl pa pk pn pf pg)) (va_A (wX7 ct a f g nx hz sw fl sg pl pa pk pn pf pg) s.heap.size)) ([.ref (a 0), .int p2] : List Value).toArray s 0 0 (va_A (wX7 ct a f g nx hz sw fl sg pl pa pk pn pf pg) s.heap.size)) (F0 m 249 ls []) := by
    intro f_ g_ nx_ hz_ x5 x7 h H locs hP hD hS ls hl
    rw [f_L_tries_b249] at h
    refine lv_aload_n hx hb dL_tries_249 rfl (lv_at hl 0 rfl) ?_
    obtain ⟨v44, f45, nx46, hz47, hc, h⟩ := zb4_s h
    refine zG_i (w1 := wX7 ct a f45 g_ nx46 hz47 sw fl sg pl pa pk pn pf pg) (ws' := wX7 ct a f45 g_ nx46 hz47 sw fl sg pl pa pk pn pf pg) hP hD hS hA [0, 1, 2, 3, 4, 5, 6, 7, 8, 9, 10, 11, 12, 13, 14, 15, 16, 17, 18, 19, 20, 21] [] [0, 1, 2, 3, 4, 5, 6, 7, 8, 9, 10, 11, 12, 13, 14, 15, 16, 17, 18, 19, 20, 21] rfl rfl (by decide) (by decide) rfl (by decide) (zrV (C := RX7) (As := []) (rest := []) hx hb hml hown hts tw228 mv_X7_undo ⟨Nat.le_of_ble_eq_true rfl, Nat.le_of_ble_eq_true rfl⟩ rfl rfl (ct_X7_undo l D ct a f_ g_ nx_ hz_ sw fl sg pl pa pk pn pf pg _  k v44 f45 nx46 hz47 hc) (z_wv hK hP hD [0, 1, 2, 3, 4, 5, 6, 7, 8, 9, 10, 11, 12, 13, 14, 15, 16, 17, 18, 19, 20, 21] (by decide) rfl 0 rfl rfl) hl.1 rfl rfl (Nat.le_of_ble_eq_true rfl) dL_tries_250 ⟨Nat.le_refl _, Nat.le_refl _⟩) (fun H locs hP hD hS => ?_)
    refine zi_lt (tgt := 260) hx hb dL_tries_253 (by decide) h (fun h => ?_) (fun h => ?_)
    · exact B260 f45 g_ nx46 hz47 x5 x7 h _ _ hP hD hS ls (lv_sub hl [0, 1, 2, 3] rfl)
    · refine lv_iconst (v := (1 : Int32)) hx hb dL_tries_256 (by decide) ?_
      refine lv_goto (tgt := 261) hx hb dL_tries_257 (by decide) ?_
      exact B261 f45 g_ nx46 hz47 x5 x7 (1 : Int32) h _ _ hP hD hS ls (lv_sub hl [0, 1, 2, 3] rfl)
  have B215 : ∀ (f_ : Nat → Int32) (g_ : Nat → Nat → Int32) (nx_ : Int32) (hz_ : Int32) (x5 : Int32) (x6 : Int32) (x7 : Int32) (y0 : Int32), f_L_tries_b215 k pl p2 f_ g_ nx_ hz_ x5 x6 x7 y0 = some (r, f', g', nx', hz') → ∀ (H : Heap) (locs : List Loc), va_P D vwCl (wX7 ct a f_ g_ nx_ hz_ sw fl sg pl pa pk pn pf pg) H → va_D A (wX7 ct a f_ g_ nx_ hz_ sw fl sg pl pa pk pn pf pg) → va_S A s.heap H locs → ∀ (ls : Array Slot), lv_has ls 17 [(0, .ref (a 0)), (1, .int p2), (5, .int x5), (6, .int x6), (7, .int x7)] → W p l e ({ frames := 8, cells := 0, slots := 0, locals := 184 } : Room) s m ([.ref (a 0), .int p2] : List Value).toArray below meth c H locs 0 0 (MQ below (va_Qi (fun r' (_ : Unit) => r' = r) (zQW D (wX7 ct a f g nx hz sw fl sg pl pa pk pn pf pg) s.heap.size (wX7 ct a f' g' nx' hz' sw fl sg pl pa pk pn pf pg)) (va_A (wX7 ct a f g nx hz sw fl sg pl pa pk pn pf pg) s.heap.size)) ([.ref (a 0), .int p2] : List Value).toArray s 0 0 (va_A (wX7 ct a f g nx hz sw fl sg pl pa pk pn pf pg) s.heap.size)) (F0 m 215 ls [.int y0]) := by
    intro f_ g_ nx_ hz_ x5 x6 x7 y0 h H locs hP hD hS ls hl
    rw [f_L_tries_b215] at h
    refine lv_istore (lv' := [(4, .int y0), (0, .ref (a 0)), (1, .int p2), (5, .int x5), (6, .int x6), (7, .int x7)]) hx hb dL_tries_215 hl (by decide) rfl (fun ls hl => ?_)
    refine lv_iload hx hb dL_tries_217 (lv_at hl 0 rfl) ?_
    refine zi_eq (tgt := 260) hx hb dL_tries_219 (by decide) h (fun h => ?_) (fun h => ?_)
    · exact B260 f_ g_ nx_ hz_ x5 x7 h _ _ hP hD hS ls (lv_sub hl [1, 2, 3, 5] rfl)
    · refine lv_aload_n hx hb dL_tries_222 rfl (lv_at hl 1 rfl) ?_
      refine lv_iload hx hb dL_tries_223 (lv_at hl 4 rfl) ?_
      refine lv_iconst (v := (3 : Int32)) hx hb dL_tries_225 (by decide) ?_
      obtain ⟨v43, hc, h⟩ := zb1_s h
      refine zE_i (zrV (C := RX7) (As := [.int x6, .int (3 : Int32)]) (rest := []) hx hb hml hown hts tw537 mv_X7_ofOrder ⟨Nat.le_of_ble_eq_true rfl, Nat.le_of_ble_eq_true rfl⟩ rfl rfl (ct_X7_ofOrder l D ct a f_ g_ nx_ hz_ sw fl sg pl pa pk pn pf pg x6 (3 : Int32) k v43 hc) (z_pv hK hP [0, 1, 2, 3, 4, 5, 6, 7, 8, 9, 10, 11, 12, 13, 14, 15, 16, 17, 18, 19, 20, 21] rfl 0 rfl rfl) hl.1 rfl rfl (Nat.le_of_ble_eq_true rfl) dL_tries_226 ⟨Nat.le_refl _, Nat.le_refl _⟩) ?_
      refine zi_ne (tgt := 249) hx hb dL_tries_229 (by decide) h (fun h => ?_) (fun h => ?_)
      · exact B249 f_ g_ nx_ hz_ x5 x7 h _ _ hP hD hS ls (lv_sub hl [1, 2, 3, 5] rfl)
      · refine lv_aload_n hx hb dL_tries_232 rfl (lv_at hl 1 rfl) ?_
        refine lv_iload hx hb dL_tries_233 (lv_at hl 4 rfl) ?_
        refine lv_bipush (v := (6 : Int32)) hx hb dL_tries_235 (by decide) ?_
        obtain ⟨v48, hc, h⟩ := zb1_s h
        refine zE_i (zrV (C := RX7) (As := [.int x6, .int (6 : Int32)]) (rest := []) hx hb hml hown hts tw537 mv_X7_ofOrder ⟨Nat.le_of_ble_eq_true rfl, Nat.le_of_ble_eq_true rfl⟩ rfl rfl (ct_X7_ofOrder l D ct a f_ g_ nx_ hz_ sw fl sg pl pa pk pn pf pg x6 (6 : Int32) k v48 hc) (z_pv hK hP [0, 1, 2, 3, 4, 5, 6, 7, 8, 9, 10, 11, 12, 13, 14, 15, 16, 17, 18, 19, 20, 21] rfl 0 rfl rfl) hl.1 rfl rfl (Nat.le_of_ble_eq_true rfl) dL_tries_237 ⟨Nat.le_refl _, Nat.le_refl _⟩) ?_
        refine lv_iload hx hb dL_tries_240 (lv_at hl 3 rfl) ?_
        refine o_ishr hx hb dL_tries_242 h (fun v49 h => ?_)
        refine lv_iconst (v := (1 : Int32)) hx hb dL_tries_243 (by decide) ?_
        refine o_iand hx hb dL_tries_244 h (fun v50 h => ?_)
        refine lv_iconst (v := (1 : Int32)) hx hb dL_tries_245 (by decide) ?_
        refine zc_ne (tgt := 260) hx hb dL_tries_246 (by decide) h (fun h => ?_) (fun h => ?_)
        · exact B260 f_ g_ nx_ hz_ x5 x7 h _ _ hP hD hS ls (lv_sub hl [1, 2, 3, 5] rfl)
        · exact B249 f_ g_ nx_ hz_ x5 x7 h _ _ hP hD hS ls (lv_sub hl [1, 2, 3, 5] rfl)
  have B214 : ∀ (f_ : Nat → Int32) (g_ : Nat → Nat → Int32) (nx_ : Int32) (hz_ : Int32) (x5 : Int32) (x6 : Int32) (x7 : Int32), f_L_tries_b214 k pl p2 f_ g_ nx_ hz_ x5 x6 x7 = some (r, f', g', nx', hz') → ∀ (H : Heap) (locs : List Loc), va_P D vwCl (wX7 ct a f_ g_ nx_ hz_ sw fl sg pl pa pk pn pf pg) H → va_D A (wX7 ct a f_ g_ nx_ hz_ sw fl sg pl pa pk pn pf pg) → va_S A s.heap H locs → ∀ (ls : Array Slot), lv_has ls 17 [(0, .ref (a 0)), (1, .int p2), (5, .int x5), (6, .int x6), (7, .int x7)] → W p l e ({ frames := 8, cells := 0, slots := 0, locals := 184 } : Room) s m ([.ref (a 0), .int p2] : List Value).toArray below meth c H locs 0 0 (MQ below (va_Qi (fun r' (_ : Unit) => r' = r) (zQW D (wX7 ct a f g nx hz sw fl sg pl pa pk pn pf pg) s.heap.size (wX7 ct a f' g' nx' hz' sw fl sg pl pa pk pn pf pg)) (va_A (wX7 ct a f g nx hz sw fl sg pl pa pk pn pf pg) s.heap.size)) ([.ref (a 0), .int p2] : List Value).toArray s 0 0 (va_A (wX7 ct a f g nx hz sw fl sg pl pa pk pn pf pg) s.heap.size)) (F0 m 214 ls []) := by
    intro f_ g_ nx_ hz_ x5 x6 x7 h H locs hP hD hS ls hl
    rw [f_L_tries_b214] at h
    refine lv_iconst (v := (0 : Int32)) hx hb dL_tries_214 (by decide) ?_
    exact B215 f_ g_ nx_ hz_ x5 x6 x7 (0 : Int32) h _ _ hP hD hS ls (lv_sub hl [0, 1, 2, 3, 4] rfl)
  have B65 : ∀ (f_ : Nat → Int32) (g_ : Nat → Nat → Int32) (nx_ : Int32) (hz_ : Int32) (y0 : Int32), f_L_tries_b65 k pl p2 f_ g_ nx_ hz_ y0 = some (r, f', g', nx', hz') → ∀ (H : Heap) (locs : List Loc), va_P D vwCl (wX7 ct a f_ g_ nx_ hz_ sw fl sg pl pa pk pn pf pg) H → va_D A (wX7 ct a f_ g_ nx_ hz_ sw fl sg pl pa pk pn pf pg) → va_S A s.heap H locs → ∀ (ls : Array Slot), lv_has ls 17 [(0, .ref (a 0)), (1, .int p2)] → W p l e ({ frames := 8, cells := 0, slots := 0, locals := 184 } : Room) s m ([.ref (a 0), .int p2] : List Value).toArray below meth c H locs 0 0 (MQ below (va_Qi (fun r' (_ : Unit) => r' = r) (zQW D (wX7 ct a f g nx hz sw fl sg pl pa pk pn pf pg) s.heap.size (wX7 ct a f' g' nx' hz' sw fl sg pl pa pk pn pf pg)) (va_A (wX7 ct a f g nx hz sw fl sg pl pa pk pn pf pg) s.heap.size)) ([.ref (a 0), .int p2] : List Value).toArray s 0 0 (va_A (wX7 ct a f g nx hz sw fl sg pl pa pk pn pf pg) s.heap.size)) (F0 m 65 ls [.int y0]) := by
    intro f_ g_ nx_ hz_ y0 h H locs hP hD hS ls hl
    rw [f_L_tries_b65] at h
    refine lv_istore (lv' := [(4, .int y0), (0, .ref (a 0)), (1, .int p2)]) hx hb dL_tries_65 hl (by decide) rfl (fun ls hl => ?_)
    refine lv_aload_n hx hb dL_tries_67 rfl (lv_at hl 1 rfl) ?_
    refine lv_iconst (v := (1 : Int32)) hx hb dL_tries_68 (by decide) ?_
    obtain ⟨v9, hc, h⟩ := zb1_s h
    refine zE_i (zrV (C := RX7) (As := [.int (1 : Int32)]) (rest := []) hx hb hml hown hts tw152 mv_X7_count ⟨Nat.le_of_ble_eq_true rfl, Nat.le_of_ble_eq_true rfl⟩ rfl rfl (ct_X7_count l D ct a f_ g_ nx_ hz_ sw fl sg pl pa pk pn pf pg (1 : Int32) k v9 hc) (z_pv hK hP [0, 1, 2, 3, 4, 5, 6, 7, 8, 9, 10, 11, 12, 13, 14, 15, 16, 17, 18, 19, 20, 21] rfl 0 rfl rfl) hl.1 rfl rfl (Nat.le_of_ble_eq_true rfl) dL_tries_69 ⟨Nat.le_refl _, Nat.le_refl _⟩) ?_
    refine lv_istore (lv' := [(5, .int v9), (4, .int y0), (0, .ref (a 0)), (1, .int p2)]) hx hb dL_tries_72 hl (by decide) rfl (fun ls hl => ?_)
    refine lv_iload_n hx hb dL_tries_74 rfl (lv_at hl 3 rfl) ?_
    refine lv_aload_n hx hb dL_tries_75 rfl (lv_at hl 2 rfl) ?_
    refine lv_iconst (v := (2 : Int32)) hx hb dL_tries_76 (by decide) ?_
    obtain ⟨v10, hc, h⟩ := zb1_s h
    refine zE_i (zrV (C := RX7) (As := [.int (2 : Int32)]) (rest := [.int p2]) hx hb hml hown hts tw152 mv_X7_count ⟨Nat.le_of_ble_eq_true rfl, Nat.le_of_ble_eq_true rfl⟩ rfl rfl (ct_X7_count l D ct a f_ g_ nx_ hz_ sw fl sg pl pa pk pn pf pg (2 : Int32) k v10 hc) (z_pv hK hP [0, 1, 2, 3, 4, 5, 6, 7, 8, 9, 10, 11, 12, 13, 14, 15, 16, 17, 18, 19, 20, 21] rfl 0 rfl rfl) hl.1 rfl rfl (Nat.le_of_ble_eq_true rfl) dL_tries_77 ⟨Nat.le_refl _, Nat.le_refl _⟩) ?_
    refine lv_iconst (v := (1 : Int32)) hx hb dL_tries_80 (by decide) ?_
    refine o_iadd hx hb dL_tries_81 h (fun v11 h => ?_)
    obtain ⟨v12, hc, h⟩ := zb1_s h
    refine zE_i (zrS (As := [.int p2, .int v11]) (rest := []) hx hb hml hown hts tw254 ms_L_low ⟨Nat.le_of_ble_eq_true rfl, Nat.le_of_ble_eq_true rfl⟩ rfl rfl (ct_L_low l p2 v11 k v12 hc) z_p0 hl.1 rfl rfl (Nat.le_of_ble_eq_true rfl) dL_tries_82 ⟨Nat.le_refl _, Nat.le_refl _⟩) ?_
    refine lv_istore (lv' := [(6, .int v12), (5, .int v9), (4, .int y0), (0, .ref (a 0)), (1, .int p2)]) hx hb dL_tries_85 hl (by decide) rfl (fun ls hl => ?_)
    refine lv_iload_n hx hb dL_tries_87 rfl (lv_at hl 4 rfl) ?_
    refine lv_iconst (v := (4 : Int32)) hx hb dL_tries_88 (by decide) ?_
    refine o_ishr hx hb dL_tries_89 h (fun v13 h => ?_)
    refine lv_iload hx hb dL_tries_90 (lv_at hl 1 rfl) ?_
    refine lv_iconst (v := (1 : Int32)) hx hb dL_tries_92 (by decide) ?_
    refine o_iadd hx hb dL_tries_93 h (fun v14 h => ?_)
    obtain ⟨v15, hc, h⟩ := zb1_s h
    refine zE_i (zrS (As := [.int v13, .int v14]) (rest := []) hx hb hml hown hts tw254 ms_L_low ⟨Nat.le_of_ble_eq_true rfl, Nat.le_of_ble_eq_true rfl⟩ rfl rfl (ct_L_low l v13 v14 k v15 hc) z_p0 hl.1 rfl rfl (Nat.le_of_ble_eq_true rfl) dL_tries_94 ⟨Nat.le_refl _, Nat.le_refl _⟩) ?_
    refine lv_istore (lv' := [(7, .int v15), (6, .int v12), (5, .int v9), (4, .int y0), (0, .ref (a 0)), (1, .int p2)]) hx hb dL_tries_97 hl (by decide) rfl (fun ls hl => ?_)
    refine lv_aload_n hx hb dL_tries_99 rfl (lv_at hl 4 rfl) ?_
    refine lv_iload hx hb dL_tries_100 (lv_at hl 1 rfl) ?_
    refine lv_iload hx hb dL_tries_102 (lv_at hl 0 rfl) ?_
    refine lv_iconst (v := (0 : Int32)) hx hb dL_tries_104 (by decide) ?_
    obtain ⟨v16, hc, h⟩ := zb1_s h
    refine zE_i (zrV (C := RX7) (As := [.int v12, .int v15, .int (0 : Int32)]) (rest := []) hx hb hml hown hts tw585 mv_X7_fittingCut ⟨Nat.le_of_ble_eq_true rfl, Nat.le_of_ble_eq_true rfl⟩ rfl rfl (ct_X7_fittingCut l D ct a f_ g_ nx_ hz_ sw fl sg pl pa pk pn pf pg v12 v15 (0 : Int32) k v16 hc) (z_pv hK hP [0, 1, 2, 3, 4, 5, 6, 7, 8, 9, 10, 11, 12, 13, 14, 15, 16, 17, 18, 19, 20, 21] rfl 0 rfl rfl) hl.1 rfl rfl (Nat.le_of_ble_eq_true rfl) dL_tries_105 ⟨Nat.le_refl _, Nat.le_refl _⟩) ?_
    refine lv_istore (lv' := [(8, .int v16), (7, .int v15), (6, .int v12), (5, .int v9), (4, .int y0), (0, .ref (a 0)), (1, .int p2)]) hx hb dL_tries_108 hl (by decide) rfl (fun ls hl => ?_)
    refine lv_aload_n hx hb dL_tries_110 rfl (lv_at hl 5 rfl) ?_
    refine lv_iload hx hb dL_tries_111 (lv_at hl 2 rfl) ?_
    refine lv_iload hx hb dL_tries_113 (lv_at hl 1 rfl) ?_
    refine lv_iconst (v := (1 : Int32)) hx hb dL_tries_115 (by decide) ?_
    obtain ⟨v17, hc, h⟩ := zb1_s h
    refine zE_i (zrV (C := RX7) (As := [.int v12, .int v15, .int (1 : Int32)]) (rest := []) hx hb hml hown hts tw585 mv_X7_fittingCut ⟨Nat.le_of_ble_eq_true rfl, Nat.le_of_ble_eq_true rfl⟩ rfl rfl (ct_X7_fittingCut l D ct a f_ g_ nx_ hz_ sw fl sg pl pa pk pn pf pg v12 v15 (1 : Int32) k v17 hc) (z_pv hK hP [0, 1, 2, 3, 4, 5, 6, 7, 8, 9, 10, 11, 12, 13, 14, 15, 16, 17, 18, 19, 20, 21] rfl 0 rfl rfl) hl.1 rfl rfl (Nat.le_of_ble_eq_true rfl) dL_tries_116 ⟨Nat.le_refl _, Nat.le_refl _⟩) ?_
    refine lv_istore (lv' := [(9, .int v17), (8, .int v16), (7, .int v15), (6, .int v12), (5, .int v9), (4, .int y0), (0, .ref (a 0)), (1, .int p2)]) hx hb dL_tries_119 hl (by decide) rfl (fun ls hl => ?_)
    refine lv_iload hx hb dL_tries_121 (lv_at hl 5 rfl) ?_
    refine zi_eq (tgt := 263) hx hb dL_tries_123 (by decide) h (fun h => ?_) (fun h => ?_)
    · exact B263 f_ g_ nx_ hz_ y0 v9 v15 h _ _ hP hD hS ls (lv_sub hl [6, 7, 5, 4, 2] rfl)
    · refine lv_iload hx hb dL_tries_126 (lv_at hl 1 rfl) ?_
      refine zi_lt (tgt := 263) hx hb dL_tries_128 (by decide) h (fun h => ?_) (fun h => ?_)
      · exact B263 f_ g_ nx_ hz_ y0 v9 v15 h _ _ hP hD hS ls (lv_sub hl [6, 7, 5, 4, 2] rfl)
      · refine lv_iload hx hb dL_tries_131 (lv_at hl 4 rfl) ?_
        refine lv_bipush (v := (22 : Int32)) hx hb dL_tries_133 (by decide) ?_
        refine zc_gt (tgt := 263) hx hb dL_tries_135 (by decide) h (fun h => ?_) (fun h => ?_)
        · exact B263 f_ g_ nx_ hz_ y0 v9 v15 h _ _ hP hD hS ls (lv_sub hl [6, 7, 5, 4, 2] rfl)
        · refine lv_aload_n hx hb dL_tries_138 rfl (lv_at hl 6 rfl) ?_
          refine lv_iload hx hb dL_tries_139 (lv_at hl 2 rfl) ?_
          refine lv_iload hx hb dL_tries_141 (lv_at hl 1 rfl) ?_
          refine lv_iload hx hb dL_tries_143 (lv_at hl 0 rfl) ?_
          obtain ⟨v38, f39, g40, nx41, hz42, hc, h⟩ := zb5_s h
          refine zG_i (w1 := wX7 ct a f39 g40 nx41 hz42 sw fl sg pl pa pk pn pf pg) (ws' := wX7 ct a f39 g40 nx41 hz42 sw fl sg pl pa pk pn pf pg) hP hD hS hA [0, 1, 2, 3, 4, 5, 6, 7, 8, 9, 10, 11, 12, 13, 14, 15, 16, 17, 18, 19, 20, 21] [] [0, 1, 2, 3, 4, 5, 6, 7, 8, 9, 10, 11, 12, 13, 14, 15, 16, 17, 18, 19, 20, 21] rfl rfl (by decide) (by decide) rfl (by decide) (zrV (C := RX7) (As := [.int v15, .int v16, .int v17]) (rest := []) hx hb hml hown hts tw297 mv_X7_cut ⟨Nat.le_of_ble_eq_true rfl, Nat.le_of_ble_eq_true rfl⟩ rfl rfl (ct_X7_cut l D ct a f_ g_ nx_ hz_ sw fl sg pl pa pk pn pf pg _ v15 v16 v17 k v38 f39 g40 nx41 hz42 hc) (z_wv hK hP hD [0, 1, 2, 3, 4, 5, 6, 7, 8, 9, 10, 11, 12, 13, 14, 15, 16, 17, 18, 19, 20, 21] (by decide) rfl 0 rfl rfl) hl.1 rfl rfl (Nat.le_of_ble_eq_true rfl) dL_tries_145 ⟨Nat.le_refl _, Nat.le_refl _⟩) (fun H locs hP hD hS => ?_)
          refine lv_iload hx hb dL_tries_148 (lv_at hl 4 rfl) ?_
          refine zc_ne (tgt := 214) hx hb dL_tries_150 (by decide) h (fun h => ?_) (fun h => ?_)
          · exact B214 f39 g40 nx41 hz42 v9 v12 v15 h _ _ hP hD hS ls (lv_sub hl [6, 7, 4, 3, 2] rfl)
          · refine lv_aload_n hx hb dL_tries_153 rfl (lv_at hl 6 rfl) ?_
            refine lv_iload hx hb dL_tries_154 (lv_at hl 4 rfl) ?_
            refine lv_iload hx hb dL_tries_156 (lv_at hl 1 rfl) ?_
            obtain ⟨v51, hc, h⟩ := zb1_s h
            refine zE_i (zrV (C := RX7) (As := [.int v9, .int v16]) (rest := []) hx hb hml hown hts tw363 mv_X7_of ⟨Nat.le_of_ble_eq_true rfl, Nat.le_of_ble_eq_true rfl⟩ rfl rfl (ct_X7_of l D ct a f39 g40 nx41 hz42 sw fl sg pl pa pk pn pf pg v9 v16 k v51 hc) (z_pv hK hP [0, 1, 2, 3, 4, 5, 6, 7, 8, 9, 10, 11, 12, 13, 14, 15, 16, 17, 18, 19, 20, 21] rfl 0 rfl rfl) hl.1 rfl rfl (Nat.le_of_ble_eq_true rfl) dL_tries_158 ⟨Nat.le_refl _, Nat.le_refl _⟩) ?_
            refine lv_iload hx hb dL_tries_161 (lv_at hl 0 rfl) ?_
            refine zc_ne (tgt := 214) hx hb dL_tries_163 (by decide) h (fun h => ?_) (fun h => ?_)
            · exact B214 f39 g40 nx41 hz42 v9 v12 v15 h _ _ hP hD hS ls (lv_sub hl [6, 7, 4, 3, 2] rfl)
            · refine lv_aload_n hx hb dL_tries_166 rfl (lv_at hl 6 rfl) ?_
              refine lv_iload hx hb dL_tries_167 (lv_at hl 4 rfl) ?_
              refine lv_iconst (v := (1 : Int32)) hx hb dL_tries_169 (by decide) ?_
              refine o_iadd hx hb dL_tries_170 h (fun v52 h => ?_)
              refine lv_iload hx hb dL_tries_171 (lv_at hl 1 rfl) ?_
              obtain ⟨v53, hc, h⟩ := zb1_s h
              refine zE_i (zrV (C := RX7) (As := [.int v52, .int v16]) (rest := []) hx hb hml hown hts tw363 mv_X7_of ⟨Nat.le_of_ble_eq_true rfl, Nat.le_of_ble_eq_true rfl⟩ rfl rfl (ct_X7_of l D ct a f39 g40 nx41 hz42 sw fl sg pl pa pk pn pf pg v52 v16 k v53 hc) (z_pv hK hP [0, 1, 2, 3, 4, 5, 6, 7, 8, 9, 10, 11, 12, 13, 14, 15, 16, 17, 18, 19, 20, 21] rfl 0 rfl rfl) hl.1 rfl rfl (Nat.le_of_ble_eq_true rfl) dL_tries_173 ⟨Nat.le_refl _, Nat.le_refl _⟩) ?_
              refine lv_aload_n hx hb dL_tries_176 rfl (lv_at hl 6 rfl) ?_
              refine lv_iload hx hb dL_tries_177 (lv_at hl 2 rfl) ?_
              refine lv_iload hx hb dL_tries_179 (lv_at hl 1 rfl) ?_
              obtain ⟨v54, hc, h⟩ := zb1_s h
              refine zE_i (zrV (C := RX7) (As := [.int v15, .int v16]) (rest := [.int v53]) hx hb hml hown hts tw363 mv_X7_of ⟨Nat.le_of_ble_eq_true rfl, Nat.le_of_ble_eq_true rfl⟩ rfl rfl (ct_X7_of l D ct a f39 g40 nx41 hz42 sw fl sg pl pa pk pn pf pg v15 v16 k v54 hc) (z_pv hK hP [0, 1, 2, 3, 4, 5, 6, 7, 8, 9, 10, 11, 12, 13, 14, 15, 16, 17, 18, 19, 20, 21] rfl 0 rfl rfl) hl.1 rfl rfl (Nat.le_of_ble_eq_true rfl) dL_tries_181 ⟨Nat.le_refl _, Nat.le_refl _⟩) ?_
              refine lv_iload hx hb dL_tries_184 (lv_at hl 0 rfl) ?_
              refine o_isub hx hb dL_tries_186 h (fun v55 h => ?_)
              refine lv_aload_n hx hb dL_tries_187 rfl (lv_at hl 6 rfl) ?_
              refine lv_bipush (v := (12 : Int32)) hx hb dL_tries_188 (by decide) ?_
              obtain ⟨v56, hc, h⟩ := zb1_s h
              refine zE_i (zrV (C := RX7) (As := [.int (12 : Int32)]) (rest := [.int v55, .int v53]) hx hb hml hown hts tw152 mv_X7_count ⟨Nat.le_of_ble_eq_true rfl, Nat.le_of_ble_eq_true rfl⟩ rfl rfl (ct_X7_count l D ct a f39 g40 nx41 hz42 sw fl sg pl pa pk pn pf pg (12 : Int32) k v56 hc) (z_pv hK hP [0, 1, 2, 3, 4, 5, 6, 7, 8, 9, 10, 11, 12, 13, 14, 15, 16, 17, 18, 19, 20, 21] rfl 0 rfl rfl) hl.1 rfl rfl (Nat.le_of_ble_eq_true rfl) dL_tries_190 ⟨Nat.le_refl _, Nat.le_refl _⟩) ?_
              refine o_isub hx hb dL_tries_193 h (fun v57 h => ?_)
              refine zc_ne (tgt := 214) hx hb dL_tries_194 (by decide) h (fun h => ?_) (fun h => ?_)
              · exact B214 f39 g40 nx41 hz42 v9 v12 v15 h _ _ hP hD hS ls (lv_sub hl [6, 7, 4, 3, 2] rfl)
              · refine lv_aload_n hx hb dL_tries_197 rfl (lv_at hl 6 rfl) ?_
                refine lv_iload hx hb dL_tries_198 (lv_at hl 4 rfl) ?_
                refine lv_bipush (v := (10 : Int32)) hx hb dL_tries_200 (by decide) ?_
                obtain ⟨v58, hc, h⟩ := zb1_s h
                refine zE_i (zrV (C := RX7) (As := [.int v9, .int (10 : Int32)]) (rest := []) hx hb hml hown hts tw363 mv_X7_of ⟨Nat.le_of_ble_eq_true rfl, Nat.le_of_ble_eq_true rfl⟩ rfl rfl (ct_X7_of l D ct a f39 g40 nx41 hz42 sw fl sg pl pa pk pn pf pg v9 (10 : Int32) k v58 hc) (z_pv hK hP [0, 1, 2, 3, 4, 5, 6, 7, 8, 9, 10, 11, 12, 13, 14, 15, 16, 17, 18, 19, 20, 21] rfl 0 rfl rfl) hl.1 rfl rfl (Nat.le_of_ble_eq_true rfl) dL_tries_202 ⟨Nat.le_refl _, Nat.le_refl _⟩) ?_
                refine lv_iload hx hb dL_tries_205 (lv_at hl 2 rfl) ?_
                refine zc_ne (tgt := 214) hx hb dL_tries_207 (by decide) h (fun h => ?_) (fun h => ?_)
                · exact B214 f39 g40 nx41 hz42 v9 v12 v15 h _ _ hP hD hS ls (lv_sub hl [6, 7, 4, 3, 2] rfl)
                · refine lv_iconst (v := (1 : Int32)) hx hb dL_tries_210 (by decide) ?_
                  refine lv_goto (tgt := 215) hx hb dL_tries_211 (by decide) ?_
                  exact B215 f39 g40 nx41 hz42 v9 v12 v15 (1 : Int32) h _ _ hP hD hS ls (lv_sub hl [6, 7, 4, 3, 2] rfl)
  have B64 : ∀ (f_ : Nat → Int32) (g_ : Nat → Nat → Int32) (nx_ : Int32) (hz_ : Int32), f_L_tries_b64 k pl p2 f_ g_ nx_ hz_ = some (r, f', g', nx', hz') → ∀ (H : Heap) (locs : List Loc), va_P D vwCl (wX7 ct a f_ g_ nx_ hz_ sw fl sg pl pa pk pn pf pg) H → va_D A (wX7 ct a f_ g_ nx_ hz_ sw fl sg pl pa pk pn pf pg) → va_S A s.heap H locs → ∀ (ls : Array Slot), lv_has ls 17 [(0, .ref (a 0)), (1, .int p2)] → W p l e ({ frames := 8, cells := 0, slots := 0, locals := 184 } : Room) s m ([.ref (a 0), .int p2] : List Value).toArray below meth c H locs 0 0 (MQ below (va_Qi (fun r' (_ : Unit) => r' = r) (zQW D (wX7 ct a f g nx hz sw fl sg pl pa pk pn pf pg) s.heap.size (wX7 ct a f' g' nx' hz' sw fl sg pl pa pk pn pf pg)) (va_A (wX7 ct a f g nx hz sw fl sg pl pa pk pn pf pg) s.heap.size)) ([.ref (a 0), .int p2] : List Value).toArray s 0 0 (va_A (wX7 ct a f g nx hz sw fl sg pl pa pk pn pf pg) s.heap.size)) (F0 m 64 ls []) := by
    intro f_ g_ nx_ hz_ h H locs hP hD hS ls hl
    rw [f_L_tries_b64] at h
    refine lv_iconst (v := (0 : Int32)) hx hb dL_tries_64 (by decide) ?_
    exact B65 f_ g_ nx_ hz_ (0 : Int32) h _ _ hP hD hS ls (lv_sub hl [0, 1] rfl)
  rw [f_L_tries] at h
  refine lv_aload_n hx hb dL_tries_0 rfl (lv_at hl 0 rfl) ?_
  obtain ⟨v1, hc, h⟩ := zb1_s h
  refine zE_i (zrV (C := RX7) (As := []) (rest := []) hx hb hml hown hts tw548 mv_X7_ifFrost ⟨Nat.le_of_ble_eq_true rfl, Nat.le_of_ble_eq_true rfl⟩ rfl rfl (ct_X7_ifFrost l D ct a f g nx hz sw fl sg pl pa pk pn pf pg k v1 hc) (z_pv hK hP [0, 1, 2, 3, 4, 5, 6, 7, 8, 9, 10, 11, 12, 13, 14, 15, 16, 17, 18, 19, 20, 21] rfl 0 rfl rfl) hl.1 rfl rfl (Nat.le_of_ble_eq_true rfl) dL_tries_1 ⟨Nat.le_refl _, Nat.le_refl _⟩) ?_
  refine lv_istore_n (lv' := [(2, .int v1), (0, .ref (a 0)), (1, .int p2)]) hx hb dL_tries_4 rfl hl (by decide) rfl (fun ls hl => ?_)
  refine lv_aload_n hx hb dL_tries_5 rfl (lv_at hl 1 rfl) ?_
  refine lv_iconst (v := (5 : Int32)) hx hb dL_tries_6 (by decide) ?_
  obtain ⟨v2, hc, h⟩ := zb1_s h
  refine zE_i (zrV (C := RX7) (As := [.int (5 : Int32)]) (rest := []) hx hb hml hown hts tw152 mv_X7_count ⟨Nat.le_of_ble_eq_true rfl, Nat.le_of_ble_eq_true rfl⟩ rfl rfl (ct_X7_count l D ct a f g nx hz sw fl sg pl pa pk pn pf pg (5 : Int32) k v2 hc) (z_pv hK hP [0, 1, 2, 3, 4, 5, 6, 7, 8, 9, 10, 11, 12, 13, 14, 15, 16, 17, 18, 19, 20, 21] rfl 0 rfl rfl) hl.1 rfl rfl (Nat.le_of_ble_eq_true rfl) dL_tries_7 ⟨Nat.le_refl _, Nat.le_refl _⟩) ?_
  refine lv_istore_n (lv' := [(3, .int v2), (2, .int v1), (0, .ref (a 0)), (1, .int p2)]) hx hb dL_tries_10 rfl hl (by decide) rfl (fun ls hl => ?_)
  refine lv_aload_n hx hb dL_tries_11 rfl (lv_at hl 2 rfl) ?_
  refine lv_bipush (v := (-40 : Int32)) hx hb dL_tries_12 (by decide) ?_
  obtain ⟨v3, f4, g5, nx6, hz7, hc, h⟩ := zb5_s h
  refine zG_i (w1 := wX7 ct a f4 g5 nx6 hz7 sw fl sg pl pa pk pn pf pg) (ws' := wX7 ct a f4 g5 nx6 hz7 sw fl sg pl pa pk pn pf pg) hP hD hS hA [0, 1, 2, 3, 4, 5, 6, 7, 8, 9, 10, 11, 12, 13, 14, 15, 16, 17, 18, 19, 20, 21] [] [0, 1, 2, 3, 4, 5, 6, 7, 8, 9, 10, 11, 12, 13, 14, 15, 16, 17, 18, 19, 20, 21] rfl rfl (by decide) (by decide) rfl (by decide) (zrV (C := RX7) (As := [.int (-40 : Int32)]) (rest := []) hx hb hml hown hts tw483 mv_X7_night ⟨Nat.le_of_ble_eq_true rfl, Nat.le_of_ble_eq_true rfl⟩ rfl rfl (ct_X7_night l D ct a f g nx hz sw fl sg pl pa pk pn pf pg _ (-40 : Int32) k v3 f4 g5 nx6 hz7 hc) (z_wv hK hP hD [0, 1, 2, 3, 4, 5, 6, 7, 8, 9, 10, 11, 12, 13, 14, 15, 16, 17, 18, 19, 20, 21] (by decide) rfl 0 rfl rfl) hl.1 rfl rfl (Nat.le_of_ble_eq_true rfl) dL_tries_14 ⟨Nat.le_refl _, Nat.le_refl _⟩) (fun H locs hP hD hS => ?_)
  refine lv_iload_n hx hb dL_tries_17 rfl (lv_at hl 1 rfl) ?_
  obtain ⟨v8, hc, h⟩ := zb1_s h
  refine zE_i (zrS (As := [.int v1]) (rest := [.int v3]) hx hb hml hown hts tw579 ms_L_bits ⟨Nat.le_of_ble_eq_true rfl, Nat.le_of_ble_eq_true rfl⟩ rfl rfl (ct_L_bits l v1 k v8 hc) z_p0 hl.1 rfl rfl (Nat.le_of_ble_eq_true rfl) dL_tries_18 ⟨Nat.le_refl _, Nat.le_refl _⟩) ?_
  refine zc_ne (tgt := 64) hx hb dL_tries_21 (by decide) h (fun h => ?_) (fun h => ?_)
  · exact B64 f4 g5 nx6 hz7 h _ _ hP hD hS ls (lv_sub hl [2, 3] rfl)
  · refine lv_aload_n hx hb dL_tries_24 rfl (lv_at hl 2 rfl) ?_
    refine lv_iconst (v := (5 : Int32)) hx hb dL_tries_25 (by decide) ?_
    obtain ⟨v59, hc, h⟩ := zb1_s h
    refine zE_i (zrV (C := RX7) (As := [.int (5 : Int32)]) (rest := []) hx hb hml hown hts tw152 mv_X7_count ⟨Nat.le_of_ble_eq_true rfl, Nat.le_of_ble_eq_true rfl⟩ rfl rfl (ct_X7_count l D ct a f4 g5 nx6 hz7 sw fl sg pl pa pk pn pf pg (5 : Int32) k v59 hc) (z_pv hK hP [0, 1, 2, 3, 4, 5, 6, 7, 8, 9, 10, 11, 12, 13, 14, 15, 16, 17, 18, 19, 20, 21] rfl 0 rfl rfl) hl.1 rfl rfl (Nat.le_of_ble_eq_true rfl) dL_tries_26 ⟨Nat.le_refl _, Nat.le_refl _⟩) ?_
    refine lv_iload_n hx hb dL_tries_29 rfl (lv_at hl 0 rfl) ?_
    refine lv_iload_n hx hb dL_tries_30 rfl (lv_at hl 1 rfl) ?_
    refine o_ior hx hb dL_tries_31 h (fun v60 h => ?_)
    refine zc_ne (tgt := 64) hx hb dL_tries_32 (by decide) h (fun h => ?_) (fun h => ?_)
    · exact B64 f4 g5 nx6 hz7 h _ _ hP hD hS ls (lv_sub hl [2, 3] rfl)
    · refine lv_aload_n hx hb dL_tries_35 rfl (lv_at hl 2 rfl) ?_
      refine lv_iconst (v := (3 : Int32)) hx hb dL_tries_36 (by decide) ?_
      obtain ⟨v61, hc, h⟩ := zb1_s h
      refine zE_i (zrV (C := RX7) (As := [.int (3 : Int32)]) (rest := []) hx hb hml hown hts tw152 mv_X7_count ⟨Nat.le_of_ble_eq_true rfl, Nat.le_of_ble_eq_true rfl⟩ rfl rfl (ct_X7_count l D ct a f4 g5 nx6 hz7 sw fl sg pl pa pk pn pf pg (3 : Int32) k v61 hc) (z_pv hK hP [0, 1, 2, 3, 4, 5, 6, 7, 8, 9, 10, 11, 12, 13, 14, 15, 16, 17, 18, 19, 20, 21] rfl 0 rfl rfl) hl.1 rfl rfl (Nat.le_of_ble_eq_true rfl) dL_tries_37 ⟨Nat.le_refl _, Nat.le_refl _⟩) ?_
      refine lv_iconst (v := (1 : Int32)) hx hb dL_tries_40 (by decide) ?_
      refine zc_ne (tgt := 64) hx hb dL_tries_41 (by decide) h (fun h => ?_) (fun h => ?_)
      · exact B64 f4 g5 nx6 hz7 h _ _ hP hD hS ls (lv_sub hl [2, 3] rfl)
      · refine lv_aload_n hx hb dL_tries_44 rfl (lv_at hl 2 rfl) ?_
        obtain ⟨v62, f63, nx64, hz65, hc, h⟩ := zb4_s h
        refine zG_i (w1 := wX7 ct a f63 g5 nx64 hz65 sw fl sg pl pa pk pn pf pg) (ws' := wX7 ct a f63 g5 nx64 hz65 sw fl sg pl pa pk pn pf pg) hP hD hS hA [0, 1, 2, 3, 4, 5, 6, 7, 8, 9, 10, 11, 12, 13, 14, 15, 16, 17, 18, 19, 20, 21] [] [0, 1, 2, 3, 4, 5, 6, 7, 8, 9, 10, 11, 12, 13, 14, 15, 16, 17, 18, 19, 20, 21] rfl rfl (by decide) (by decide) rfl (by decide) (zrV (C := RX7) (As := []) (rest := []) hx hb hml hown hts tw228 mv_X7_undo ⟨Nat.le_of_ble_eq_true rfl, Nat.le_of_ble_eq_true rfl⟩ rfl rfl (ct_X7_undo l D ct a f4 g5 nx6 hz7 sw fl sg pl pa pk pn pf pg _  k v62 f63 nx64 hz65 hc) (z_wv hK hP hD [0, 1, 2, 3, 4, 5, 6, 7, 8, 9, 10, 11, 12, 13, 14, 15, 16, 17, 18, 19, 20, 21] (by decide) rfl 0 rfl rfl) hl.1 rfl rfl (Nat.le_of_ble_eq_true rfl) dL_tries_45 ⟨Nat.le_refl _, Nat.le_refl _⟩) (fun H locs hP hD hS => ?_)
        refine zi_lt (tgt := 64) hx hb dL_tries_48 (by decide) h (fun h => ?_) (fun h => ?_)
        · exact B64 f63 g5 nx64 hz65 h _ _ hP hD hS ls (lv_sub hl [2, 3] rfl)
        · refine lv_aload_n hx hb dL_tries_51 rfl (lv_at hl 2 rfl) ?_
          refine lv_iconst (v := (5 : Int32)) hx hb dL_tries_52 (by decide) ?_
          obtain ⟨v66, hc, h⟩ := zb1_s h
          refine zE_i (zrV (C := RX7) (As := [.int (5 : Int32)]) (rest := []) hx hb hml hown hts tw152 mv_X7_count ⟨Nat.le_of_ble_eq_true rfl, Nat.le_of_ble_eq_true rfl⟩ rfl rfl (ct_X7_count l D ct a f63 g5 nx64 hz65 sw fl sg pl pa pk pn pf pg (5 : Int32) k v66 hc) (z_pv hK hP [0, 1, 2, 3, 4, 5, 6, 7, 8, 9, 10, 11, 12, 13, 14, 15, 16, 17, 18, 19, 20, 21] rfl 0 rfl rfl) hl.1 rfl rfl (Nat.le_of_ble_eq_true rfl) dL_tries_53 ⟨Nat.le_refl _, Nat.le_refl _⟩) ?_
          refine lv_iload_n hx hb dL_tries_56 rfl (lv_at hl 0 rfl) ?_
          refine zc_ne (tgt := 64) hx hb dL_tries_57 (by decide) h (fun h => ?_) (fun h => ?_)
          · exact B64 f63 g5 nx64 hz65 h _ _ hP hD hS ls (lv_sub hl [2, 3] rfl)
          · refine lv_iconst (v := (1 : Int32)) hx hb dL_tries_60 (by decide) ?_
            refine lv_goto (tgt := 65) hx hb dL_tries_61 (by decide) ?_
            exact B65 f63 g5 nx64 hz65 (1 : Int32) h _ _ hP hD hS ls (lv_sub hl [2, 3] rfl)

