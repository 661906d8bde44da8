/-! written by wip/p32/gen.py: each method as a function, and its contract -/
def f_L_low (k : Nat) (p1 : Int32) (p2 : Int32) : Option (Int32) :=
  zl (p1 &&& (2147483647 : Int32)) fun v1 =>
  zg (znz p2) (zl (v1 - v1 / p2 * p2) fun v2 =>
  some v2)
set_option maxRecDepth 100000 in
set_option maxHeartbeats 4000000 in
theorem ct_L_low (l : Launch) (p1 : Int32) (p2 : Int32) (k : Nat) (r : Int32) (h : f_L_low k p1 p2 = some r) : Met l yL_low (Cond.code yL_low cL_low 2 (some .int) :: zT) ({ frames := 0, cells := 0, slots := 0, locals := 0 } : Room) (va_Pc [.int p1, .int p2] (fun _ => True)) (vp_Si (fun r' => r' = r)) 0 0 (fun _ => False) := by
  refine zMet (cc := cL_low) (maxL := 2) (ret := (some .int)) (av := [.int p1, .int p2]) (by decide) (Nat.le_of_ble_eq_true rfl) (fun p e s m below meth c ls hx hb hr hml hts hown hlocks hin hB hl => ?_)
  have hl : lv_has ls 2 [(0, .int p1), (1, .int p2)] := hl
  have hown : s.vm.findClass RL = some m.cls := hown
  rw [f_L_low] at h
  refine lv_iload_n hx hb dL_low_0 rfl (lv_at hl 0 rfl) ?_
  refine lv_ldc (v := (2147483647 : Int32)) hx hb hown (hts _ (List.mem_cons_of_mem _ tw257)) dL_low_1 ?_
  refine o_iand hx hb dL_low_3 h (fun v1 h => ?_)
  refine lv_iload_n hx hb dL_low_4 rfl (lv_at hl 1 rfl) ?_
  obtain ⟨hz, h⟩ := zg_s h
  refine o_irem hx hb dL_low_5 (of_decide_eq_true hz) h (fun v2 h => ?_)
  exact zR_i hx hb hr hlocks dL_low_6 h

def f_L_change_b124 (k : Nat) (pl : Int32) (p2 : Int32) (p3 : Int32) (p4 : Int32)  (f_ : Nat → Int32) (g_ : Nat → Nat → Int32) (nx_ : Int32) (hz_ : Int32) : Option (Int32 × (Nat → Int32) × (Nat → Nat → Int32) × Int32 × Int32) :=
  zb1 (f_L_low k p3 (120 : Int32)) fun v8 =>
  zl ((50 : Int32) + v8) fun v9 =>
  zl (p3 >>> ((7 : Int32) &&& 31)) fun v10 =>
  zb1 (f_L_low k v10 (90 : Int32)) fun v11 =>
  zl ((40 : Int32) + v11) fun v12 =>
  zb1 (f_L_low k p4 (60 : Int32)) fun v13 =>
  zl ((30 : Int32) + v13) fun v14 =>
  zl (p4 >>> ((8 : Int32) &&& 31)) fun v15 =>
  zb1 (f_L_low k v15 (12 : Int32)) fun v16 =>
  zl ((20 : Int32) + v16) fun v17 =>
  zb5 (f_X7_quarry k f_ g_ nx_ hz_ v9 v12 v14 v17) fun v18 f19 g20 nx21 hz22 =>
  some (v18, f19, g20, nx21, hz22)
def f_L_change_b171 (k : Nat) (pl : Int32) (p2 : Int32) (p3 : Int32) (p4 : Int32)  (f_ : Nat → Int32) (g_ : Nat → Nat → Int32) (nx_ : Int32) (hz_ : Int32) (x4 : Int32) : Option (Int32 × (Nat → Int32) × (Nat → Nat → Int32) × Int32 × Int32) :=
  zb1 (f_L_low k p4 (3 : Int32)) fun v23 =>
  zl (p4 >>> ((2 : Int32) &&& 31)) fun v24 =>
  zb1 (f_L_low k v24 (120 : Int32)) fun v25 =>
  zl ((1 : Int32) + v25) fun v26 =>
  zb5 (f_X7_cut k f_ g_ nx_ hz_ x4 v23 v26) fun v27 f28 g29 nx30 hz31 =>
  some (v27, f28, g29, nx30, hz31)
def f_L_change_b193 (k : Nat) (pl : Int32) (p2 : Int32) (p3 : Int32) (p4 : Int32)  (f_ : Nat → Int32) (g_ : Nat → Nat → Int32) (nx_ : Int32) (hz_ : Int32) (x4 : Int32) : Option (Int32 × (Nat → Int32) × (Nat → Nat → Int32) × Int32 × Int32) :=
  zb5 (f_X7_shelter k f_ g_ nx_ hz_ x4) fun v32 f33 g34 nx35 hz36 =>
  some (v32, f33, g34, nx35, hz36)
def f_L_change_b293 (k : Nat) (pl : Int32) (p2 : Int32) (p3 : Int32) (p4 : Int32)  (f_ : Nat → Int32) (g_ : Nat → Nat → Int32) (nx_ : Int32) (hz_ : Int32) (x5 : Int32) : Option (Int32 × (Nat → Int32) × (Nat → Nat → Int32) × Int32 × Int32) :=
  zb1 (f_X7_count k f_ hz_ pl (1 : Int32)) fun v67 =>
  zl (v67 + (1 : Int32)) fun v68 =>
  zb1 (f_L_low k p4 v68) fun v69 =>
  zb5 (f_X7_give k f_ g_ nx_ hz_ x5 v69) fun v70 f71 g72 nx73 hz74 =>
  some (v70, f71, g72, nx73, hz74)
def f_L_change_b363 (k : Nat) (pl : Int32) (p2 : Int32) (p3 : Int32) (p4 : Int32)  (f_ : Nat → Int32) (g_ : Nat → Nat → Int32) (nx_ : Int32) (hz_ : Int32) (x4 : Int32) : Option (Int32 × (Nat → Int32) × (Nat → Nat → Int32) × Int32 × Int32) :=
  zb1 (f_L_low k p4 (3 : Int32)) fun v94 =>
  zl (p4 >>> ((4 : Int32) &&& 31)) fun v95 =>
  zb1 (f_L_low k v95 (6 : Int32)) fun v96 =>
  zb5 (f_X7_load k f_ g_ nx_ hz_ x4 v94 v96) fun v97 f98 g99 nx100 hz101 =>
  some (v97, f98, g99, nx100, hz101)
def f_L_change_b400 (k : Nat) (pl : Int32) (p2 : Int32) (p3 : Int32) (p4 : Int32)  (f_ : Nat → Int32) (g_ : Nat → Nat → Int32) (nx_ : Int32) (hz_ : Int32) : Option (Int32 × (Nat → Int32) × (Nat → Nat → Int32) × Int32 × Int32) :=
  zb1 (f_L_low k p3 (82 : Int32)) fun v113 =>
  zl (v113 - (41 : Int32)) fun v114 =>
  zb5 (f_X7_night k f_ g_ nx_ hz_ v114) fun v115 f116 g117 nx118 hz119 =>
  some (v115, f116, g117, nx118, hz119)
def f_L_change (k : Nat) (f : Nat → Int32) (g : Nat → Nat → Int32) (nx : Int32) (hz : Int32) (pl : Int32) (p2 : Int32) (p3 : Int32) (p4 : Int32) : Option (Int32 × (Nat → Int32) × (Nat → Nat → Int32) × Int32 × Int32) :=
  zb1 (f_X7_count k f hz pl (1 : Int32)) fun v1 =>
  zl (v1 + (1 : Int32)) fun v2 =>
  zb1 (f_L_low k p3 v2) fun v3 =>
  zl (p3 >>> ((5 : Int32) &&& 31)) fun v4 =>
  zb1 (f_X7_count k f hz pl (2 : Int32)) fun v5 =>
  zl (v5 + (1 : Int32)) fun v6 =>
  zb1 (f_L_low k v4 v6) fun v7 =>
  if p2 = (0 : Int32) then
    f_L_change_b124 k pl p2 p3 p4 f g nx hz
  else
  if p2 = (1 : Int32) then
    f_L_change_b124 k pl p2 p3 p4 f g nx hz
  else
  if p2 = (2 : Int32) then
    f_L_change_b124 k pl p2 p3 p4 f g nx hz
  else
  if p2 = (3 : Int32) then
    f_L_change_b171 k pl p2 p3 p4 f g nx hz v3
  else
  if p2 = (4 : Int32) then
    f_L_change_b171 k pl p2 p3 p4 f g nx hz v3
  else
  if p2 = (5 : Int32) then
    f_L_change_b171 k pl p2 p3 p4 f g nx hz v3
  else
  if p2 = (6 : Int32) then
    f_L_change_b193 k pl p2 p3 p4 f g nx hz v3
  else
  if p2 = (7 : Int32) then
    f_L_change_b193 k pl p2 p3 p4 f g nx hz v3
  else
  if p2 = (8 : Int32) then
    zb1 (f_L_low k p3 (60 : Int32)) fun v37 =>
    zl ((40 : Int32) + v37) fun v38 =>
    zl (p3 >>> ((8 : Int32) &&& 31)) fun v39 =>
    zb1 (f_L_low k v39 (60 : Int32)) fun v40 =>
    zl ((40 : Int32) + v40) fun v41 =>
    zb1 (f_L_low k p4 (40 : Int32)) fun v42 =>
    zl ((30 : Int32) + v42) fun v43 =>
    zb5 (f_X7_order k f g nx hz v38 v41 v43) fun v44 f45 g46 nx47 hz48 =>
    some (v44, f45, g46, nx47, hz48)
  else
  if p2 = (9 : Int32) then
    zb1 (f_X7_count k f hz pl (1 : Int32)) fun v49 =>
    if v49 ≤ v3 then
      zb5 (f_X7_order k f g nx hz (0 : Int32) (1 : Int32) (1 : Int32)) fun v50 f51 g52 nx53 hz54 =>
      some (v50, f51, g52, nx53, hz54)
    else
      zb1 (f_X7_of k f v3 (1 : Int32)) fun v55 =>
      zl ((1 : Int32) + v55) fun v56 =>
      zb1 (f_X7_of k f v3 (1 : Int32)) fun v57 =>
      zl (v57 - v57 / (4 : Int32) * (4 : Int32)) fun v58 =>
      zl (v56 - v58) fun v59 =>
      zb1 (f_X7_of k f v3 (0 : Int32)) fun v60 =>
      zb1 (f_X7_of k f v3 (2 : Int32)) fun v61 =>
      zb5 (f_X7_order k f g nx hz v59 v60 v61) fun v62 f63 g64 nx65 hz66 =>
      some (v62, f63, g64, nx65, hz66)
  else
  if p2 = (10 : Int32) then
    f_L_change_b293 k pl p2 p3 p4 f g nx hz v7
  else
  if p2 = (11 : Int32) then
    f_L_change_b293 k pl p2 p3 p4 f g nx hz v7
  else
  if p2 = (12 : Int32) then
    zb5 (f_X7_takeBack k f g nx hz v7) fun v75 f76 g77 nx78 hz79 =>
    some (v75, f76, g77, nx78, hz79)
  else
  if p2 = (13 : Int32) then
    zb1 (f_L_low k p3 (4 : Int32)) fun v80 =>
    zl (p3 >>> ((3 : Int32) &&& 31)) fun v81 =>
    zb1 (f_L_low k v81 (20000 : Int32)) fun v82 =>
    zl ((100 : Int32) + v82) fun v83 =>
    zb1 (f_L_low k p4 (20000 : Int32)) fun v84 =>
    zl ((100 : Int32) + v84) fun v85 =>
    zl (p4 >>> ((8 : Int32) &&& 31)) fun v86 =>
    zb1 (f_L_low k v86 (30000 : Int32)) fun v87 =>
    zl ((50 : Int32) + v87) fun v88 =>
    zb5 (f_X7_limits k f g nx hz v80 v83 v85 v88) fun v89 f90 g91 nx92 hz93 =>
    some (v89, f90, g91, nx92, hz93)
  else
  if p2 = (14 : Int32) then
    f_L_change_b363 k pl p2 p3 p4 f g nx hz v3
  else
  if p2 = (15 : Int32) then
    f_L_change_b363 k pl p2 p3 p4 f g nx hz v3
  else
  if p2 = (16 : Int32) then
    zb5 (f_X7_unload k f g nx hz v3) fun v102 f103 g104 nx105 hz106 =>
    some (v102, f103, g104, nx105, hz106)
  else
  if p2 = (17 : Int32) then
    zb1 (f_L_low k p3 (4 : Int32)) fun v107 =>
    zb5 (f_X7_leave k f g nx hz v107) fun v108 f109 g110 nx111 hz112 =>
    some (v108, f109, g110, nx111, hz112)
  else
  if p2 = (18 : Int32) then
    f_L_change_b400 k pl p2 p3 p4 f g nx hz
  else
  if p2 = (19 : Int32) then
    f_L_change_b400 k pl p2 p3 p4 f g nx hz
  else
    zb1 (f_L_low k p3 (5 : Int32)) fun v120 =>
    zb1 (f_L_low k p4 (36 : Int32)) fun v121 =>
    zl (v121 - (6 : Int32)) fun v122 =>
    zb5 (f_X7_set k f g nx hz v120 v122) fun v123 f124 g125 nx126 hz127 =>
    some (v123, f124, g125, nx126, hz127)
set_option maxRecDepth 100000 in
set_option maxHeartbeats 4000000 in
theorem ct_L_change (l : Launch) (D : va_G) (ct a st : Nat → Nat) (f : Nat → Int32) (g : Nat → Nat → Int32) (nx : Int32) (hz : Int32) (sw : Nat → Nat → Int32) (fl : Nat → Int32) (sg : Nat → Int32) (pl : Int32) (pa : Int32) (pk : Int32) (pn : Nat → Int32) (pf : Int32) (pg : Int32) (sz : Nat) (p2 : Int32) (p3 : Int32) (p4 : Int32) (k : Nat) (r : Int32) (f' : Nat → Int32) (g' : Nat → Nat → Int32) (nx' : Int32) (hz' : Int32) (h : f_L_change k f g nx hz pl p2 p3 p4 = some (r, f', g', nx', hz')) : Met l yL_change (Cond.code yL_change cL_change 6 (some .int) :: zT) ({ frames := 7, cells := 0, slots := 0, locals := 161 } : Room) (va_Pc [.ref (a 0), .int p2, .int p3, .int p4] (zPZ D (zTys ct) st (wX7 ct a f g nx hz sw fl sg pl pa pk pn pf pg) sz)) (va_Qi (fun r' (_ : Unit) => r' = r) (zQW D (wX7 ct a f g nx hz sw fl sg pl pa pk pn pf pg) sz (wX7 ct a f' g' nx' hz' sw fl sg pl pa pk pn pf pg)) (va_A (wX7 ct a f g nx hz sw fl sg pl pa pk pn pf pg) sz)) 0 0 (va_A (wX7 ct a f g nx hz sw fl sg pl pa pk pn pf pg) sz) := by
  refine zMet (cc := cL_change) (maxL := 6) (ret := (some .int)) (av := [.ref (a 0), .int p2, .int p3, .int p4]) (by decide) (Nat.le_of_ble_eq_true rfl) (fun p e s m below meth c ls hx hb hr hml hts hown hlocks hin hB hl => ?_)
  have hl : lv_has ls 6 [(0, .ref (a 0)), (1, .int p2), (2, .int p3), (3, .int p4)] := hl
  have hown : s.vm.findClass RL = some m.cls := hown
  obtain ⟨⟨hsz, hP, hK, hD0⟩, hZ⟩ := hB
  subst hsz
  have hD := hD0.self (sz := s.heap.size)
  obtain ⟨A, hAe⟩ : ∃ A, A = va_A (wX7 ct a f g nx hz sw fl sg pl pa pk pn pf pg) s.heap.size := ⟨_, rfl⟩
  rw [← hAe] at hD hZ
  have hA : ∀ q : Nat, s.heap.size ≤ q → A q := fun q h => by rw [hAe]; exact Or.inr h
  have hS : va_S A s.heap s.heap [] := va_S.rf
  have B124 : ∀ (f_ : Nat → Int32) (g_ : Nat → Nat → Int32) (nx_ : Int32) (hz_ : Int32), f_L_change_b124 k pl p2 p3 p4 f_ g_ nx_ hz_ = some (r, f', g', nx', hz') → ∀ (H : Heap) (locs : List Loc), va_P D vwCl (wX7 ct a f_ g_ nx_ hz_ sw fl sg pl pa pk pn pf pg) H → va_D A (wX7 ct a f_ g_ nx_ hz_ sw fl sg pl pa pk pn pf pg) → va_S A s.heap H locs → ∀ (ls : Array Slot), lv_has ls 6 [(0, .ref (a 0)), (2, .int p3), (3, .int p4)] → W p l e ({ frames := 7, cells := 0, slots := 0, locals := 161 } : Room) s m ([.ref (a 0), .int p2, .int p3, .int p4] : List Value).toArray below meth c H locs 0 0 (MQ below (va_Qi (fun r' (_ : Unit) => r' = r) (zQW D (wX7 ct a f g nx hz sw fl sg pl pa pk pn pf pg) s.heap.size (wX7 ct a f' g' nx' hz' sw fl sg pl pa pk pn pf pg)) (va_A (wX7 ct a f g nx hz sw fl sg pl pa pk pn pf pg) s.heap.size)) ([.ref (a 0), .int p2, .int p3, .int p4] : List Value).toArray s 0 0 (va_A (wX7 ct a f g nx hz sw fl sg pl pa pk pn pf pg) s.heap.size)) (F0 m 124 ls []) := by
    intro f_ g_ nx_ hz_ h H locs hP hD hS ls hl
    rw [f_L_change_b124] at h
    refine lv_aload_n hx hb dL_change_124 rfl (lv_at hl 0 rfl) ?_
    refine lv_bipush (v := (50 : Int32)) hx hb dL_change_125 (by decide) ?_
    refine lv_iload_n hx hb dL_change_127 rfl (lv_at hl 1 rfl) ?_
    refine lv_bipush (v := (120 : Int32)) hx hb dL_change_128 (by decide) ?_
    obtain ⟨v8, hc, h⟩ := zb1_s h
    refine zE_i (zrS (As := [.int p3, .int (120 : Int32)]) (rest := [.int (50 : Int32), .ref (a 0)]) hx hb hml hown hts tw254 ms_L_low ⟨Nat.le_of_ble_eq_true rfl, Nat.le_of_ble_eq_true rfl⟩ rfl rfl (ct_L_low l p3 (120 : Int32) k v8 hc) z_p0 hl.1 rfl rfl (Nat.le_of_ble_eq_true rfl) dL_change_130 ⟨Nat.le_refl _, Nat.le_refl _⟩) ?_
    refine o_iadd hx hb dL_change_133 h (fun v9 h => ?_)
    refine lv_bipush (v := (40 : Int32)) hx hb dL_change_134 (by decide) ?_
    refine lv_iload_n hx hb dL_change_136 rfl (lv_at hl 1 rfl) ?_
    refine lv_bipush (v := (7 : Int32)) hx hb dL_change_137 (by decide) ?_
    refine o_ishr hx hb dL_change_139 h (fun v10 h => ?_)
    refine lv_bipush (v := (90 : Int32)) hx hb dL_change_140 (by decide) ?_
    obtain ⟨v11, hc, h⟩ := zb1_s h
    refine zE_i (zrS (As := [.int v10, .int (90 : Int32)]) (rest := [.int (40 : Int32), .int v9, .ref (a 0)]) hx hb hml hown hts tw254 ms_L_low ⟨Nat.le_of_ble_eq_true rfl, Nat.le_of_ble_eq_true rfl⟩ rfl rfl (ct_L_low l v10 (90 : Int32) k v11 hc) z_p0 hl.1 rfl rfl (Nat.le_of_ble_eq_true rfl) dL_change_142 ⟨Nat.le_refl _, Nat.le_refl _⟩) ?_
    refine o_iadd hx hb dL_change_145 h (fun v12 h => ?_)
    refine lv_bipush (v := (30 : Int32)) hx hb dL_change_146 (by decide) ?_
    refine lv_iload_n hx hb dL_change_148 rfl (lv_at hl 2 rfl) ?_
    refine lv_bipush (v := (60 : Int32)) hx hb dL_change_149 (by decide) ?_
    obtain ⟨v13, hc, h⟩ := zb1_s h
    refine zE_i (zrS (As := [.int p4, .int (60 : Int32)]) (rest := [.int (30 : Int32), .int v12, .int v9, .ref (a 0)]) hx hb hml hown hts tw254 ms_L_low ⟨Nat.le_of_ble_eq_true rfl, Nat.le_of_ble_eq_true rfl⟩ rfl rfl (ct_L_low l p4 (60 : Int32) k v13 hc) z_p0 hl.1 rfl rfl (Nat.le_of_ble_eq_true rfl) dL_change_151 ⟨Nat.le_refl _, Nat.le_refl _⟩) ?_
    refine o_iadd hx hb dL_change_154 h (fun v14 h => ?_)
    refine lv_bipush (v := (20 : Int32)) hx hb dL_change_155 (by decide) ?_
    refine lv_iload_n hx hb dL_change_157 rfl (lv_at hl 2 rfl) ?_
    refine lv_bipush (v := (8 : Int32)) hx hb dL_change_158 (by decide) ?_
    refine o_ishr hx hb dL_change_160 h (fun v15 h => ?_)
    refine lv_bipush (v := (12 : Int32)) hx hb dL_change_161 (by decide) ?_
    obtain ⟨v16, hc, h⟩ := zb1_s h
    refine zE_i (zrS (As := [.int v15, .int (12 : Int32)]) (rest := [.int (20 : Int32), .int v14, .int v12, .int v9, .ref (a 0)]) hx hb hml hown hts tw254 ms_L_low ⟨Nat.le_of_ble_eq_true rfl, Nat.le_of_ble_eq_true rfl⟩ rfl rfl (ct_L_low l v15 (12 : Int32) k v16 hc) z_p0 hl.1 rfl rfl (Nat.le_of_ble_eq_true rfl) dL_change_163 ⟨Nat.le_refl _, Nat.le_refl _⟩) ?_
    refine o_iadd hx hb dL_change_166 h (fun v17 h => ?_)
    obtain ⟨v18, f19, g20, nx21, hz22, hc, h⟩ := zb5_s h
    refine zG_i (w1 := wX7 ct a f19 g20 nx21 hz22 sw fl sg pl pa pk pn pf pg) (ws' := wX7 ct a f19 g20 nx21 hz22 sw fl sg pl pa pk pn pf pg) hP hD hS hA [0, 1, 2, 3, 4, 5, 6, 7, 8, 9, 10, 11, 12, 13, 14, 15, 16, 17, 18, 19, 20, 21] [] [0, 1, 2, 3, 4, 5, 6, 7, 8, 9, 10, 11, 12, 13, 14, 15, 16, 17, 18, 19, 20, 21] rfl rfl (by decide) (by decide) rfl (by decide) (zrV (C := RX7) (As := [.int v9, .int v12, .int v14, .int v17]) (rest := []) hx hb hml hown hts tw261 mv_X7_quarry ⟨Nat.le_of_ble_eq_true rfl, Nat.le_of_ble_eq_true rfl⟩ rfl rfl (ct_X7_quarry l D ct a f_ g_ nx_ hz_ sw fl sg pl pa pk pn pf pg _ v9 v12 v14 v17 k v18 f19 g20 nx21 hz22 hc) (z_wv hK hP hD [0, 1, 2, 3, 4, 5, 6, 7, 8, 9, 10, 11, 12, 13, 14, 15, 16, 17, 18, 19, 20, 21] (by decide) rfl 0 rfl rfl) hl.1 rfl rfl (Nat.le_of_ble_eq_true rfl) dL_change_167 ⟨Nat.le_refl _, Nat.le_refl _⟩) (fun H locs hP hD hS => ?_)
    cases h
    exact zX_i hx hb hr hlocks hP hD hS hAe dL_change_170 rfl
  have B171 : ∀ (f_ : Nat → Int32) (g_ : Nat → Nat → Int32) (nx_ : Int32) (hz_ : Int32) (x4 : Int32), f_L_change_b171 k pl p2 p3 p4 f_ g_ nx_ hz_ x4 = some (r, f', g', nx', hz') → ∀ (H : Heap) (locs : List Loc), va_P D vwCl (wX7 ct a f_ g_ nx_ hz_ sw fl sg pl pa pk pn pf pg) H → va_D A (wX7 ct a f_ g_ nx_ hz_ sw fl sg pl pa pk pn pf pg) → va_S A s.heap H locs → ∀ (ls : Array Slot), lv_has ls 6 [(0, .ref (a 0)), (3, .int p4), (4, .int x4)] → W p l e ({ frames := 7, cells := 0, slots := 0, locals := 161 } : Room) s m ([.ref (a 0), .int p2, .int p3, .int p4] : List Value).toArray below meth c H locs 0 0 (MQ below (va_Qi (fun r' (_ : Unit) => r' = r) (zQW D (wX7 ct a f g nx hz sw fl sg pl pa pk pn pf pg) s.heap.size (wX7 ct a f' g' nx' hz' sw fl sg pl pa pk pn pf pg)) (va_A (wX7 ct a f g nx hz sw fl sg pl pa pk pn pf pg) s.heap.size)) ([.ref (a 0), .int p2, .int p3, .int p4] : List Value).toArray s 0 0 (va_A (wX7 ct a f g nx hz sw fl sg pl pa pk pn pf pg) s.heap.size)) (F0 m 171 ls []) := by
    intro f_ g_ nx_ hz_ x4 h H locs hP hD hS ls hl
    rw [f_L_change_b171] at h
    refine lv_aload_n hx hb dL_change_171 rfl (lv_at hl 0 rfl) ?_
    refine lv_iload hx hb dL_change_172 (lv_at hl 2 rfl) ?_
    refine lv_iload_n hx hb dL_change_174 rfl (lv_at hl 1 rfl) ?_
    refine lv_iconst (v := (3 : Int32)) hx hb dL_change_175 (by decide) ?_
    obtain ⟨v23, hc, h⟩ := zb1_s h
    refine zE_i (zrS (As := [.int p4, .int (3 : Int32)]) (rest := [.int x4, .ref (a 0)]) hx hb hml hown hts tw254 ms_L_low ⟨Nat.le_of_ble_eq_true rfl, Nat.le_of_ble_eq_true rfl⟩ rfl rfl (ct_L_low l p4 (3 : Int32) k v23 hc) z_p0 hl.1 rfl rfl (Nat.le_of_ble_eq_true rfl) dL_change_176 ⟨Nat.le_refl _, Nat.le_refl _⟩) ?_
    refine lv_iconst (v := (1 : Int32)) hx hb dL_change_179 (by decide) ?_
    refine lv_iload_n hx hb dL_change_180 rfl (lv_at hl 1 rfl) ?_
    refine lv_iconst (v := (2 : Int32)) hx hb dL_change_181 (by decide) ?_
    refine o_ishr hx hb dL_change_182 h (fun v24 h => ?_)
    refine lv_bipush (v := (120 : Int32)) hx hb dL_change_183 (by decide) ?_
    obtain ⟨v25, hc, h⟩ := zb1_s h
    refine zE_i (zrS (As := [.int v24, .int (120 : Int32)]) (rest := [.int (1 : Int32), .int v23, .int x4, .ref (a 0)]) hx hb hml hown hts tw254 ms_L_low ⟨Nat.le_of_ble_eq_true rfl, Nat.le_of_ble_eq_true rfl⟩ rfl rfl (ct_L_low l v24 (120 : Int32) k v25 hc) z_p0 hl.1 rfl rfl (Nat.le_of_ble_eq_true rfl) dL_change_185 ⟨Nat.le_refl _, Nat.le_refl _⟩) ?_
    refine o_iadd hx hb dL_change_188 h (fun v26 h => ?_)
    obtain ⟨v27, f28, g29, nx30, hz31, hc, h⟩ := zb5_s h
    refine zG_i (w1 := wX7 ct a f28 g29 nx30 hz31 sw fl sg pl pa pk pn pf pg) (ws' := wX7 ct a f28 g29 nx30 hz31 sw fl sg pl pa pk pn pf pg) hP hD hS hA [0, 1, 2, 3, 4, 5, 6, 7, 8, 9, 10, 11, 12, 13, 14, 15, 16, 17, 18, 19, 20, 21] [] [0, 1, 2, 3, 4, 5, 6, 7, 8, 9, 10, 11, 12, 13, 14, 15, 16, 17, 18, 19, 20, 21] rfl rfl (by decide) (by decide) rfl (by decide) (zrV (C := RX7) (As := [.int x4, .int v23, .int v26]) (rest := []) hx hb hml hown hts tw297 mv_X7_cut ⟨Nat.le_of_ble_eq_true rfl, Nat.le_of_ble_eq_true rfl⟩ rfl rfl (ct_X7_cut l D ct a f_ g_ nx_ hz_ sw fl sg pl pa pk pn pf pg _ x4 v23 v26 k v27 f28 g29 nx30 hz31 hc) (z_wv hK hP hD [0, 1, 2, 3, 4, 5, 6, 7, 8, 9, 10, 11, 12, 13, 14, 15, 16, 17, 18, 19, 20, 21] (by decide) rfl 0 rfl rfl) hl.1 rfl rfl (Nat.le_of_ble_eq_true rfl) dL_change_189 ⟨Nat.le_refl _, Nat.le_refl _⟩) (fun H locs hP hD hS => ?_)
    cases h
    exact zX_i hx hb hr hlocks hP hD hS hAe dL_change_192 rfl
  have B193 : ∀ (f_ : Nat → Int32) (g_ : Nat → Nat → Int32) (nx_ : Int32) (hz_ : Int32) (x4 : Int32), f_L_change_b193 k pl p2 p3 p4 f_ g_ nx_ hz_ x4 = some (r, f', g', nx', hz') → ∀ (H : Heap) (locs : List Loc), va_P D vwCl (wX7 ct a f_ g_ nx_ hz_ sw fl sg pl pa pk pn pf pg) H → va_D A (wX7 ct a f_ g_ nx_ hz_ sw fl sg pl pa pk pn pf pg) → va_S A s.heap H locs → ∀ (ls : Array Slot), lv_has ls 6 [(0, .ref (a 0)), (4, .int x4)] → W p l e ({ frames := 7, cells := 0, slots := 0, locals := 161 } : Room) s m ([.ref (a 0), .int p2, .int p3, .int p4] : List Value).toArray below meth c H locs 0 0 (MQ below (va_Qi (fun r' (_ : Unit) => r' = r) (zQW D (wX7 ct a f g nx hz sw fl sg pl pa pk pn pf pg) s.heap.size (wX7 ct a f' g' nx' hz' sw fl sg pl pa pk pn pf pg)) (va_A (wX7 ct a f g nx hz sw fl sg pl pa pk pn pf pg) s.heap.size)) ([.ref (a 0), .int p2, .int p3, .int p4] : List Value).toArray s 0 0 (va_A (wX7 ct a f g nx hz sw fl sg pl pa pk pn pf pg) s.heap.size)) (F0 m 193 ls []) := by
    intro f_ g_ nx_ hz_ x4 h H locs hP hD hS ls hl
    rw [f_L_change_b193] at h
    refine lv_aload_n hx hb dL_change_193 rfl (lv_at hl 0 rfl) ?_
    refine lv_iload hx hb dL_change_194 (lv_at hl 1 rfl) ?_
    obtain ⟨v32, f33, g34, nx35, hz36, hc, h⟩ := zb5_s h
    refine zG_i (w1 := wX7 ct a f33 g34 nx35 hz36 sw fl sg pl pa pk pn pf pg) (ws' := wX7 ct a f33 g34 nx35 hz36 sw fl sg pl pa pk pn pf pg) hP hD hS hA [0, 1, 2, 3, 4, 5, 6, 7, 8, 9, 10, 11, 12, 13, 14, 15, 16, 17, 18, 19, 20, 21] [] [0, 1, 2, 3, 4, 5, 6, 7, 8, 9, 10, 11, 12, 13, 14, 15, 16, 17, 18, 19, 20, 21] rfl rfl (by decide) (by decide) rfl (by decide) (zrV (C := RX7) (As := [.int x4]) (rest := []) hx hb hml hown hts tw327 mv_X7_shelter ⟨Nat.le_of_ble_eq_true rfl, Nat.le_of_ble_eq_true rfl⟩ rfl rfl (ct_X7_shelter l D ct a f_ g_ nx_ hz_ sw fl sg pl pa pk pn pf pg _ x4 k v32 f33 g34 nx35 hz36 hc) (z_wv hK hP hD [0, 1, 2, 3, 4, 5, 6, 7, 8, 9, 10, 11, 12, 13, 14, 15, 16, 17, 18, 19, 20, 21] (by decide) rfl 0 rfl rfl) hl.1 rfl rfl (Nat.le_of_ble_eq_true rfl) dL_change_196 ⟨Nat.le_refl _, Nat.le_refl _⟩) (fun H locs hP hD hS => ?_)
    cases h
    exact zX_i hx hb hr hlocks hP hD hS hAe dL_change_199 rfl
  have B293 : ∀ (f_ : Nat → Int32) (g_ : Nat → Nat → Int32) (nx_ : Int32) (hz_ : Int32) (x5 : Int32), f_L_change_b293 k pl p2 p3 p4 f_ g_ nx_ hz_ x5 = some (r, f', g', nx', hz') → ∀ (H : Heap) (locs : List Loc), va_P D vwCl (wX7 ct a f_ g_ nx_ hz_ sw fl sg pl pa pk pn pf pg) H → va_D A (wX7 ct a f_ g_ nx_ hz_ sw fl sg pl pa pk pn pf pg) → va_S A s.heap H locs → ∀ (ls : Array Slot), lv_has ls 6 [(0, .ref (a 0)), (3, .int p4), (5, .int x5)] → W p l e ({ frames := 7, cells := 0, slots := 0, locals := 161 } : Room) s m ([.ref (a 0), .int p2, .int p3, .int p4] : List Value).toArray below meth c H locs 0 0 (MQ below (va_Qi (fun r' (_ : Unit) => r' = r) (zQW D (wX7 ct a f g nx hz sw fl sg pl pa pk pn pf pg) s.heap.size (wX7 ct a f' g' nx' hz' sw fl sg pl pa pk pn pf pg)) (va_A (wX7 ct a f g nx hz sw fl sg pl pa pk pn pf pg) s.heap.size)) ([.ref (a 0), .int p2, .int p3, .int p4] : List Value).toArray s 0 0 (va_A (wX7 ct a f g nx hz sw fl sg pl pa pk pn pf pg) s.heap.size)) (F0 m 293 ls []) := by
    intro f_ g_ nx_ hz_ x5 h H locs hP hD hS ls hl
    rw [f_L_change_b293] at h
    refine lv_aload_n hx hb dL_change_293 rfl (lv_at hl 0 rfl) ?_
    refine lv_iload hx hb dL_change_294 (lv_at hl 2 rfl) ?_
    refine lv_iload_n hx hb dL_change_296 rfl (lv_at hl 1 rfl) ?_
    refine lv_aload_n hx hb dL_change_297 rfl (lv_at hl 0 rfl) ?_
    refine lv_iconst (v := (1 : Int32)) hx hb dL_change_298 (by decide) ?_
    obtain ⟨v67, hc, h⟩ := zb1_s h
    refine zE_i (zrV (C := RX7) (As := [.int (1 : Int32)]) (rest := [.int p4, .int x5, .ref (a 0)]) hx hb hml hown hts tw152 mv_X7_count ⟨Nat.le_of_ble_eq_true rfl, Nat.le_of_ble_eq_true rfl⟩ rfl rfl (ct_X7_count l D ct a f_ g_ nx_ hz_ sw fl sg pl pa pk pn pf pg (1 : Int32) k v67 hc) (z_pv hK hP [0, 1, 2, 3, 4, 5, 6, 7, 8, 9, 10, 11, 12, 13, 14, 15, 16, 17, 18, 19, 20, 21] rfl 0 rfl rfl) hl.1 rfl rfl (Nat.le_of_ble_eq_true rfl) dL_change_299 ⟨Nat.le_refl _, Nat.le_refl _⟩) ?_
    refine lv_iconst (v := (1 : Int32)) hx hb dL_change_302 (by decide) ?_
    refine o_iadd hx hb dL_change_303 h (fun v68 h => ?_)
    obtain ⟨v69, hc, h⟩ := zb1_s h
    refine zE_i (zrS (As := [.int p4, .int v68]) (rest := [.int x5, .ref (a 0)]) hx hb hml hown hts tw254 ms_L_low ⟨Nat.le_of_ble_eq_true rfl, Nat.le_of_ble_eq_true rfl⟩ rfl rfl (ct_L_low l p4 v68 k v69 hc) z_p0 hl.1 rfl rfl (Nat.le_of_ble_eq_true rfl) dL_change_304 ⟨Nat.le_refl _, Nat.le_refl _⟩) ?_
    obtain ⟨v70, f71, g72, nx73, hz74, hc, h⟩ := zb5_s h
    refine zG_i (w1 := wX7 ct a f71 g72 nx73 hz74 sw fl sg pl pa pk pn pf pg) (ws' := wX7 ct a f71 g72 nx73 hz74 sw fl sg pl pa pk pn pf pg) hP hD hS hA [0, 1, 2, 3, 4, 5, 6, 7, 8, 9, 10, 11, 12, 13, 14, 15, 16, 17, 18, 19, 20, 21] [] [0, 1, 2, 3, 4, 5, 6, 7, 8, 9, 10, 11, 12, 13, 14, 15, 16, 17, 18, 19, 20, 21] rfl rfl (by decide) (by decide) rfl (by decide) (zrV (C := RX7) (As := [.int x5, .int v69]) (rest := []) hx hb hml hown hts tw369 mv_X7_give ⟨Nat.le_of_ble_eq_true rfl, Nat.le_of_ble_eq_true rfl⟩ rfl rfl (ct_X7_give l D ct a f_ g_ nx_ hz_ sw fl sg pl pa pk pn pf pg _ x5 v69 k v70 f71 g72 nx73 hz74 hc) (z_wv hK hP hD [0, 1, 2, 3, 4, 5, 6, 7, 8, 9, 10, 11, 12, 13, 14, 15, 16, 17, 18, 19, 20, 21] (by decide) rfl 0 rfl rfl) hl.1 rfl rfl (Nat.le_of_ble_eq_true rfl) dL_change_307 ⟨Nat.le_refl _, Nat.le_refl _⟩) (fun H locs hP hD hS => ?_)
    cases h
    exact zX_i hx hb hr hlocks hP hD hS hAe dL_change_310 rfl
  have B363 : ∀ (f_ : Nat → Int32) (g_ : Nat → Nat → Int32) (nx_ : Int32) (hz_ : Int32) (x4 : Int32), f_L_change_b363 k pl p2 p3 p4 f_ g_ nx_ hz_ x4 = some (r, f', g', nx', hz') → ∀ (H : Heap) (locs : List Loc), va_P D vwCl (wX7 ct a f_ g_ nx_ hz_ sw fl sg pl pa pk pn pf pg) H → va_D A (wX7 ct a f_ g_ nx_ hz_ sw fl sg pl pa pk pn pf pg) → va_S A s.heap H locs → ∀ (ls : Array Slot), lv_has ls 6 [(0, .ref (a 0)), (3, .int p4), (4, .int x4)] → W p l e ({ frames := 7, cells := 0, slots := 0, locals := 161 } : Room) s m ([.ref (a 0), .int p2, .int p3, .int p4] : List Value).toArray below meth c H locs 0 0 (MQ below (va_Qi (fun r' (_ : Unit) => r' = r) (zQW D (wX7 ct a f g nx hz sw fl sg pl pa pk pn pf pg) s.heap.size (wX7 ct a f' g' nx' hz' sw fl sg pl pa pk pn pf pg)) (va_A (wX7 ct a f g nx hz sw fl sg pl pa pk pn pf pg) s.heap.size)) ([.ref (a 0), .int p2, .int p3, .int p4] : List Value).toArray s 0 0 (va_A (wX7 ct a f g nx hz sw fl sg pl pa pk pn pf pg) s.heap.size)) (F0 m 363 ls []) := by
    intro f_ g_ nx_ hz_ x4 h H locs hP hD hS ls hl
    rw [f_L_change_b363] at h
    refine lv_aload_n hx hb dL_change_363 rfl (lv_at hl 0 rfl) ?_
    refine lv_iload hx hb dL_change_364 (lv_at hl 2 rfl) ?_
    refine lv_iload_n hx hb dL_change_366 rfl (lv_at hl 1 rfl) ?_
    refine lv_iconst (v := (3 : Int32)) hx hb dL_change_367 (by decide) ?_
    obtain ⟨v94, hc, h⟩ := zb1_s h
    refine zE_i (zrS (As := [.int p4, .int (3 : Int32)]) (rest := [.int x4, .ref (a 0)]) hx hb hml hown hts tw254 ms_L_low ⟨Nat.le_of_ble_eq_true rfl, Nat.le_of_ble_eq_true rfl⟩ rfl rfl (ct_L_low l p4 (3 : Int32) k v94 hc) z_p0 hl.1 rfl rfl (Nat.le_of_ble_eq_true rfl) dL_change_368 ⟨Nat.le_refl _, Nat.le_refl _⟩) ?_
    refine lv_iload_n hx hb dL_change_371 rfl (lv_at hl 1 rfl) ?_
    refine lv_iconst (v := (4 : Int32)) hx hb dL_change_372 (by decide) ?_
    refine o_ishr hx hb dL_change_373 h (fun v95 h => ?_)
    refine lv_bipush (v := (6 : Int32)) hx hb dL_change_374 (by decide) ?_
    obtain ⟨v96, hc, h⟩ := zb1_s h
    refine zE_i (zrS (As := [.int v95, .int (6 : Int32)]) (rest := [.int v94, .int x4, .ref (a 0)]) hx hb hml hown hts tw254 ms_L_low ⟨Nat.le_of_ble_eq_true rfl, Nat.le_of_ble_eq_true rfl⟩ rfl rfl (ct_L_low l v95 (6 : Int32) k v96 hc) z_p0 hl.1 rfl rfl (Nat.le_of_ble_eq_true rfl) dL_change_376 ⟨Nat.le_refl _, Nat.le_refl _⟩) ?_
    obtain ⟨v97, f98, g99, nx100, hz101, hc, h⟩ := zb5_s h
    refine zG_i (w1 := wX7 ct a f98 g99 nx100 hz101 sw fl sg pl pa pk pn pf pg) (ws' := wX7 ct a f98 g99 nx100 hz101 sw fl sg pl pa pk pn pf pg) hP hD hS hA [0, 1, 2, 3, 4, 5, 6, 7, 8, 9, 10, 11, 12, 13, 14, 15, 16, 17, 18, 19, 20, 21] [] [0, 1, 2, 3, 4, 5, 6, 7, 8, 9, 10, 11, 12, 13, 14, 15, 16, 17, 18, 19, 20, 21] rfl rfl (by decide) (by decide) rfl (by decide) (zrV (C := RX7) (As := [.int x4, .int v94, .int v96]) (rest := []) hx hb hml hown hts tw420 mv_X7_load ⟨Nat.le_of_ble_eq_true rfl, Nat.le_of_ble_eq_true rfl⟩ rfl rfl (ct_X7_load l D ct a f_ g_ nx_ hz_ sw fl sg pl pa pk pn pf pg _ x4 v94 v96 k v97 f98 g99 nx100 hz101 hc) (z_wv hK hP hD [0, 1, 2, 3, 4, 5, 6, 7, 8, 9, 10, 11, 12, 13, 14, 15, 16, 17, 18, 19, 20, 21] (by decide) rfl 0 rfl rfl) hl.1 rfl rfl (Nat.le_of_ble_eq_true rfl) dL_change_379 ⟨Nat.le_refl _, Nat.le_refl _⟩) (fun H locs hP hD hS => ?_)
    cases h
    exact zX_i hx hb hr hlocks hP hD hS hAe dL_change_382 rfl
  have B400 : ∀ (f_ : Nat → Int32) (g_ : Nat → Nat → Int32) (nx_ : Int32) (hz_ : Int32), f_L_change_b400 k pl p2 p3 p4 f_ g_ nx_ hz_ = some (r, f', g', nx', hz') → ∀ (H : Heap) (locs : List Loc), va_P D vwCl (wX7 ct a f_ g_ nx_ hz_ sw fl sg pl pa pk pn pf pg) H → va_D A (wX7 ct a f_ g_ nx_ hz_ sw fl sg pl pa pk pn pf pg) → va_S A s.heap H locs → ∀ (ls : Array Slot), lv_has ls 6 [(0, .ref (a 0)), (2, .int p3)] → W p l e ({ frames := 7, cells := 0, slots := 0, locals := 161 } : Room) s m ([.ref (a 0), .int p2, .int p3, .int p4] : List Value).toArray below meth c H locs 0 0 (MQ below (va_Qi (fun r' (_ : Unit) => r' = r) (zQW D (wX7 ct a f g nx hz sw fl sg pl pa pk pn pf pg) s.heap.size (wX7 ct a f' g' nx' hz' sw fl sg pl pa pk pn pf pg)) (va_A (wX7 ct a f g nx hz sw fl sg pl pa pk pn pf pg) s.heap.size)) ([.ref (a 0), .int p2, .int p3, .int p4] : List Value).toArray s 0 0 (va_A (wX7 ct a f g nx hz sw fl sg pl pa pk pn pf pg) s.heap.size)) (F0 m 400 ls []) := by
    intro f_ g_ nx_ hz_ h H locs hP hD hS ls hl
    rw [f_L_change_b400] at h
    refine lv_aload_n hx hb dL_change_400 rfl (lv_at hl 0 rfl) ?_
    refine lv_iload_n hx hb dL_change_401 rfl (lv_at hl 1 rfl) ?_
    refine lv_bipush (v := (82 : Int32)) hx hb dL_change_402 (by decide) ?_
    obtain ⟨v113, hc, h⟩ := zb1_s h
    refine zE_i (zrS (As := [.int p3, .int (82 : Int32)]) (rest := [.ref (a 0)]) hx hb hml hown hts tw254 ms_L_low ⟨Nat.le_of_ble_eq_true rfl, Nat.le_of_ble_eq_true rfl⟩ rfl rfl (ct_L_low l p3 (82 : Int32) k v113 hc) z_p0 hl.1 rfl rfl (Nat.le_of_ble_eq_true rfl) dL_change_404 ⟨Nat.le_refl _, Nat.le_refl _⟩) ?_
    refine lv_bipush (v := (41 : Int32)) hx hb dL_change_407 (by decide) ?_
    refine o_isub hx hb dL_change_409 h (fun v114 h => ?_)
    obtain ⟨v115, f116, g117, nx118, hz119, hc, h⟩ := zb5_s h
    refine zG_i (w1 := wX7 ct a f116 g117 nx118 hz119 sw fl sg pl pa pk pn pf pg) (ws' := wX7 ct a f116 g117 nx118 hz119 sw fl sg pl pa pk pn pf pg) hP hD hS hA [0, 1, 2, 3, 4, 5, 6, 7, 8, 9, 10, 11, 12, 13, 14, 15, 16, 17, 18, 19, 20, 21] [] [0, 1, 2, 3, 4, 5, 6, 7, 8, 9, 10, 11, 12, 13, 14, 15, 16, 17, 18, 19, 20, 21] rfl rfl (by decide) (by decide) rfl (by decide) (zrV (C := RX7) (As := [.int v114]) (rest := []) hx hb hml hown hts tw483 mv_X7_night ⟨Nat.le_of_ble_eq_true rfl, Nat.le_of_ble_eq_true rfl⟩ rfl rfl (ct_X7_night l D ct a f_ g_ nx_ hz_ sw fl sg pl pa pk pn pf pg _ v114 k v115 f116 g117 nx118 hz119 hc) (z_wv hK hP hD [0, 1, 2, 3, 4, 5, 6, 7, 8, 9, 10, 11, 12, 13, 14, 15, 16, 17, 18, 19, 20, 21] (by decide) rfl 0 rfl rfl) hl.1 rfl rfl (Nat.le_of_ble_eq_true rfl) dL_change_410 ⟨Nat.le_refl _, Nat.le_refl _⟩) (fun H locs hP hD hS => ?_)
    cases h
    exact zX_i hx hb hr hlocks hP hD hS hAe dL_change_413 rfl
  rw [f_L_change] at h
  refine lv_iload_n hx hb dL_change_0 rfl (lv_at hl 2 rfl) ?_
  refine lv_aload_n hx hb dL_change_1 rfl (lv_at hl 0 rfl) ?_
  refine lv_iconst (v := (1 : Int32)) hx hb dL_change_2 (by decide) ?_
  obtain ⟨v1, hc, h⟩ := zb1_s h
  refine zE_i (zrV (C := RX7) (As := [.int (1 : Int32)]) (rest := [.int p3]) hx hb hml hown hts tw152 mv_X7_count ⟨Nat.le_of_ble_eq_true rfl, Nat.le_of_ble_eq_true rfl⟩ rfl rfl (ct_X7_count l D ct a f g nx hz sw fl sg pl pa pk pn pf pg (1 : Int32) k v1 hc) (z_pv hK hP [0, 1, 2, 3, 4, 5, 6, 7, 8, 9, 10, 11, 12, 13, 14, 15, 16, 17, 18, 19, 20, 21] rfl 0 rfl rfl) hl.1 rfl rfl (Nat.le_of_ble_eq_true rfl) dL_change_3 ⟨Nat.le_refl _, Nat.le_refl _⟩) ?_
  refine lv_iconst (v := (1 : Int32)) hx hb dL_change_6 (by decide) ?_
  refine o_iadd hx hb dL_change_7 h (fun v2 h => ?_)
  obtain ⟨v3, hc, h⟩ := zb1_s h
  refine zE_i (zrS (As := [.int p3, .int v2]) (rest := []) hx hb hml hown hts tw254 ms_L_low ⟨Nat.le_of_ble_eq_true rfl, Nat.le_of_ble_eq_true rfl⟩ rfl rfl (ct_L_low l p3 v2 k v3 hc) z_p0 hl.1 rfl rfl (Nat.le_of_ble_eq_true rfl) dL_change_8 ⟨Nat.le_refl _, Nat.le_refl _⟩) ?_
  refine lv_istore (lv' := [(4, .int v3), (0, .ref (a 0)), (1, .int p2), (2, .int p3), (3, .int p4)]) hx hb dL_change_11 hl (by decide) rfl (fun ls hl => ?_)
  refine lv_iload_n hx hb dL_change_13 rfl (lv_at hl 3 rfl) ?_
  refine lv_iconst (v := (5 : Int32)) hx hb dL_change_14 (by decide) ?_
  refine o_ishr hx hb dL_change_15 h (fun v4 h => ?_)
  refine lv_aload_n hx hb dL_change_16 rfl (lv_at hl 1 rfl) ?_
  refine lv_iconst (v := (2 : Int32)) hx hb dL_change_17 (by decide) ?_
  obtain ⟨v5, hc, h⟩ := zb1_s h
  refine zE_i (zrV (C := RX7) (As := [.int (2 : Int32)]) (rest := [.int v4]) hx hb hml hown hts tw152 mv_X7_count ⟨Nat.le_of_ble_eq_true rfl, Nat.le_of_ble_eq_true rfl⟩ rfl rfl (ct_X7_count l D ct a f g nx hz sw fl sg pl pa pk pn pf pg (2 : Int32) k v5 hc) (z_pv hK hP [0, 1, 2, 3, 4, 5, 6, 7, 8, 9, 10, 11, 12, 13, 14, 15, 16, 17, 18, 19, 20, 21] rfl 0 rfl rfl) hl.1 rfl rfl (Nat.le_of_ble_eq_true rfl) dL_change_18 ⟨Nat.le_refl _, Nat.le_refl _⟩) ?_
  refine lv_iconst (v := (1 : Int32)) hx hb dL_change_21 (by decide) ?_
  refine o_iadd hx hb dL_change_22 h (fun v6 h => ?_)
  obtain ⟨v7, hc, h⟩ := zb1_s h
  refine zE_i (zrS (As := [.int v4, .int v6]) (rest := []) hx hb hml hown hts tw254 ms_L_low ⟨Nat.le_of_ble_eq_true rfl, Nat.le_of_ble_eq_true rfl⟩ rfl rfl (ct_L_low l v4 v6 k v7 hc) z_p0 hl.1 rfl rfl (Nat.le_of_ble_eq_true rfl) dL_change_23 ⟨Nat.le_refl _, Nat.le_refl _⟩) ?_
  refine lv_istore (lv' := [(5, .int v7), (4, .int v3), (0, .ref (a 0)), (1, .int p2), (2, .int p3), (3, .int p4)]) hx hb dL_change_26 hl (by decide) rfl (fun ls hl => ?_)
  refine lv_iload_n hx hb dL_change_28 rfl (lv_at hl 3 rfl) ?_
  refine o_sw h (fun q0 h => ?_) (fun q0 h => ?_)
  · refine lv_tableIn (off := (95 : Int)) (tgt := 124) hx hb dL_change_29 (by rw [q0]; decide) (by rw [q0]; decide) (by rw [q0]; decide) (by decide) ?_
    exact B124 f g nx hz h _ _ hP hD hS ls (lv_sub hl [2, 4, 5] rfl)
  refine o_sw h (fun q1 h => ?_) (fun q1 h => ?_)
  · refine lv_tableIn (off := (95 : Int)) (tgt := 124) hx hb dL_change_29 (by rw [q1]; decide) (by rw [q1]; decide) (by rw [q1]; decide) (by decide) ?_
    exact B124 f g nx hz h _ _ hP hD hS ls (lv_sub hl [2, 4, 5] rfl)
  refine o_sw h (fun q2 h => ?_) (fun q2 h => ?_)
  · refine lv_tableIn (off := (95 : Int)) (tgt := 124) hx hb dL_change_29 (by rw [q2]; decide) (by rw [q2]; decide) (by rw [q2]; decide) (by decide) ?_
    exact B124 f g nx hz h _ _ hP hD hS ls (lv_sub hl [2, 4, 5] rfl)
  refine o_sw h (fun q3 h => ?_) (fun q3 h => ?_)
  · refine lv_tableIn (off := (142 : Int)) (tgt := 171) hx hb dL_change_29 (by rw [q3]; decide) (by rw [q3]; decide) (by rw [q3]; decide) (by decide) ?_
    exact B171 f g nx hz v3 h _ _ hP hD hS ls (lv_sub hl [2, 5, 1] rfl)
  refine o_sw h (fun q4 h => ?_) (fun q4 h => ?_)
  · refine lv_tableIn (off := (142 : Int)) (tgt := 171) hx hb dL_change_29 (by rw [q4]; decide) (by rw [q4]; decide) (by rw [q4]; decide) (by decide) ?_
    exact B171 f g nx hz v3 h _ _ hP hD hS ls (lv_sub hl [2, 5, 1] rfl)
  refine o_sw h (fun q5 h => ?_) (fun q5 h => ?_)
  · refine lv_tableIn (off := (142 : Int)) (tgt := 171) hx hb dL_change_29 (by rw [q5]; decide) (by rw [q5]; decide) (by rw [q5]; decide) (by decide) ?_
    exact B171 f g nx hz v3 h _ _ hP hD hS ls (lv_sub hl [2, 5, 1] rfl)
  refine o_sw h (fun q6 h => ?_) (fun q6 h => ?_)
  · refine lv_tableIn (off := (164 : Int)) (tgt := 193) hx hb dL_change_29 (by rw [q6]; decide) (by rw [q6]; decide) (by rw [q6]; decide) (by decide) ?_
    exact B193 f g nx hz v3 h _ _ hP hD hS ls (lv_sub hl [2, 1] rfl)
  refine o_sw h (fun q7 h => ?_) (fun q7 h => ?_)
  · refine lv_tableIn (off := (164 : Int)) (tgt := 193) hx hb dL_change_29 (by rw [q7]; decide) (by rw [q7]; decide) (by rw [q7]; decide) (by decide) ?_
    exact B193 f g nx hz v3 h _ _ hP hD hS ls (lv_sub hl [2, 1] rfl)
  refine o_sw h (fun q8 h => ?_) (fun q8 h => ?_)
  · refine lv_tableIn (off := (171 : Int)) (tgt := 200) hx hb dL_change_29 (by rw [q8]; decide) (by rw [q8]; decide) (by rw [q8]; decide) (by decide) ?_
    refine lv_aload_n hx hb dL_change_200 rfl (lv_at hl 2 rfl) ?_
    refine lv_bipush (v := (40 : Int32)) hx hb dL_change_201 (by decide) ?_
    refine lv_iload_n hx hb dL_change_203 rfl (lv_at hl 4 rfl) ?_
    refine lv_bipush (v := (60 : Int32)) hx hb dL_change_204 (by decide) ?_
    obtain ⟨v37, hc, h⟩ := zb1_s h
    refine zE_i (zrS (As := [.int p3, .int (60 : Int32)]) (rest := [.int (40 : Int32), .ref (a 0)]) hx hb hml hown hts tw254 ms_L_low ⟨Nat.le_of_ble_eq_true rfl, Nat.le_of_ble_eq_true rfl⟩ rfl rfl (ct_L_low l p3 (60 : Int32) k v37 hc) z_p0 hl.1 rfl rfl (Nat.le_of_ble_eq_true rfl) dL_change_206 ⟨Nat.le_refl _, Nat.le_refl _⟩) ?_
    refine o_iadd hx hb dL_change_209 h (fun v38 h => ?_)
    refine lv_bipush (v := (40 : Int32)) hx hb dL_change_210 (by decide) ?_
    refine lv_iload_n hx hb dL_change_212 rfl (lv_at hl 4 rfl) ?_
    refine lv_bipush (v := (8 : Int32)) hx hb dL_change_213 (by decide) ?_
    refine o_ishr hx hb dL_change_215 h (fun v39 h => ?_)
    refine lv_bipush (v := (60 : Int32)) hx hb dL_change_216 (by decide) ?_
    obtain ⟨v40, hc, h⟩ := zb1_s h
    refine zE_i (zrS (As := [.int v39, .int (60 : Int32)]) (rest := [.int (40 : Int32), .int v38, .ref (a 0)]) hx hb hml hown hts tw254 ms_L_low ⟨Nat.le_of_ble_eq_true rfl, Nat.le_of_ble_eq_true rfl⟩ rfl rfl (ct_L_low l v39 (60 : Int32) k v40 hc) z_p0 hl.1 rfl rfl (Nat.le_of_ble_eq_true rfl) dL_change_218 ⟨Nat.le_refl _, Nat.le_refl _⟩) ?_
    refine o_iadd hx hb dL_change_221 h (fun v41 h => ?_)
    refine lv_bipush (v := (30 : Int32)) hx hb dL_change_222 (by decide) ?_
    refine lv_iload_n hx hb dL_change_224 rfl (lv_at hl 5 rfl) ?_
    refine lv_bipush (v := (40 : Int32)) hx hb dL_change_225 (by decide) ?_
    obtain ⟨v42, hc, h⟩ := zb1_s h
    refine zE_i (zrS (As := [.int p4, .int (40 : Int32)]) (rest := [.int (30 : Int32), .int v41, .int v38, .ref (a 0)]) hx hb hml hown hts tw254 ms_L_low ⟨Nat.le_of_ble_eq_true rfl, Nat.le_of_ble_eq_true rfl⟩ rfl rfl (ct_L_low l p4 (40 : Int32) k v42 hc) z_p0 hl.1 rfl rfl (Nat.le_of_ble_eq_true rfl) dL_change_227 ⟨Nat.le_refl _, Nat.le_refl _⟩) ?_
    refine o_iadd hx hb dL_change_230 h (fun v43 h => ?_)
    obtain ⟨v44, f45, g46, nx47, hz48, hc, h⟩ := zb5_s h
    refine zG_i (w1 := wX7 ct a f45 g46 nx47 hz48 sw fl sg pl pa pk pn pf pg) (ws' := wX7 ct a f45 g46 nx47 hz48 sw fl sg pl pa pk pn pf pg) hP hD hS hA [0, 1, 2, 3, 4, 5, 6, 7, 8, 9, 10, 11, 12, 13, 14, 15, 16, 17, 18, 19, 20, 21] [] [0, 1, 2, 3, 4, 5, 6, 7, 8, 9, 10, 11, 12, 13, 14, 15, 16, 17, 18, 19, 20, 21] rfl rfl (by decide) (by decide) rfl (by decide) (zrV (C := RX7) (As := [.int v38, .int v41, .int v43]) (rest := []) hx hb hml hown hts tw336 mv_X7_order ⟨Nat.le_of_ble_eq_true rfl, Nat.le_of_ble_eq_true rfl⟩ rfl rfl (ct_X7_order l D ct a f g nx hz sw fl sg pl pa pk pn pf pg _ v38 v41 v43 k v44 f45 g46 nx47 hz48 hc) (z_wv hK hP hD [0, 1, 2, 3, 4, 5, 6, 7, 8, 9, 10, 11, 12, 13, 14, 15, 16, 17, 18, 19, 20, 21] (by decide) rfl 0 rfl rfl) hl.1 rfl rfl (Nat.le_of_ble_eq_true rfl) dL_change_231 ⟨Nat.le_refl _, Nat.le_refl _⟩) (fun H locs hP hD hS => ?_)
    cases h
    exact zX_i hx hb hr hlocks hP hD hS hAe dL_change_234 rfl
  refine o_sw h (fun q9 h => ?_) (fun q9 h => ?_)
  · refine lv_tableIn (off := (206 : Int)) (tgt := 235) hx hb dL_change_29 (by rw [q9]; decide) (by rw [q9]; decide) (by rw [q9]; decide) (by decide) ?_
    refine lv_iload hx hb dL_change_235 (lv_at hl 1 rfl) ?_
    refine lv_aload_n hx hb dL_change_237 rfl (lv_at hl 2 rfl) ?_
    refine lv_iconst (v := (1 : Int32)) hx hb dL_change_238 (by decide) ?_
    obtain ⟨v49, hc, h⟩ := zb1_s h
    refine zE_i (zrV (C := RX7) (As := [.int (1 : Int32)]) (rest := [.int v3]) hx hb hml hown hts tw152 mv_X7_count ⟨Nat.le_of_ble_eq_true rfl, Nat.le_of_ble_eq_true rfl⟩ rfl rfl (ct_X7_count l D ct a f g nx hz sw fl sg pl pa pk pn pf pg (1 : Int32) k v49 hc) (z_pv hK hP [0, 1, 2, 3, 4, 5, 6, 7, 8, 9, 10, 11, 12, 13, 14, 15, 16, 17, 18, 19, 20, 21] rfl 0 rfl rfl) hl.1 rfl rfl (Nat.le_of_ble_eq_true rfl) dL_change_239 ⟨Nat.le_refl _, Nat.le_refl _⟩) ?_
    refine zc_ge (tgt := 285) hx hb dL_change_242 (by decide) h (fun h => ?_) (fun h => ?_)
    · refine lv_aload_n hx hb dL_change_285 rfl (lv_at hl 2 rfl) ?_
      refine lv_iconst (v := (0 : Int32)) hx hb dL_change_286 (by decide) ?_
      refine lv_iconst (v := (1 : Int32)) hx hb dL_change_287 (by decide) ?_
      refine lv_iconst (v := (1 : Int32)) hx hb dL_change_288 (by decide) ?_
      obtain ⟨v50, f51, g52, nx53, hz54, hc, h⟩ := zb5_s h
      refine zG_i (w1 := wX7 ct a f51 g52 nx53 hz54 sw fl sg pl pa pk pn pf pg) (ws' := wX7 ct a f51 g52 nx53 hz54 sw fl sg pl pa pk pn pf pg) hP hD hS hA [0, 1, 2, 3, 4, 5, 6, 7, 8, 9, 10, 11, 12, 13, 14, 15, 16, 17, 18, 19, 20, 21] [] [0, 1, 2, 3, 4, 5, 6, 7, 8, 9, 10, 11, 12, 13, 14, 15, 16, 17, 18, 19, 20, 21] rfl rfl (by decide) (by decide) rfl (by decide) (zrV (C := RX7) (As := [.int (0 : Int32), .int (1 : Int32), .int (1 : Int32)]) (rest := []) hx hb hml hown hts tw336 mv_X7_order ⟨Nat.le_of_ble_eq_true rfl, Nat.le_of_ble_eq_true rfl⟩ rfl rfl (ct_X7_order l D ct a f g nx hz sw fl sg pl pa pk pn pf pg _ (0 : Int32) (1 : Int32) (1 : Int32) k v50 f51 g52 nx53 hz54 hc) (z_wv hK hP hD [0, 1, 2, 3, 4, 5, 6, 7, 8, 9, 10, 11, 12, 13, 14, 15, 16, 17, 18, 19, 20, 21] (by decide) rfl 0 rfl rfl) hl.1 rfl rfl (Nat.le_of_ble_eq_true rfl) dL_change_289 ⟨Nat.le_refl _, Nat.le_refl _⟩) (fun H locs hP hD hS => ?_)
      cases h
      exact zX_i hx hb hr hlocks hP hD hS hAe dL_change_292 rfl
    · refine lv_aload_n hx hb dL_change_245 rfl (lv_at hl 2 rfl) ?_
      refine lv_iconst (v := (1 : Int32)) hx hb dL_change_246 (by decide) ?_
      refine lv_aload_n hx hb dL_change_247 rfl (lv_at hl 2 rfl) ?_
      refine lv_iload hx hb dL_change_248 (lv_at hl 1 rfl) ?_
      refine lv_iconst (v := (1 : Int32)) hx hb dL_change_250 (by decide) ?_
      obtain ⟨v55, hc, h⟩ := zb1_s h
      refine zE_i (zrV (C := RX7) (As := [.int v3, .int (1 : Int32)]) (rest := [.int (1 : Int32), .ref (a 0)]) hx hb hml hown hts tw363 mv_X7_of ⟨Nat.le_of_ble_eq_true rfl, Nat.le_of_ble_eq_true rfl⟩ rfl rfl (ct_X7_of l D ct a f g nx hz sw fl sg pl pa pk pn pf pg v3 (1 : Int32) k v55 hc) (z_pv hK hP [0, 1, 2, 3, 4, 5, 6, 7, 8, 9, 10, 11, 12, 13, 14, 15, 16, 17, 18, 19, 20, 21] rfl 0 rfl rfl) hl.1 rfl rfl (Nat.le_of_ble_eq_true rfl) dL_change_251 ⟨Nat.le_refl _, Nat.le_refl _⟩) ?_
      refine o_iadd hx hb dL_change_254 h (fun v56 h => ?_)
      refine lv_aload_n hx hb dL_change_255 rfl (lv_at hl 2 rfl) ?_
      refine lv_iload hx hb dL_change_256 (lv_at hl 1 rfl) ?_
      refine lv_iconst (v := (1 : Int32)) hx hb dL_change_258 (by decide) ?_
      obtain ⟨v57, hc, h⟩ := zb1_s h
      refine zE_i (zrV (C := RX7) (As := [.int v3, .int (1 : Int32)]) (rest := [.int v56, .ref (a 0)]) hx hb hml hown hts tw363 mv_X7_of ⟨Nat.le_of_ble_eq_true rfl, Nat.le_of_ble_eq_true rfl⟩ rfl rfl (ct_X7_of l D ct a f g nx hz sw fl sg pl pa pk pn pf pg v3 (1 : Int32) k v57 hc) (z_pv hK hP [0, 1, 2, 3, 4, 5, 6, 7, 8, 9, 10, 11, 12, 13, 14, 15, 16, 17, 18, 19, 20, 21] rfl 0 rfl rfl) hl.1 rfl rfl (Nat.le_of_ble_eq_true rfl) dL_change_259 ⟨Nat.le_refl _, Nat.le_refl _⟩) ?_
      refine lv_iconst (v := (4 : Int32)) hx hb dL_change_262 (by decide) ?_
      refine o_irem hx hb dL_change_263 (by decide) h (fun v58 h => ?_)
      refine o_isub hx hb dL_change_264 h (fun v59 h => ?_)
      refine lv_aload_n hx hb dL_change_265 rfl (lv_at hl 2 rfl) ?_
      refine lv_iload hx hb dL_change_266 (lv_at hl 1 rfl) ?_
      refine lv_iconst (v := (0 : Int32)) hx hb dL_change_268 (by decide) ?_
      obtain ⟨v60, hc, h⟩ := zb1_s h
      refine zE_i (zrV (C := RX7) (As := [.int v3, .int (0 : Int32)]) (rest := [.int v59, .ref (a 0)]) hx hb hml hown hts tw363 mv_X7_of ⟨Nat.le_of_ble_eq_true rfl, Nat.le_of_ble_eq_true rfl⟩ rfl rfl (ct_X7_of l D ct a f g nx hz sw fl sg pl pa pk pn pf pg v3 (0 : Int32) k v60 hc) (z_pv hK hP [0, 1, 2, 3, 4, 5, 6, 7, 8, 9, 10, 11, 12, 13, 14, 15, 16, 17, 18, 19, 20, 21] rfl 0 rfl rfl) hl.1 rfl rfl (Nat.le_of_ble_eq_true rfl) dL_change_269 ⟨Nat.le_refl _, Nat.le_refl _⟩) ?_
      refine lv_aload_n hx hb dL_change_272 rfl (lv_at hl 2 rfl) ?_
      refine lv_iload hx hb dL_change_273 (lv_at hl 1 rfl) ?_
      refine lv_iconst (v := (2 : Int32)) hx hb dL_change_275 (by decide) ?_
      obtain ⟨v61, hc, h⟩ := zb1_s h
      refine zE_i (zrV (C := RX7) (As := [.int v3, .int (2 : Int32)]) (rest := [.int v60, .int v59, .ref (a 0)]) hx hb hml hown hts tw363 mv_X7_of ⟨Nat.le_of_ble_eq_true rfl, Nat.le_of_ble_eq_true rfl⟩ rfl rfl (ct_X7_of l D ct a f g nx hz sw fl sg pl pa pk pn pf pg v3 (2 : Int32) k v61 hc) (z_pv hK hP [0, 1, 2, 3, 4, 5, 6, 7, 8, 9, 10, 11, 12, 13, 14, 15, 16, 17, 18, 19, 20, 21] rfl 0 rfl rfl) hl.1 rfl rfl (Nat.le_of_ble_eq_true rfl) dL_change_276 ⟨Nat.le_refl _, Nat.le_refl _⟩) ?_
      obtain ⟨v62, f63, g64, nx65, hz66, hc, h⟩ := zb5_s h
      refine zG_i (w1 := wX7 ct a f63 g64 nx65 hz66 sw fl sg pl pa pk pn pf pg) (ws' := wX7 ct a f63 g64 nx65 hz66 sw fl sg pl pa pk pn pf pg) hP hD hS hA [0, 1, 2, 3, 4, 5, 6, 7, 8, 9, 10, 11, 12, 13, 14, 15, 16, 17, 18, 19, 20, 21] [] [0, 1, 2, 3, 4, 5, 6, 7, 8, 9, 10, 11, 12, 13, 14, 15, 16, 17, 18, 19, 20, 21] rfl rfl (by decide) (by decide) rfl (by decide) (zrV (C := RX7) (As := [.int v59, .int v60, .int v61]) (rest := []) hx hb hml hown hts tw336 mv_X7_order ⟨Nat.le_of_ble_eq_true rfl, Nat.le_of_ble_eq_true rfl⟩ rfl rfl (ct_X7_order l D ct a f g nx hz sw fl sg pl pa pk pn pf pg _ v59 v60 v61 k v62 f63 g64 nx65 hz66 hc) (z_wv hK hP hD [0, 1, 2, 3, 4, 5, 6, 7, 8, 9, 10, 11, 12, 13, 14, 15, 16, 17, 18, 19, 20, 21] (by decide) rfl 0 rfl rfl) hl.1 rfl rfl (Nat.le_of_ble_eq_true rfl) dL_change_279 ⟨Nat.le_refl _, Nat.le_refl _⟩) (fun H locs hP hD hS => ?_)
      refine lv_goto (tgt := 292) hx hb dL_change_282 (by decide) ?_
      cases h
      exact zX_i hx hb hr hlocks hP hD hS hAe dL_change_292 rfl
  refine o_sw h (fun q10 h => ?_) (fun q10 h => ?_)
  · refine lv_tableIn (off := (264 : Int)) (tgt := 293) hx hb dL_change_29 (by rw [q10]; decide) (by rw [q10]; decide) (by rw [q10]; decide) (by decide) ?_
    exact B293 f g nx hz v7 h _ _ hP hD hS ls (lv_sub hl [2, 5, 0] rfl)
  refine o_sw h (fun q11 h => ?_) (fun q11 h => ?_)
  · refine lv_tableIn (off := (264 : Int)) (tgt := 293) hx hb dL_change_29 (by rw [q11]; decide) (by rw [q11]; decide) (by rw [q11]; decide) (by decide) ?_
    exact B293 f g nx hz v7 h _ _ hP hD hS ls (lv_sub hl [2, 5, 0] rfl)
  refine o_sw h (fun q12 h => ?_) (fun q12 h => ?_)
  · refine lv_tableIn (off := (282 : Int)) (tgt := 311) hx hb dL_change_29 (by rw [q12]; decide) (by rw [q12]; decide) (by rw [q12]; decide) (by decide) ?_
    refine lv_aload_n hx hb dL_change_311 rfl (lv_at hl 2 rfl) ?_
    refine lv_iload hx hb dL_change_312 (lv_at hl 0 rfl) ?_
    obtain ⟨v75, f76, g77, nx78, hz79, hc, h⟩ := zb5_s h
    refine zG_i (w1 := wX7 ct a f76 g77 nx78 hz79 sw fl sg pl pa pk pn pf pg) (ws' := wX7 ct a f76 g77 nx78 hz79 sw fl sg pl pa pk pn pf pg) hP hD hS hA [0, 1, 2, 3, 4, 5, 6, 7, 8, 9, 10, 11, 12, 13, 14, 15, 16, 17, 18, 19, 20, 21] [] [0, 1, 2, 3, 4, 5, 6, 7, 8, 9, 10, 11, 12, 13, 14, 15, 16, 17, 18, 19, 20, 21] rfl rfl (by decide) (by decide) rfl (by decide) (zrV (C := RX7) (As := [.int v7]) (rest := []) hx hb hml hown hts tw396 mv_X7_takeBack ⟨Nat.le_of_ble_eq_true rfl, Nat.le_of_ble_eq_true rfl⟩ rfl rfl (ct_X7_takeBack l D ct a f g nx hz sw fl sg pl pa pk pn pf pg _ v7 k v75 f76 g77 nx78 hz79 hc) (z_wv hK hP hD [0, 1, 2, 3, 4, 5, 6, 7, 8, 9, 10, 11, 12, 13, 14, 15, 16, 17, 18, 19, 20, 21] (by decide) rfl 0 rfl rfl) hl.1 rfl rfl (Nat.le_of_ble_eq_true rfl) dL_change_314 ⟨Nat.le_refl _, Nat.le_refl _⟩) (fun H locs hP hD hS => ?_)
    cases h
    exact zX_i hx hb hr hlocks hP hD hS hAe dL_change_317 rfl
  refine o_sw h (fun q13 h => ?_) (fun q13 h => ?_)
  · refine lv_tableIn (off := (289 : Int)) (tgt := 318) hx hb dL_change_29 (by rw [q13]; decide) (by rw [q13]; decide) (by rw [q13]; decide) (by decide) ?_
    refine lv_aload_n hx hb dL_change_318 rfl (lv_at hl 2 rfl) ?_
    refine lv_iload_n hx hb dL_change_319 rfl (lv_at hl 4 rfl) ?_
    refine lv_iconst (v := (4 : Int32)) hx hb dL_change_320 (by decide) ?_
    obtain ⟨v80, hc, h⟩ := zb1_s h
    refine zE_i (zrS (As := [.int p3, .int (4 : Int32)]) (rest := [.ref (a 0)]) hx hb hml hown hts tw254 ms_L_low ⟨Nat.le_of_ble_eq_true rfl, Nat.le_of_ble_eq_true rfl⟩ rfl rfl (ct_L_low l p3 (4 : Int32) k v80 hc) z_p0 hl.1 rfl rfl (Nat.le_of_ble_eq_true rfl) dL_change_321 ⟨Nat.le_refl _, Nat.le_refl _⟩) ?_
    refine lv_bipush (v := (100 : Int32)) hx hb dL_change_324 (by decide) ?_
    refine lv_iload_n hx hb dL_change_326 rfl (lv_at hl 4 rfl) ?_
    refine lv_iconst (v := (3 : Int32)) hx hb dL_change_327 (by decide) ?_
    refine o_ishr hx hb dL_change_328 h (fun v81 h => ?_)
    refine lv_sipush (v := (20000 : Int32)) hx hb dL_change_329 (by decide) ?_
    obtain ⟨v82, hc, h⟩ := zb1_s h
    refine zE_i (zrS (As := [.int v81, .int (20000 : Int32)]) (rest := [.int (100 : Int32), .int v80, .ref (a 0)]) hx hb hml hown hts tw254 ms_L_low ⟨Nat.le_of_ble_eq_true rfl, Nat.le_of_ble_eq_true rfl⟩ rfl rfl (ct_L_low l v81 (20000 : Int32) k v82 hc) z_p0 hl.1 rfl rfl (Nat.le_of_ble_eq_true rfl) dL_change_332 ⟨Nat.le_refl _, Nat.le_refl _⟩) ?_
    refine o_iadd hx hb dL_change_335 h (fun v83 h => ?_)
    refine lv_bipush (v := (100 : Int32)) hx hb dL_change_336 (by decide) ?_
    refine lv_iload_n hx hb dL_change_338 rfl (lv_at hl 5 rfl) ?_
    refine lv_sipush (v := (20000 : Int32)) hx hb dL_change_339 (by decide) ?_
    obtain ⟨v84, hc, h⟩ := zb1_s h
    refine zE_i (zrS (As := [.int p4, .int (20000 : Int32)]) (rest := [.int (100 : Int32), .int v83, .int v80, .ref (a 0)]) hx hb hml hown hts tw254 ms_L_low ⟨Nat.le_of_ble_eq_true rfl, Nat.le_of_ble_eq_true rfl⟩ rfl rfl (ct_L_low l p4 (20000 : Int32) k v84 hc) z_p0 hl.1 rfl rfl (Nat.le_of_ble_eq_true rfl) dL_change_342 ⟨Nat.le_refl _, Nat.le_refl _⟩) ?_
    refine o_iadd hx hb dL_change_345 h (fun v85 h => ?_)
    refine lv_bipush (v := (50 : Int32)) hx hb dL_change_346 (by decide) ?_
    refine lv_iload_n hx hb dL_change_348 rfl (lv_at hl 5 rfl) ?_
    refine lv_bipush (v := (8 : Int32)) hx hb dL_change_349 (by decide) ?_
    refine o_ishr hx hb dL_change_351 h (fun v86 h => ?_)
    refine lv_sipush (v := (30000 : Int32)) hx hb dL_change_352 (by decide) ?_
    obtain ⟨v87, hc, h⟩ := zb1_s h
    refine zE_i (zrS (As := [.int v86, .int (30000 : Int32)]) (rest := [.int (50 : Int32), .int v85, .int v83, .int v80, .ref (a 0)]) hx hb hml hown hts tw254 ms_L_low ⟨Nat.le_of_ble_eq_true rfl, Nat.le_of_ble_eq_true rfl⟩ rfl rfl (ct_L_low l v86 (30000 : Int32) k v87 hc) z_p0 hl.1 rfl rfl (Nat.le_of_ble_eq_true rfl) dL_change_355 ⟨Nat.le_refl _, Nat.le_refl _⟩) ?_
    refine o_iadd hx hb dL_change_358 h (fun v88 h => ?_)
    obtain ⟨v89, f90, g91, nx92, hz93, hc, h⟩ := zb5_s h
    refine zG_i (w1 := wX7 ct a f90 g91 nx92 hz93 sw fl sg pl pa pk pn pf pg) (ws' := wX7 ct a f90 g91 nx92 hz93 sw fl sg pl pa pk pn pf pg) hP hD hS hA [0, 1, 2, 3, 4, 5, 6, 7, 8, 9, 10, 11, 12, 13, 14, 15, 16, 17, 18, 19, 20, 21] [] [0, 1, 2, 3, 4, 5, 6, 7, 8, 9, 10, 11, 12, 13, 14, 15, 16, 17, 18, 19, 20, 21] rfl rfl (by decide) (by decide) rfl (by decide) (zrV (C := RX7) (As := [.int v80, .int v83, .int v85, .int v88]) (rest := []) hx hb hml hown hts tw405 mv_X7_limits ⟨Nat.le_of_ble_eq_true rfl, Nat.le_of_ble_eq_true rfl⟩ rfl rfl (ct_X7_limits l D ct a f g nx hz sw fl sg pl pa pk pn pf pg _ v80 v83 v85 v88 k v89 f90 g91 nx92 hz93 hc) (z_wv hK hP hD [0, 1, 2, 3, 4, 5, 6, 7, 8, 9, 10, 11, 12, 13, 14, 15, 16, 17, 18, 19, 20, 21] (by decide) rfl 0 rfl rfl) hl.1 rfl rfl (Nat.le_of_ble_eq_true rfl) dL_change_359 ⟨Nat.le_refl _, Nat.le_refl _⟩) (fun H locs hP hD hS => ?_)
    cases h
    exact zX_i hx hb hr hlocks hP hD hS hAe dL_change_362 rfl
  refine o_sw h (fun q14 h => ?_) (fun q14 h => ?_)
  · refine lv_tableIn (off := (334 : Int)) (tgt := 363) hx hb dL_change_29 (by rw [q14]; decide) (by rw [q14]; decide) (by rw [q14]; decide) (by decide) ?_
    exact B363 f g nx hz v3 h _ _ hP hD hS ls (lv_sub hl [2, 5, 1] rfl)
  refine o_sw h (fun q15 h => ?_) (fun q15 h => ?_)
  · refine lv_tableIn (off := (334 : Int)) (tgt := 363) hx hb dL_change_29 (by rw [q15]; decide) (by rw [q15]; decide) (by rw [q15]; decide) (by decide) ?_
    exact B363 f g nx hz v3 h _ _ hP hD hS ls (lv_sub hl [2, 5, 1] rfl)
  refine o_sw h (fun q16 h => ?_) (fun q16 h => ?_)
  · refine lv_tableIn (off := (354 : Int)) (tgt := 383) hx hb dL_change_29 (by rw [q16]; decide) (by rw [q16]; decide) (by rw [q16]; decide) (by decide) ?_
    refine lv_aload_n hx hb dL_change_383 rfl (lv_at hl 2 rfl) ?_
    refine lv_iload hx hb dL_change_384 (lv_at hl 1 rfl) ?_
    obtain ⟨v102, f103, g104, nx105, hz106, hc, h⟩ := zb5_s h
    refine zG_i (w1 := wX7 ct a f103 g104 nx105 hz106 sw fl sg pl pa pk pn pf pg) (ws' := wX7 ct a f103 g104 nx105 hz106 sw fl sg pl pa pk pn pf pg) hP hD hS hA [0, 1, 2, 3, 4, 5, 6, 7, 8, 9, 10, 11, 12, 13, 14, 15, 16, 17, 18, 19, 20, 21] [] [0, 1, 2, 3, 4, 5, 6, 7, 8, 9, 10, 11, 12, 13, 14, 15, 16, 17, 18, 19, 20, 21] rfl rfl (by decide) (by decide) rfl (by decide) (zrV (C := RX7) (As := [.int v3]) (rest := []) hx hb hml hown hts tw440 mv_X7_unload ⟨Nat.le_of_ble_eq_true rfl, Nat.le_of_ble_eq_true rfl⟩ rfl rfl (ct_X7_unload l D ct a f g nx hz sw fl sg pl pa pk pn pf pg _ v3 k v102 f103 g104 nx105 hz106 hc) (z_wv hK hP hD [0, 1, 2, 3, 4, 5, 6, 7, 8, 9, 10, 11, 12, 13, 14, 15, 16, 17, 18, 19, 20, 21] (by decide) rfl 0 rfl rfl) hl.1 rfl rfl (Nat.le_of_ble_eq_true rfl) dL_change_386 ⟨Nat.le_refl _, Nat.le_refl _⟩) (fun H locs hP hD hS => ?_)
    cases h
    exact zX_i hx hb hr hlocks hP hD hS hAe dL_change_389 rfl
  refine o_sw h (fun q17 h => ?_) (fun q17 h => ?_)
  · refine lv_tableIn (off := (361 : Int)) (tgt := 390) hx hb dL_change_29 (by rw [q17]; decide) (by rw [q17]; decide) (by rw [q17]; decide) (by decide) ?_
    refine lv_aload_n hx hb dL_change_390 rfl (lv_at hl 2 rfl) ?_
    refine lv_iload_n hx hb dL_change_391 rfl (lv_at hl 4 rfl) ?_
    refine lv_iconst (v := (4 : Int32)) hx hb dL_change_392 (by decide) ?_
    obtain ⟨v107, hc, h⟩ := zb1_s h
    refine zE_i (zrS (As := [.int p3, .int (4 : Int32)]) (rest := [.ref (a 0)]) hx hb hml hown hts tw254 ms_L_low ⟨Nat.le_of_ble_eq_true rfl, Nat.le_of_ble_eq_true rfl⟩ rfl rfl (ct_L_low l p3 (4 : Int32) k v107 hc) z_p0 hl.1 rfl rfl (Nat.le_of_ble_eq_true rfl) dL_change_393 ⟨Nat.le_refl _, Nat.le_refl _⟩) ?_
    obtain ⟨v108, f109, g110, nx111, hz112, hc, h⟩ := zb5_s h
    refine zG_i (w1 := wX7 ct a f109 g110 nx111 hz112 sw fl sg pl pa pk pn pf pg) (ws' := wX7 ct a f109 g110 nx111 hz112 sw fl sg pl pa pk pn pf pg) hP hD hS hA [0, 1, 2, 3, 4, 5, 6, 7, 8, 9, 10, 11, 12, 13, 14, 15, 16, 17, 18, 19, 20, 21] [] [0, 1, 2, 3, 4, 5, 6, 7, 8, 9, 10, 11, 12, 13, 14, 15, 16, 17, 18, 19, 20, 21] rfl rfl (by decide) (by decide) rfl (by decide) (zrV (C := RX7) (As := [.int v107]) (rest := []) hx hb hml hown hts tw448 mv_X7_leave ⟨Nat.le_of_ble_eq_true rfl, Nat.le_of_ble_eq_true rfl⟩ rfl rfl (ct_X7_leave l D ct a f g nx hz sw fl sg pl pa pk pn pf pg _ v107 k v108 f109 g110 nx111 hz112 hc) (z_wv hK hP hD [0, 1, 2, 3, 4, 5, 6, 7, 8, 9, 10, 11, 12, 13, 14, 15, 16, 17, 18, 19, 20, 21] (by decide) rfl 0 rfl rfl) hl.1 rfl rfl (Nat.le_of_ble_eq_true rfl) dL_change_396 ⟨Nat.le_refl _, Nat.le_refl _⟩) (fun H locs hP hD hS => ?_)
    cases h
    exact zX_i hx hb hr hlocks hP hD hS hAe dL_change_399 rfl
  refine o_sw h (fun q18 h => ?_) (fun q18 h => ?_)
  · refine lv_tableIn (off := (371 : Int)) (tgt := 400) hx hb dL_change_29 (by rw [q18]; decide) (by rw [q18]; decide) (by rw [q18]; decide) (by decide) ?_
    exact B400 f g nx hz h _ _ hP hD hS ls (lv_sub hl [2, 4] rfl)
  refine o_sw h (fun q19 h => ?_) (fun q19 h => ?_)
  · refine lv_tableIn (off := (371 : Int)) (tgt := 400) hx hb dL_change_29 (by rw [q19]; decide) (by rw [q19]; decide) (by rw [q19]; decide) (by decide) ?_
    exact B400 f g nx hz h _ _ hP hD hS ls (lv_sub hl [2, 4] rfl)
  · refine lv_tableOut (tgt := 414) hx hb dL_change_29 (by have w0 := lv_neT (a := 0) q0 rfl; have w1 := lv_neT (a := 1) q1 rfl; have w2 := lv_neT (a := 2) q2 rfl; have w3 := lv_neT (a := 3) q3 rfl; have w4 := lv_neT (a := 4) q4 rfl; have w5 := lv_neT (a := 5) q5 rfl; have w6 := lv_neT (a := 6) q6 rfl; have w7 := lv_neT (a := 7) q7 rfl; have w8 := lv_neT (a := 8) q8 rfl; have w9 := lv_neT (a := 9) q9 rfl; have w10 := lv_neT (a := 10) q10 rfl; have w11 := lv_neT (a := 11) q11 rfl; have w12 := lv_neT (a := 12) q12 rfl; have w13 := lv_neT (a := 13) q13 rfl; have w14 := lv_neT (a := 14) q14 rfl; have w15 := lv_neT (a := 15) q15 rfl; have w16 := lv_neT (a := 16) q16 rfl; have w17 := lv_neT (a := 17) q17 rfl; have w18 := lv_neT (a := 18) q18 rfl; have w19 := lv_neT (a := 19) q19 rfl; omega) (by decide) ?_
    refine lv_aload_n hx hb dL_change_414 rfl (lv_at hl 2 rfl) ?_
    refine lv_iload_n hx hb dL_change_415 rfl (lv_at hl 4 rfl) ?_
    refine lv_iconst (v := (5 : Int32)) hx hb dL_change_416 (by decide) ?_
    obtain ⟨v120, hc, h⟩ := zb1_s h
    refine zE_i (zrS (As := [.int p3, .int (5 : Int32)]) (rest := [.ref (a 0)]) hx hb hml hown hts tw254 ms_L_low ⟨Nat.le_of_ble_eq_true rfl, Nat.le_of_ble_eq_true rfl⟩ rfl rfl (ct_L_low l p3 (5 : Int32) k v120 hc) z_p0 hl.1 rfl rfl (Nat.le_of_ble_eq_true rfl) dL_change_417 ⟨Nat.le_refl _, Nat.le_refl _⟩) ?_
    refine lv_iload_n hx hb dL_change_420 rfl (lv_at hl 5 rfl) ?_
    refine lv_bipush (v := (36 : Int32)) hx hb dL_change_421 (by decide) ?_
    obtain ⟨v121, hc, h⟩ := zb1_s h
    refine zE_i (zrS (As := [.int p4, .int (36 : Int32)]) (rest := [.int v120, .ref (a 0)]) hx hb hml hown hts tw254 ms_L_low ⟨Nat.le_of_ble_eq_true rfl, Nat.le_of_ble_eq_true rfl⟩ rfl rfl (ct_L_low l p4 (36 : Int32) k v121 hc) z_p0 hl.1 rfl rfl (Nat.le_of_ble_eq_true rfl) dL_change_423 ⟨Nat.le_refl _, Nat.le_refl _⟩) ?_
    refine lv_bipush (v := (6 : Int32)) hx hb dL_change_426 (by decide) ?_
    refine o_isub hx hb dL_change_428 h (fun v122 h => ?_)
    obtain ⟨v123, f124, g125, nx126, hz127, hc, h⟩ := zb5_s h
    refine zG_i (w1 := wX7 ct a f124 g125 nx126 hz127 sw fl sg pl pa pk pn pf pg) (ws' := wX7 ct a f124 g125 nx126 hz127 sw fl sg pl pa pk pn pf pg) hP hD hS hA [0, 1, 2, 3, 4, 5, 6, 7, 8, 9, 10, 11, 12, 13, 14, 15, 16, 17, 18, 19, 20, 21] [] [0, 1, 2, 3, 4, 5, 6, 7, 8, 9, 10, 11, 12, 13, 14, 15, 16, 17, 18, 19, 20, 21] rfl rfl (by decide) (by decide) rfl (by decide) (zrV (C := RX7) (As := [.int v120, .int v122]) (rest := []) hx hb hml hown hts tw505 mv_X7_set ⟨Nat.le_of_ble_eq_true rfl, Nat.le_of_ble_eq_true rfl⟩ rfl rfl (ct_X7_set l D ct a st f g nx hz sw fl sg pl pa pk pn pf pg _ v120 v122 k v123 f124 g125 nx126 hz127 hc) (z_zv hZ hK hP hD hS hA [0, 1, 2, 3, 4, 5, 6, 7, 8, 9, 10, 11, 12, 13, 14, 15, 16, 17, 18, 19, 20, 21] (by decide) rfl 0 rfl rfl) hl.1 rfl rfl (Nat.le_of_ble_eq_true rfl) dL_change_429 ⟨Nat.le_refl _, Nat.le_refl _⟩) (fun H locs hP hD hS => ?_)
    cases h
    exact zX_i hx hb hr hlocks hP hD hS hAe dL_change_432 rfl

def f_L_isBlock_b281 (k : Nat) (f : Nat → Int32) (hz : Int32) (pl : Int32) (p2 : Int32)   : Option (Int32) :=
  some (0 : Int32)
def f_L_isBlock_b274 (k : Nat) (f : Nat → Int32) (hz : Int32) (pl : Int32) (p2 : Int32)  (y0 : Int32) (y1 : Int32) : Option (Int32) :=
  if y1 = y0 then
    some (1 : Int32)
  else
    f_L_isBlock_b281 k f hz pl p2
def f_L_isBlock_b273 (k : Nat) (f : Nat → Int32) (hz : Int32) (pl : Int32) (p2 : Int32)  (y0 : Int32) : Option (Int32) :=
  f_L_isBlock_b274 k f hz pl p2 (0 : Int32) y0
def f_L_isBlock_b230 (k : Nat) (f : Nat → Int32) (hz : Int32) (pl : Int32) (p2 : Int32)  (x2 : Int32) (y0 : Int32) : Option (Int32) :=
  if y0 = 0 then
    f_L_isBlock_b281 k f hz pl p2
  else
    zb1 (f_X7_ifFrost k f) fun v13 =>
    zl (v13 >>> (p2 &&& 31)) fun v14 =>
    zl (v14 &&& (1 : Int32)) fun v15 =>
    if x2 = 0 then
      zb1 (f_X7_of k f p2 (6 : Int32)) fun v16 =>
      if v16 ≤ 0 then
        f_L_isBlock_b273 k f hz pl p2 v15
      else
        zb1 (f_X7_of k f p2 (7 : Int32)) fun v17 =>
        if v17 = 0 then
          f_L_isBlock_b274 k f hz pl p2 (1 : Int32) v15
        else
          f_L_isBlock_b273 k f hz pl p2 v15
    else
      f_L_isBlock_b273 k f hz pl p2 v15
def f_L_isBlock_b229 (k : Nat) (f : Nat → Int32) (hz : Int32) (pl : Int32) (p2 : Int32)  (x2 : Int32) : Option (Int32) :=
  f_L_isBlock_b230 k f hz pl p2 x2 (0 : Int32)
def f_L_isBlock_b214 (k : Nat) (f : Nat → Int32) (hz : Int32) (pl : Int32) (p2 : Int32)  (x2 : Int32) : Option (Int32) :=
  zb1 (f_X7_of k f p2 (10 : Int32)) fun v18 =>
  if p2 ≤ v18 then
    f_L_isBlock_b229 k f hz pl p2 x2
  else
    f_L_isBlock_b230 k f hz pl p2 x2 (1 : Int32)
def f_L_isBlock_b182 (k : Nat) (f : Nat → Int32) (hz : Int32) (pl : Int32) (p2 : Int32)  (x2 : Int32) (x3 : Int32) (y0 : Int32) : Option (Int32) :=
  if y0 = 0 then
    f_L_isBlock_b229 k f hz pl p2 x2
  else
    if x3 = (-6 : Int32) then
      f_L_isBlock_b214 k f hz pl p2 x2
    else
      zb1 (f_X7_ofOrder k f x3 (4 : Int32)) fun v19 =>
      if v19 = p2 then
        zb1 (f_X7_ofOrder k f x3 (3 : Int32)) fun v20 =>
        if v20 ≤ 0 then
          f_L_isBlock_b229 k f hz pl p2 x2
        else
          f_L_isBlock_b214 k f hz pl p2 x2
      else
        f_L_isBlock_b229 k f hz pl p2 x2
def f_L_isBlock_b181 (k : Nat) (f : Nat → Int32) (hz : Int32) (pl : Int32) (p2 : Int32)  (x2 : Int32) (x3 : Int32) : Option (Int32) :=
  f_L_isBlock_b182 k f hz pl p2 x2 x3 (0 : Int32)
def f_L_isBlock_b174 (k : Nat) (f : Nat → Int32) (hz : Int32) (pl : Int32) (p2 : Int32)  (x2 : Int32) (x3 : Int32) (y0 : Int32) (y1 : Int32) : Option (Int32) :=
  if y1 = y0 then
    f_L_isBlock_b182 k f hz pl p2 x2 x3 (1 : Int32)
  else
    f_L_isBlock_b181 k f hz pl p2 x2 x3
def f_L_isBlock_b155 (k : Nat) (f : Nat → Int32) (hz : Int32) (pl : Int32) (p2 : Int32)  (x2 : Int32) (x3 : Int32) : Option (Int32) :=
  zb1 (f_X7_count k f hz pl (4 : Int32)) fun v21 =>
  zl (v21 >>> (p2 &&& 31)) fun v22 =>
  zl (v22 &&& (1 : Int32)) fun v23 =>
  if x2 = (1 : Int32) then
    f_L_isBlock_b174 k f hz pl p2 x2 x3 (1 : Int32) v23
  else
    f_L_isBlock_b174 k f hz pl p2 x2 x3 (0 : Int32) v23
def f_L_isBlock_b128 (k : Nat) (f : Nat → Int32) (hz : Int32) (pl : Int32) (p2 : Int32)  (x2 : Int32) (x3 : Int32) (x4 : Int32) (y0 : Int32) (y1 : Int32) : Option (Int32) :=
  if y1 = y0 then
    if x4 = (-6 : Int32) then
      f_L_isBlock_b155 k f hz pl p2 x2 x3
    else
      zl (x4 / (5 : Int32)) fun v24 =>
      zb1 (f_X7_ofLorry k f v24 (3 : Int32)) fun v25 =>
      zl (v25 >>> (p2 &&& 31)) fun v26 =>
      zl (v26 &&& (1 : Int32)) fun v27 =>
      if v27 = (1 : Int32) then
        f_L_isBlock_b155 k f hz pl p2 x2 x3
      else
        f_L_isBlock_b181 k f hz pl p2 x2 x3
  else
    f_L_isBlock_b181 k f hz pl p2 x2 x3
def f_L_isBlock_b118 (k : Nat) (f : Nat → Int32) (hz : Int32) (pl : Int32) (p2 : Int32)  (x2 : Int32) (x3 : Int32) (x4 : Int32) (y0 : Int32) : Option (Int32) :=
  if x2 = (2 : Int32) then
    f_L_isBlock_b128 k f hz pl p2 x2 x3 x4 (0 : Int32) y0
  else
    f_L_isBlock_b128 k f hz pl p2 x2 x3 x4 (1 : Int32) y0
def f_L_isBlock_b99 (k : Nat) (f : Nat → Int32) (hz : Int32) (pl : Int32) (p2 : Int32)  (x2 : Int32) (x3 : Int32) (x4 : Int32) (y0 : Int32) : Option (Int32) :=
  if y0 = 0 then
    f_L_isBlock_b181 k f hz pl p2 x2 x3
  else
    if x4 = (-6 : Int32) then
      f_L_isBlock_b118 k f hz pl p2 x2 x3 x4 (1 : Int32)
    else
      f_L_isBlock_b118 k f hz pl p2 x2 x3 x4 (0 : Int32)
def f_L_isBlock_b98 (k : Nat) (f : Nat → Int32) (hz : Int32) (pl : Int32) (p2 : Int32)  (x2 : Int32) (x3 : Int32) (x4 : Int32) : Option (Int32) :=
  f_L_isBlock_b99 k f hz pl p2 x2 x3 x4 (0 : Int32)
def f_L_isBlock (k : Nat) (f : Nat → Int32) (hz : Int32) (pl : Int32) (p2 : Int32) : Option (Int32) :=
  zb1 (f_X7_of k f p2 (5 : Int32)) fun v1 =>
  zb1 (f_X7_of k f p2 (8 : Int32)) fun v2 =>
  zb1 (f_X7_of k f p2 (9 : Int32)) fun v3 =>
  zb1 (f_X7_of k f p2 (4 : Int32)) fun v4 =>
  zb1 (f_X7_of k f p2 (0 : Int32)) fun v5 =>
  zb1 (f_X7_of k f p2 (1 : Int32)) fun v6 =>
  zl (v5 * v6) fun v7 =>
  zb1 (f_X7_of k f p2 (2 : Int32)) fun v8 =>
  zl (v7 * v8) fun v9 =>
  zb1 (f_X7_of k f p2 (3 : Int32)) fun v10 =>
  zl (v9 * v10) fun v11 =>
  zl (v11 / (10000 : Int32)) fun v12 =>
  if v4 = v12 then
    if v1 < 0 then
      f_L_isBlock_b98 k f hz pl p2 v1 v2 v3
    else
      if (4 : Int32) < v1 then
        f_L_isBlock_b98 k f hz pl p2 v1 v2 v3
      else
        zb1 (f_X7_of k f p2 (6 : Int32)) fun v28 =>
        if v28 < 0 then
          f_L_isBlock_b98 k f hz pl p2 v1 v2 v3
        else
          zb1 (f_X7_of k f p2 (6 : Int32)) fun v29 =>
          if (3 : Int32) < v29 then
            f_L_isBlock_b98 k f hz pl p2 v1 v2 v3
          else
            f_L_isBlock_b99 k f hz pl p2 v1 v2 v3 (1 : Int32)
  else
    f_L_isBlock_b98 k f hz pl p2 v1 v2 v3
set_option maxRecDepth 100000 in
set_option maxHeartbeats 4000000 in
theorem ct_L_isBlock (l : Launch) (D : va_G) (ct a : Nat → Nat) (f : Nat → Int32) (g : Nat → Nat → Int32) (nx : Int32) (hz : Int32) (sw : Nat → Nat → Int32) (fl : Nat → Int32) (sg : Nat → Int32) (pl : Int32) (pa : Int32) (pk : Int32) (pn : Nat → Int32) (pf : Int32) (pg : Int32) (p2 : Int32) (k : Nat) (r : Int32) (h : f_L_isBlock k f hz pl p2 = some r) : Met l yL_isBlock (Cond.code yL_isBlock cL_isBlock 6 (some .boolean) :: zT) ({ frames := 7, cells := 0, slots := 0, locals := 162 } : Room) (va_Pc [.ref (a 0), .int p2] (zPR D (zTys ct) (wX7 ct a f g nx hz sw fl sg pl pa pk pn pf pg))) (vp_Si (fun r' => r' = r)) 0 0 (fun _ => False) := by
  refine zMet (cc := cL_isBlock) (maxL := 6) (ret := (some .boolean)) (av := [.ref (a 0), .int p2]) (by decide) (Nat.le_of_ble_eq_true rfl) (fun p e s m below meth c ls hx hb hr hml hts hown hlocks hin hB hl => ?_)
  have hl : lv_has ls 6 [(0, .ref (a 0)), (1, .int p2)] := hl
  have hown : s.vm.findClass RL = some m.cls := hown
  obtain ⟨hP, hK⟩ := hB
  have B281 : ∀ (_ : Unit), f_L_isBlock_b281 k f hz pl p2 = some r → ∀ (ls : Array Slot), lv_has ls 6 [] → W p l e ({ frames := 7, cells := 0, slots := 0, locals := 162 } : Room) s m ([.ref (a 0), .int p2] : List Value).toArray below meth c s.heap [] 0 0 (MQ below (vp_Si (fun r' => r' = r)) ([.ref (a 0), .int p2] : List Value).toArray s 0 0 (fun _ => False)) (F0 m 281 ls []) := by
    intro _ h ls hl
    rw [f_L_isBlock_b281] at h
    refine lv_iconst (v := (0 : Int32)) hx hb dL_isBlock_281 (by decide) ?_
    exact zR_z hx hb hr hlocks dL_isBlock_282 h
  have B274 : ∀ (y0 : Int32) (y1 : Int32), f_L_isBlock_b274 k f hz pl p2 y0 y1 = some r → ∀ (ls : Array Slot), lv_has ls 6 [] → W p l e ({ frames := 7, cells := 0, slots := 0, locals := 162 } : Room) s m ([.ref (a 0), .int p2] : List Value).toArray below meth c s.heap [] 0 0 (MQ below (vp_Si (fun r' => r' = r)) ([.ref (a 0), .int p2] : List Value).toArray s 0 0 (fun _ => False)) (F0 m 274 ls [.int y0, .int y1]) := by
    intro y0 y1 h ls hl
    rw [f_L_isBlock_b274] at h
    refine zc_ne (tgt := 281) hx hb dL_isBlock_274 (by decide) h (fun h => ?_) (fun h => ?_)
    · exact B281 () h ls (lv_sub hl [] rfl)
    · refine lv_iconst (v := (1 : Int32)) hx hb dL_isBlock_277 (by decide) ?_
      refine lv_goto (tgt := 282) hx hb dL_isBlock_278 (by decide) ?_
      exact zR_z hx hb hr hlocks dL_isBlock_282 h
  have B273 : ∀ (y0 : Int32), f_L_isBlock_b273 k f hz pl p2 y0 = some r → ∀ (ls : Array Slot), lv_has ls 6 [] → W p l e ({ frames := 7, cells := 0, slots := 0, locals := 162 } : Room) s m ([.ref (a 0), .int p2] : List Value).toArray below meth c s.heap [] 0 0 (MQ below (vp_Si (fun r' => r' = r)) ([.ref (a 0), .int p2] : List Value).toArray s 0 0 (fun _ => False)) (F0 m 273 ls [.int y0]) := by
    intro y0 h ls hl
    rw [f_L_isBlock_b273] at h
    refine lv_iconst (v := (0 : Int32)) hx hb dL_isBlock_273 (by decide) ?_
    exact B274 (0 : Int32) y0 h ls (lv_sub hl [] rfl)
  have B230 : ∀ (x2 : Int32) (y0 : Int32), f_L_isBlock_b230 k f hz pl p2 x2 y0 = some r → ∀ (ls : Array Slot), lv_has ls 6 [(0, .ref (a 0)), (1, .int p2), (2, .int x2)] → W p l e ({ frames := 7, cells := 0, slots := 0, locals := 162 } : Room) s m ([.ref (a 0), .int p2] : List Value).toArray below meth c s.heap [] 0 0 (MQ below (vp_Si (fun r' => r' = r)) ([.ref (a 0), .int p2] : List Value).toArray s 0 0 (fun _ => False)) (F0 m 230 ls [.int y0]) := by
    intro x2 y0 h ls hl
    rw [f_L_isBlock_b230] at h
    refine lv_istore (lv' := [(5, .int y0), (0, .ref (a 0)), (1, .int p2), (2, .int x2)]) hx hb dL_isBlock_230 hl (by decide) rfl (fun ls hl => ?_)
    refine lv_iload hx hb dL_isBlock_232 (lv_at hl 0 rfl) ?_
    refine zi_eq (tgt := 281) hx hb dL_isBlock_234 (by decide) h (fun h => ?_) (fun h => ?_)
    · exact B281 () h ls (lv_sub hl [] rfl)
    · refine lv_aload_n hx hb dL_isBlock_237 rfl (lv_at hl 1 rfl) ?_
      obtain ⟨v13, hc, h⟩ := zb1_s h
      refine zE_i (zrV (C := RX7) (As := []) (rest := []) hx hb hml hown hts tw548 mv_X7_ifFrost ⟨Nat.le_of_ble_eq_true rfl, Nat.le_of_ble_eq_true rfl⟩ rfl rfl (ct_X7_ifFrost l D ct a f g nx hz sw fl sg pl pa pk pn pf pg k v13 hc) (z_pv hK hP [0, 1, 2, 3, 4, 5, 6, 7, 8, 9, 10, 11, 12, 13, 14, 15, 16, 17, 18, 19, 20, 21] rfl 0 rfl rfl) hl.1 rfl rfl (Nat.le_of_ble_eq_true rfl) dL_isBlock_238 ⟨Nat.le_refl _, Nat.le_refl _⟩) ?_
      refine lv_iload_n hx hb dL_isBlock_241 rfl (lv_at hl 2 rfl) ?_
      refine o_ishr hx hb dL_isBlock_242 h (fun v14 h => ?_)
      refine lv_iconst (v := (1 : Int32)) hx hb dL_isBlock_243 (by decide) ?_
      refine o_iand hx hb dL_isBlock_244 h (fun v15 h => ?_)
      refine lv_iload_n hx hb dL_isBlock_245 rfl (lv_at hl 3 rfl) ?_
      refine zi_ne (tgt := 273) hx hb dL_isBlock_246 (by decide) h (fun h => ?_) (fun h => ?_)
      · exact B273 v15 h ls (lv_sub hl [] rfl)
      · refine lv_aload_n hx hb dL_isBlock_249 rfl (lv_at hl 1 rfl) ?_
        refine lv_iload_n hx hb dL_isBlock_250 rfl (lv_at hl 2 rfl) ?_
        refine lv_bipush (v := (6 : Int32)) hx hb dL_isBlock_251 (by decide) ?_
        obtain ⟨v16, hc, h⟩ := zb1_s h
        refine zE_i (zrV (C := RX7) (As := [.int p2, .int (6 : Int32)]) (rest := [.int v15]) hx hb hml hown hts tw363 mv_X7_of ⟨Nat.le_of_ble_eq_true rfl, Nat.le_of_ble_eq_true rfl⟩ rfl rfl (ct_X7_of l D ct a f g nx hz sw fl sg pl pa pk pn pf pg p2 (6 : Int32) k v16 hc) (z_pv hK hP [0, 1, 2, 3, 4, 5, 6, 7, 8, 9, 10, 11, 12, 13, 14, 15, 16, 17, 18, 19, 20, 21] rfl 0 rfl rfl) hl.1 rfl rfl (Nat.le_of_ble_eq_true rfl) dL_isBlock_253 ⟨Nat.le_refl _, Nat.le_refl _⟩) ?_
        refine zi_le (tgt := 273) hx hb dL_isBlock_256 (by decide) h (fun h => ?_) (fun h => ?_)
        · exact B273 v15 h ls (lv_sub hl [] rfl)
        · refine lv_aload_n hx hb dL_isBlock_259 rfl (lv_at hl 1 rfl) ?_
          refine lv_iload_n hx hb dL_isBlock_260 rfl (lv_at hl 2 rfl) ?_
          refine lv_bipush (v := (7 : Int32)) hx hb dL_isBlock_261 (by decide) ?_
          obtain ⟨v17, hc, h⟩ := zb1_s h
          refine zE_i (zrV (C := RX7) (As := [.int p2, .int (7 : Int32)]) (rest := [.int v15]) hx hb hml hown hts tw363 mv_X7_of ⟨Nat.le_of_ble_eq_true rfl, Nat.le_of_ble_eq_true rfl⟩ rfl rfl (ct_X7_of l D ct a f g nx hz sw fl sg pl pa pk pn pf pg p2 (7 : Int32) k v17 hc) (z_pv hK hP [0, 1, 2, 3, 4, 5, 6, 7, 8, 9, 10, 11, 12, 13, 14, 15, 16, 17, 18, 19, 20, 21] rfl 0 rfl rfl) hl.1 rfl rfl (Nat.le_of_ble_eq_true rfl) dL_isBlock_263 ⟨Nat.le_refl _, Nat.le_refl _⟩) ?_
          refine zi_ne (tgt := 273) hx hb dL_isBlock_266 (by decide) h (fun h => ?_) (fun h => ?_)
          · exact B273 v15 h ls (lv_sub hl [] rfl)
          · refine lv_iconst (v := (1 : Int32)) hx hb dL_isBlock_269 (by decide) ?_
            refine lv_goto (tgt := 274) hx hb dL_isBlock_270 (by decide) ?_
            exact B274 (1 : Int32) v15 h ls (lv_sub hl [] rfl)
  have B229 : ∀ (x2 : Int32), f_L_isBlock_b229 k f hz pl p2 x2 = some r → ∀ (ls : Array Slot), lv_has ls 6 [(0, .ref (a 0)), (1, .int p2), (2, .int x2)] → W p l e ({ frames := 7, cells := 0, slots := 0, locals := 162 } : Room) s m ([.ref (a 0), .int p2] : List Value).toArray below meth c s.heap [] 0 0 (MQ below (vp_Si (fun r' => r' = r)) ([.ref (a 0), .int p2] : List Value).toArray s 0 0 (fun _ => False)) (F0 m 229 ls []) := by
    intro x2 h ls hl
    rw [f_L_isBlock_b229] at h
    refine lv_iconst (v := (0 : Int32)) hx hb dL_isBlock_229 (by decide) ?_
    exact B230 x2 (0 : Int32) h ls (lv_sub hl [0, 1, 2] rfl)
  have B214 : ∀ (x2 : Int32), f_L_isBlock_b214 k f hz pl p2 x2 = some r → ∀ (ls : Array Slot), lv_has ls 6 [(0, .ref (a 0)), (1, .int p2), (2, .int x2)] → W p l e ({ frames := 7, cells := 0, slots := 0, locals := 162 } : Room) s m ([.ref (a 0), .int p2] : List Value).toArray below meth c s.heap [] 0 0 (MQ below (vp_Si (fun r' => r' = r)) ([.ref (a 0), .int p2] : List Value).toArray s 0 0 (fun _ => False)) (F0 m 214 ls []) := by
    intro x2 h ls hl
    rw [f_L_isBlock_b214] at h
    refine lv_aload_n hx hb dL_isBlock_214 rfl (lv_at hl 0 rfl) ?_
    refine lv_iload_n hx hb dL_isBlock_215 rfl (lv_at hl 1 rfl) ?_
    refine lv_bipush (v := (10 : Int32)) hx hb dL_isBlock_216 (by decide) ?_
    obtain ⟨v18, hc, h⟩ := zb1_s h
    refine zE_i (zrV (C := RX7) (As := [.int p2, .int (10 : Int32)]) (rest := []) hx hb hml hown hts tw363 mv_X7_of ⟨Nat.le_of_ble_eq_true rfl, Nat.le_of_ble_eq_true rfl⟩ rfl rfl (ct_X7_of l D ct a f g nx hz sw fl sg pl pa pk pn pf pg p2 (10 : Int32) k v18 hc) (z_pv hK hP [0, 1, 2, 3, 4, 5, 6, 7, 8, 9, 10, 11, 12, 13, 14, 15, 16, 17, 18, 19, 20, 21] rfl 0 rfl rfl) hl.1 rfl rfl (Nat.le_of_ble_eq_true rfl) dL_isBlock_218 ⟨Nat.le_refl _, Nat.le_refl _⟩) ?_
    refine lv_iload_n hx hb dL_isBlock_221 rfl (lv_at hl 1 rfl) ?_
    refine zc_ge (tgt := 229) hx hb dL_isBlock_222 (by decide) h (fun h => ?_) (fun h => ?_)
    · exact B229 x2 h ls (lv_sub hl [0, 1, 2] rfl)
    · refine lv_iconst (v := (1 : Int32)) hx hb dL_isBlock_225 (by decide) ?_
      refine lv_goto (tgt := 230) hx hb dL_isBlock_226 (by decide) ?_
      exact B230 x2 (1 : Int32) h ls (lv_sub hl [0, 1, 2] rfl)
  have B182 : ∀ (x2 : Int32) (x3 : Int32) (y0 : Int32), f_L_isBlock_b182 k f hz pl p2 x2 x3 y0 = some r → ∀ (ls : Array Slot), lv_has ls 6 [(0, .ref (a 0)), (1, .int p2), (2, .int x2), (3, .int x3)] → W p l e ({ frames := 7, cells := 0, slots := 0, locals := 162 } : Room) s m ([.ref (a 0), .int p2] : List Value).toArray below meth c s.heap [] 0 0 (MQ below (vp_Si (fun r' => r' = r)) ([.ref (a 0), .int p2] : List Value).toArray s 0 0 (fun _ => False)) (F0 m 182 ls [.int y0]) := by
    intro x2 x3 y0 h ls hl
    rw [f_L_isBlock_b182] at h
    refine lv_istore (lv' := [(5, .int y0), (0, .ref (a 0)), (1, .int p2), (2, .int x2), (3, .int x3)]) hx hb dL_isBlock_182 hl (by decide) rfl (fun ls hl => ?_)
    refine lv_iload hx hb dL_isBlock_184 (lv_at hl 0 rfl) ?_
    refine zi_eq (tgt := 229) hx hb dL_isBlock_186 (by decide) h (fun h => ?_) (fun h => ?_)
    · exact B229 x2 h ls (lv_sub hl [1, 2, 3] rfl)
    · refine lv_iload_n hx hb dL_isBlock_189 rfl (lv_at hl 4 rfl) ?_
      refine lv_bipush (v := (-6 : Int32)) hx hb dL_isBlock_190 (by decide) ?_
      refine zc_eq (tgt := 214) hx hb dL_isBlock_192 (by decide) h (fun h => ?_) (fun h => ?_)
      · exact B214 x2 h ls (lv_sub hl [1, 2, 3] rfl)
      · refine lv_aload_n hx hb dL_isBlock_195 rfl (lv_at hl 1 rfl) ?_
        refine lv_iload_n hx hb dL_isBlock_196 rfl (lv_at hl 4 rfl) ?_
        refine lv_iconst (v := (4 : Int32)) hx hb dL_isBlock_197 (by decide) ?_
        obtain ⟨v19, hc, h⟩ := zb1_s h
        refine zE_i (zrV (C := RX7) (As := [.int x3, .int (4 : Int32)]) (rest := []) hx hb hml hown hts tw537 mv_X7_ofOrder ⟨Nat.le_of_ble_eq_true rfl, Nat.le_of_ble_eq_true rfl⟩ rfl rfl (ct_X7_ofOrder l D ct a f g nx hz sw fl sg pl pa pk pn pf pg x3 (4 : Int32) k v19 hc) (z_pv hK hP [0, 1, 2, 3, 4, 5, 6, 7, 8, 9, 10, 11, 12, 13, 14, 15, 16, 17, 18, 19, 20, 21] rfl 0 rfl rfl) hl.1 rfl rfl (Nat.le_of_ble_eq_true rfl) dL_isBlock_198 ⟨Nat.le_refl _, Nat.le_refl _⟩) ?_
        refine lv_iload_n hx hb dL_isBlock_201 rfl (lv_at hl 2 rfl) ?_
        refine zc_ne (tgt := 229) hx hb dL_isBlock_202 (by decide) h (fun h => ?_) (fun h => ?_)
        · exact B229 x2 h ls (lv_sub hl [1, 2, 3] rfl)
        · refine lv_aload_n hx hb dL_isBlock_205 rfl (lv_at hl 1 rfl) ?_
          refine lv_iload_n hx hb dL_isBlock_206 rfl (lv_at hl 4 rfl) ?_
          refine lv_iconst (v := (3 : Int32)) hx hb dL_isBlock_207 (by decide) ?_
          obtain ⟨v20, hc, h⟩ := zb1_s h
          refine zE_i (zrV (C := RX7) (As := [.int x3, .int (3 : Int32)]) (rest := []) hx hb hml hown hts tw537 mv_X7_ofOrder ⟨Nat.le_of_ble_eq_true rfl, Nat.le_of_ble_eq_true rfl⟩ rfl rfl (ct_X7_ofOrder l D ct a f g nx hz sw fl sg pl pa pk pn pf pg x3 (3 : Int32) k v20 hc) (z_pv hK hP [0, 1, 2, 3, 4, 5, 6, 7, 8, 9, 10, 11, 12, 13, 14, 15, 16, 17, 18, 19, 20, 21] rfl 0 rfl rfl) hl.1 rfl rfl (Nat.le_of_ble_eq_true rfl) dL_isBlock_208 ⟨Nat.le_refl _, Nat.le_refl _⟩) ?_
          refine zi_le (tgt := 229) hx hb dL_isBlock_211 (by decide) h (fun h => ?_) (fun h => ?_)
          · exact B229 x2 h ls (lv_sub hl [1, 2, 3] rfl)
          · exact B214 x2 h ls (lv_sub hl [1, 2, 3] rfl)
  have B181 : ∀ (x2 : Int32) (x3 : Int32), f_L_isBlock_b181 k f hz pl p2 x2 x3 = some r → ∀ (ls : Array Slot), lv_has ls 6 [(0, .ref (a 0)), (1, .int p2), (2, .int x2), (3, .int x3)] → W p l e ({ frames := 7, cells := 0, slots := 0, locals := 162 } : Room) s m ([.ref (a 0), .int p2] : List Value).toArray below meth c s.heap [] 0 0 (MQ below (vp_Si (fun r' => r' = r)) ([.ref (a 0), .int p2] : List Value).toArray s 0 0 (fun _ => False)) (F0 m 181 ls []) := by
    intro x2 x3 h ls hl
    rw [f_L_isBlock_b181] at h
    refine lv_iconst (v := (0 : Int32)) hx hb dL_isBlock_181 (by decide) ?_
    exact B182 x2 x3 (0 : Int32) h ls (lv_sub hl [0, 1, 2, 3] rfl)
  have B174 : ∀ (x2 : Int32) (x3 : Int32) (y0 : Int32) (y1 : Int32), f_L_isBlock_b174 k f hz pl p2 x2 x3 y0 y1 = some r → ∀ (ls : Array Slot), lv_has ls 6 [(0, .ref (a 0)), (1, .int p2), (2, .int x2), (3, .int x3)] → W p l e ({ frames := 7, cells := 0, slots := 0, locals := 162 } : Room) s m ([.ref (a 0), .int p2] : List Value).toArray below meth c s.heap [] 0 0 (MQ below (vp_Si (fun r' => r' = r)) ([.ref (a 0), .int p2] : List Value).toArray s 0 0 (fun _ => False)) (F0 m 174 ls [.int y0, .int y1]) := by
    intro x2 x3 y0 y1 h ls hl
    rw [f_L_isBlock_b174] at h
    refine zc_ne (tgt := 181) hx hb dL_isBlock_174 (by decide) h (fun h => ?_) (fun h => ?_)
    · exact B181 x2 x3 h ls (lv_sub hl [0, 1, 2, 3] rfl)
    · refine lv_iconst (v := (1 : Int32)) hx hb dL_isBlock_177 (by decide) ?_
      refine lv_goto (tgt := 182) hx hb dL_isBlock_178 (by decide) ?_
      exact B182 x2 x3 (1 : Int32) h ls (lv_sub hl [0, 1, 2, 3] rfl)
  have B155 : ∀ (x2 : Int32) (x3 : Int32), f_L_isBlock_b155 k f hz pl p2 x2 x3 = some r → ∀ (ls : Array Slot), lv_has ls 6 [(0, .ref (a 0)), (1, .int p2), (2, .int x2), (3, .int x3)] → W p l e ({ frames := 7, cells := 0, slots := 0, locals := 162 } : Room) s m ([.ref (a 0), .int p2] : List Value).toArray below meth c s.heap [] 0 0 (MQ below (vp_Si (fun r' => r' = r)) ([.ref (a 0), .int p2] : List Value).toArray s 0 0 (fun _ => False)) (F0 m 155 ls []) := by
    intro x2 x3 h ls hl
    rw [f_L_isBlock_b155] at h
    refine lv_aload_n hx hb dL_isBlock_155 rfl (lv_at hl 0 rfl) ?_
    refine lv_iconst (v := (4 : Int32)) hx hb dL_isBlock_156 (by decide) ?_
    obtain ⟨v21, hc, h⟩ := zb1_s h
    refine zE_i (zrV (C := RX7) (As := [.int (4 : Int32)]) (rest := []) hx hb hml hown hts tw152 mv_X7_count ⟨Nat.le_of_ble_eq_true rfl, Nat.le_of_ble_eq_true rfl⟩ rfl rfl (ct_X7_count l D ct a f g nx hz sw fl sg pl pa pk pn pf pg (4 : Int32) k v21 hc) (z_pv hK hP [0, 1, 2, 3, 4, 5, 6, 7, 8, 9, 10, 11, 12, 13, 14, 15, 16, 17, 18, 19, 20, 21] rfl 0 rfl rfl) hl.1 rfl rfl (Nat.le_of_ble_eq_true rfl) dL_isBlock_157 ⟨Nat.le_refl _, Nat.le_refl _⟩) ?_
    refine lv_iload_n hx hb dL_isBlock_160 rfl (lv_at hl 1 rfl) ?_
    refine o_ishr hx hb dL_isBlock_161 h (fun v22 h => ?_)
    refine lv_iconst (v := (1 : Int32)) hx hb dL_isBlock_162 (by decide) ?_
    refine o_iand hx hb dL_isBlock_163 h (fun v23 h => ?_)
    refine lv_iload_n hx hb dL_isBlock_164 rfl (lv_at hl 2 rfl) ?_
    refine lv_iconst (v := (1 : Int32)) hx hb dL_isBlock_165 (by decide) ?_
    refine zc_ne (tgt := 173) hx hb dL_isBlock_166 (by decide) h (fun h => ?_) (fun h => ?_)
    · refine lv_iconst (v := (0 : Int32)) hx hb dL_isBlock_173 (by decide) ?_
      exact B174 x2 x3 (0 : Int32) v23 h ls (lv_sub hl [0, 1, 2, 3] rfl)
    · refine lv_iconst (v := (1 : Int32)) hx hb dL_isBlock_169 (by decide) ?_
      refine lv_goto (tgt := 174) hx hb dL_isBlock_170 (by decide) ?_
      exact B174 x2 x3 (1 : Int32) v23 h ls (lv_sub hl [0, 1, 2, 3] rfl)
  have B128 : ∀ (x2 : Int32) (x3 : Int32) (x4 : Int32) (y0 : Int32) (y1 : Int32), f_L_isBlock_b128 k f hz pl p2 x2 x3 x4 y0 y1 = some r → ∀ (ls : Array Slot), lv_has ls 6 [(0, .ref (a 0)), (1, .int p2), (2, .int x2), (3, .int x3), (4, .int x4)] → W p l e ({ frames := 7, cells := 0, slots := 0, locals := 162 } : Room) s m ([.ref (a 0), .int p2] : List Value).toArray below meth c s.heap [] 0 0 (MQ below (vp_Si (fun r' => r' = r)) ([.ref (a 0), .int p2] : List Value).toArray s 0 0 (fun _ => False)) (F0 m 128 ls [.int y0, .int y1]) := by
    intro x2 x3 x4 y0 y1 h ls hl
    rw [f_L_isBlock_b128] at h
    refine zc_ne (tgt := 181) hx hb dL_isBlock_128 (by decide) h (fun h => ?_) (fun h => ?_)
    · exact B181 x2 x3 h ls (lv_sub hl [0, 1, 2, 3] rfl)
    · refine lv_iload hx hb dL_isBlock_131 (lv_at hl 4 rfl) ?_
      refine lv_bipush (v := (-6 : Int32)) hx hb dL_isBlock_133 (by decide) ?_
      refine zc_eq (tgt := 155) hx hb dL_isBlock_135 (by decide) h (fun h => ?_) (fun h => ?_)
      · exact B155 x2 x3 h ls (lv_sub hl [0, 1, 2, 3] rfl)
      · refine lv_aload_n hx hb dL_isBlock_138 rfl (lv_at hl 0 rfl) ?_
        refine lv_iload hx hb dL_isBlock_139 (lv_at hl 4 rfl) ?_
        refine lv_iconst (v := (5 : Int32)) hx hb dL_isBlock_141 (by decide) ?_
        refine o_idiv hx hb dL_isBlock_142 (by decide) h (fun v24 h => ?_)
        refine lv_iconst (v := (3 : Int32)) hx hb dL_isBlock_143 (by decide) ?_
        obtain ⟨v25, hc, h⟩ := zb1_s h
        refine zE_i (zrV (C := RX7) (As := [.int v24, .int (3 : Int32)]) (rest := []) hx hb hml hown hts tw523 mv_X7_ofLorry ⟨Nat.le_of_ble_eq_true rfl, Nat.le_of_ble_eq_true rfl⟩ rfl rfl (ct_X7_ofLorry l D ct a f g nx hz sw fl sg pl pa pk pn pf pg v24 (3 : Int32) k v25 hc) (z_pv hK hP [0, 1, 2, 3, 4, 5, 6, 7, 8, 9, 10, 11, 12, 13, 14, 15, 16, 17, 18, 19, 20, 21] rfl 0 rfl rfl) hl.1 rfl rfl (Nat.le_of_ble_eq_true rfl) dL_isBlock_144 ⟨Nat.le_refl _, Nat.le_refl _⟩) ?_
        refine lv_iload_n hx hb dL_isBlock_147 rfl (lv_at hl 1 rfl) ?_
        refine o_ishr hx hb dL_isBlock_148 h (fun v26 h => ?_)
        refine lv_iconst (v := (1 : Int32)) hx hb dL_isBlock_149 (by decide) ?_
        refine o_iand hx hb dL_isBlock_150 h (fun v27 h => ?_)
        refine lv_iconst (v := (1 : Int32)) hx hb dL_isBlock_151 (by decide) ?_
        refine zc_ne (tgt := 181) hx hb dL_isBlock_152 (by decide) h (fun h => ?_) (fun h => ?_)
        · exact B181 x2 x3 h ls (lv_sub hl [0, 1, 2, 3] rfl)
        · exact B155 x2 x3 h ls (lv_sub hl [0, 1, 2, 3] rfl)
  have B118 : ∀ (x2 : Int32) (x3 : Int32) (x4 : Int32) (y0 : Int32), f_L_isBlock_b118 k f hz pl p2 x2 x3 x4 y0 = some r → ∀ (ls : Array Slot), lv_has ls 6 [(0, .ref (a 0)), (1, .int p2), (2, .int x2), (3, .int x3), (4, .int x4)] → W p l e ({ frames := 7, cells := 0, slots := 0, locals := 162 } : Room) s m ([.ref (a 0), .int p2] : List Value).toArray below meth c s.heap [] 0 0 (MQ below (vp_Si (fun r' => r' = r)) ([.ref (a 0), .int p2] : List Value).toArray s 0 0 (fun _ => False)) (F0 m 118 ls [.int y0]) := by
    intro x2 x3 x4 y0 h ls hl
    rw [f_L_isBlock_b118] at h
    refine lv_iload_n hx hb dL_isBlock_118 rfl (lv_at hl 2 rfl) ?_
    refine lv_iconst (v := (2 : Int32)) hx hb dL_isBlock_119 (by decide) ?_
    refine zc_eq (tgt := 127) hx hb dL_isBlock_120 (by decide) h (fun h => ?_) (fun h => ?_)
    · refine lv_iconst (v := (0 : Int32)) hx hb dL_isBlock_127 (by decide) ?_
      exact B128 x2 x3 x4 (0 : Int32) y0 h ls (lv_sub hl [0, 1, 2, 3, 4] rfl)
    · refine lv_iconst (v := (1 : Int32)) hx hb dL_isBlock_123 (by decide) ?_
      refine lv_goto (tgt := 128) hx hb dL_isBlock_124 (by decide) ?_
      exact B128 x2 x3 x4 (1 : Int32) y0 h ls (lv_sub hl [0, 1, 2, 3, 4] rfl)
  have B99 : ∀ (x2 : Int32) (x3 : Int32) (x4 : Int32) (y0 : Int32), f_L_isBlock_b99 k f hz pl p2 x2 x3 x4 y0 = some r → ∀ (ls : Array Slot), lv_has ls 6 [(0, .ref (a 0)), (1, .int p2), (2, .int x2), (3, .int x3), (4, .int x4)] → W p l e ({ frames := 7, cells := 0, slots := 0, locals := 162 } : Room) s m ([.ref (a 0), .int p2] : List Value).toArray below meth c s.heap [] 0 0 (MQ below (vp_Si (fun r' => r' = r)) ([.ref (a 0), .int p2] : List Value).toArray s 0 0 (fun _ => False)) (F0 m 99 ls [.int y0]) := by
    intro x2 x3 x4 y0 h ls hl
    rw [f_L_isBlock_b99] at h
    refine lv_istore (lv' := [(5, .int y0), (0, .ref (a 0)), (1, .int p2), (2, .int x2), (3, .int x3), (4, .int x4)]) hx hb dL_isBlock_99 hl (by decide) rfl (fun ls hl => ?_)
    refine lv_iload hx hb dL_isBlock_101 (lv_at hl 0 rfl) ?_
    refine zi_eq (tgt := 181) hx hb dL_isBlock_103 (by decide) h (fun h => ?_) (fun h => ?_)
    · exact B181 x2 x3 h ls (lv_sub hl [1, 2, 3, 4] rfl)
    · refine lv_iload hx hb dL_isBlock_106 (lv_at hl 5 rfl) ?_
      refine lv_bipush (v := (-6 : Int32)) hx hb dL_isBlock_108 (by decide) ?_
      refine zc_ne (tgt := 117) hx hb dL_isBlock_110 (by decide) h (fun h => ?_) (fun h => ?_)
      · refine lv_iconst (v := (0 : Int32)) hx hb dL_isBlock_117 (by decide) ?_
        exact B118 x2 x3 x4 (0 : Int32) h ls (lv_sub hl [1, 2, 3, 4, 5] rfl)
      · refine lv_iconst (v := (1 : Int32)) hx hb dL_isBlock_113 (by decide) ?_
        refine lv_goto (tgt := 118) hx hb dL_isBlock_114 (by decide) ?_
        exact B118 x2 x3 x4 (1 : Int32) h ls (lv_sub hl [1, 2, 3, 4, 5] rfl)
  have B98 : ∀ (x2 : Int32) (x3 : Int32) (x4 : Int32), f_L_isBlock_b98 k f hz pl p2 x2 x3 x4 = some r → ∀ (ls : Array Slot), lv_has ls 6 [(0, .ref (a 0)), (1, .int p2), (2, .int x2), (3, .int x3), (4, .int x4)] → W p l e ({ frames := 7, cells := 0, slots := 0, locals := 162 } : Room) s m ([.ref (a 0), .int p2] : List Value).toArray below meth c s.heap [] 0 0 (MQ below (vp_Si (fun r' => r' = r)) ([.ref (a 0), .int p2] : List Value).toArray s 0 0 (fun _ => False)) (F0 m 98 ls []) := by
    intro x2 x3 x4 h ls hl
    rw [f_L_isBlock_b98] at h
    refine lv_iconst (v := (0 : Int32)) hx hb dL_isBlock_98 (by decide) ?_
    exact B99 x2 x3 x4 (0 : Int32) h ls (lv_sub hl [0, 1, 2, 3, 4] rfl)
  rw [f_L_isBlock] at h
  refine lv_aload_n hx hb dL_isBlock_0 rfl (lv_at hl 0 rfl) ?_
  refine lv_iload_n hx hb dL_isBlock_1 rfl (lv_at hl 1 rfl) ?_
  refine lv_iconst (v := (5 : Int32)) hx hb dL_isBlock_2 (by decide) ?_
  obtain ⟨v1, hc, h⟩ := zb1_s h
  refine zE_i (zrV (C := RX7) (As := [.int p2, .int (5 : Int32)]) (rest := []) hx hb hml hown hts tw363 mv_X7_of ⟨Nat.le_of_ble_eq_true rfl, Nat.le_of_ble_eq_true rfl⟩ rfl rfl (ct_X7_of l D ct a f g nx hz sw fl sg pl pa pk pn pf pg p2 (5 : Int32) k v1 hc) (z_pv hK hP [0, 1, 2, 3, 4, 5, 6, 7, 8, 9, 10, 11, 12, 13, 14, 15, 16, 17, 18, 19, 20, 21] rfl 0 rfl rfl) hl.1 rfl rfl (Nat.le_of_ble_eq_true rfl) dL_isBlock_3 ⟨Nat.le_refl _, Nat.le_refl _⟩) ?_
  refine lv_istore_n (lv' := [(2, .int v1), (0, .ref (a 0)), (1, .int p2)]) hx hb dL_isBlock_6 rfl hl (by decide) rfl (fun ls hl => ?_)
  refine lv_aload_n hx hb dL_isBlock_7 rfl (lv_at hl 1 rfl) ?_
  refine lv_iload_n hx hb dL_isBlock_8 rfl (lv_at hl 2 rfl) ?_
  refine lv_bipush (v := (8 : Int32)) hx hb dL_isBlock_9 (by decide) ?_
  obtain ⟨v2, hc, h⟩ := zb1_s h
  refine zE_i (zrV (C := RX7) (As := [.int p2, .int (8 : Int32)]) (rest := []) hx hb hml hown hts tw363 mv_X7_of ⟨Nat.le_of_ble_eq_true rfl, Nat.le_of_ble_eq_true rfl⟩ rfl rfl (ct_X7_of l D ct a f g nx hz sw fl sg pl pa pk pn pf pg p2 (8 : Int32) k v2 hc) (z_pv hK hP [0, 1, 2, 3, 4, 5, 6, 7, 8, 9, 10, 11, 12, 13, 14, 15, 16, 17, 18, 19, 20, 21] rfl 0 rfl rfl) hl.1 rfl rfl (Nat.le_of_ble_eq_true rfl) dL_isBlock_11 ⟨Nat.le_refl _, Nat.le_refl _⟩) ?_
  refine lv_istore_n (lv' := [(3, .int v2), (2, .int v1), (0, .ref (a 0)), (1, .int p2)]) hx hb dL_isBlock_14 rfl hl (by decide) rfl (fun ls hl => ?_)
  refine lv_aload_n hx hb dL_isBlock_15 rfl (lv_at hl 2 rfl) ?_
  refine lv_iload_n hx hb dL_isBlock_16 rfl (lv_at hl 3 rfl) ?_
  refine lv_bipush (v := (9 : Int32)) hx hb dL_isBlock_17 (by decide) ?_
  obtain ⟨v3, hc, h⟩ := zb1_s h
  refine zE_i (zrV (C := RX7) (As := [.int p2, .int (9 : Int32)]) (rest := []) hx hb hml hown hts tw363 mv_X7_of ⟨Nat.le_of_ble_eq_true rfl, Nat.le_of_ble_eq_true rfl⟩ rfl rfl (ct_X7_of l D ct a f g nx hz sw fl sg pl pa pk pn pf pg p2 (9 : Int32) k v3 hc) (z_pv hK hP [0, 1, 2, 3, 4, 5, 6, 7, 8, 9, 10, 11, 12, 13, 14, 15, 16, 17, 18, 19, 20, 21] rfl 0 rfl rfl) hl.1 rfl rfl (Nat.le_of_ble_eq_true rfl) dL_isBlock_19 ⟨Nat.le_refl _, Nat.le_refl _⟩) ?_
  refine lv_istore (lv' := [(4, .int v3), (3, .int v2), (2, .int v1), (0, .ref (a 0)), (1, .int p2)]) hx hb dL_isBlock_22 hl (by decide) rfl (fun ls hl => ?_)
  refine lv_aload_n hx hb dL_isBlock_24 rfl (lv_at hl 3 rfl) ?_
  refine lv_iload_n hx hb dL_isBlock_25 rfl (lv_at hl 4 rfl) ?_
  refine lv_iconst (v := (4 : Int32)) hx hb dL_isBlock_26 (by decide) ?_
  obtain ⟨v4, hc, h⟩ := zb1_s h
  refine zE_i (zrV (C := RX7) (As := [.int p2, .int (4 : Int32)]) (rest := []) hx hb hml hown hts tw363 mv_X7_of ⟨Nat.le_of_ble_eq_true rfl, Nat.le_of_ble_eq_true rfl⟩ rfl rfl (ct_X7_of l D ct a f g nx hz sw fl sg pl pa pk pn pf pg p2 (4 : Int32) k v4 hc) (z_pv hK hP [0, 1, 2, 3, 4, 5, 6, 7, 8, 9, 10, 11, 12, 13, 14, 15, 16, 17, 18, 19, 20, 21] rfl 0 rfl rfl) hl.1 rfl rfl (Nat.le_of_ble_eq_true rfl) dL_isBlock_27 ⟨Nat.le_refl _, Nat.le_refl _⟩) ?_
  refine lv_aload_n hx hb dL_isBlock_30 rfl (lv_at hl 3 rfl) ?_
  refine lv_iload_n hx hb dL_isBlock_31 rfl (lv_at hl 4 rfl) ?_
  refine lv_iconst (v := (0 : Int32)) hx hb dL_isBlock_32 (by decide) ?_
  obtain ⟨v5, hc, h⟩ := zb1_s h
  refine zE_i (zrV (C := RX7) (As := [.int p2, .int (0 : Int32)]) (rest := [.int v4]) hx hb hml hown hts tw363 mv_X7_of ⟨Nat.le_of_ble_eq_true rfl, Nat.le_of_ble_eq_true rfl⟩ rfl rfl (ct_X7_of l D ct a f g nx hz sw fl sg pl pa pk pn pf pg p2 (0 : Int32) k v5 hc) (z_pv hK hP [0, 1, 2, 3, 4, 5, 6, 7, 8, 9, 10, 11, 12, 13, 14, 15, 16, 17, 18, 19, 20, 21] rfl 0 rfl rfl) hl.1 rfl rfl (Nat.le_of_ble_eq_true rfl) dL_isBlock_33 ⟨Nat.le_refl _, Nat.le_refl _⟩) ?_
  refine lv_aload_n hx hb dL_isBlock_36 rfl (lv_at hl 3 rfl) ?_
  refine lv_iload_n hx hb dL_isBlock_37 rfl (lv_at hl 4 rfl) ?_
  refine lv_iconst (v := (1 : Int32)) hx hb dL_isBlock_38 (by decide) ?_
  obtain ⟨v6, hc, h⟩ := zb1_s h
  refine zE_i (zrV (C := RX7) (As := [.int p2, .int (1 : Int32)]) (rest := [.int v5, .int v4]) hx hb hml hown hts tw363 mv_X7_of ⟨Nat.le_of_ble_eq_true rfl, Nat.le_of_ble_eq_true rfl⟩ rfl rfl (ct_X7_of l D ct a f g nx hz sw fl sg pl pa pk pn pf pg p2 (1 : Int32) k v6 hc) (z_pv hK hP [0, 1, 2, 3, 4, 5, 6, 7, 8, 9, 10, 11, 12, 13, 14, 15, 16, 17, 18, 19, 20, 21] rfl 0 rfl rfl) hl.1 rfl rfl (Nat.le_of_ble_eq_true rfl) dL_isBlock_39 ⟨Nat.le_refl _, Nat.le_refl _⟩) ?_
  refine o_imul hx hb dL_isBlock_42 h (fun v7 h => ?_)
  refine lv_aload_n hx hb dL_isBlock_43 rfl (lv_at hl 3 rfl) ?_
  refine lv_iload_n hx hb dL_isBlock_44 rfl (lv_at hl 4 rfl) ?_
  refine lv_iconst (v := (2 : Int32)) hx hb dL_isBlock_45 (by decide) ?_
  obtain ⟨v8, hc, h⟩ := zb1_s h
  refine zE_i (zrV (C := RX7) (As := [.int p2, .int (2 : Int32)]) (rest := [.int v7, .int v4]) hx hb hml hown hts tw363 mv_X7_of ⟨Nat.le_of_ble_eq_true rfl, Nat.le_of_ble_eq_true rfl⟩ rfl rfl (ct_X7_of l D ct a f g nx hz sw fl sg pl pa pk pn pf pg p2 (2 : Int32) k v8 hc) (z_pv hK hP [0, 1, 2, 3, 4, 5, 6, 7, 8, 9, 10, 11, 12, 13, 14, 15, 16, 17, 18, 19, 20, 21] rfl 0 rfl rfl) hl.1 rfl rfl (Nat.le_of_ble_eq_true rfl) dL_isBlock_46 ⟨Nat.le_refl _, Nat.le_refl _⟩) ?_
  refine o_imul hx hb dL_isBlock_49 h (fun v9 h => ?_)
  refine lv_aload_n hx hb dL_isBlock_50 rfl (lv_at hl 3 rfl) ?_
  refine lv_iload_n hx hb dL_isBlock_51 rfl (lv_at hl 4 rfl) ?_
  refine lv_iconst (v := (3 : Int32)) hx hb dL_isBlock_52 (by decide) ?_
  obtain ⟨v10, hc, h⟩ := zb1_s h
  refine zE_i (zrV (C := RX7) (As := [.int p2, .int (3 : Int32)]) (rest := [.int v9, .int v4]) hx hb hml hown hts tw363 mv_X7_of ⟨Nat.le_of_ble_eq_true rfl, Nat.le_of_ble_eq_true rfl⟩ rfl rfl (ct_X7_of l D ct a f g nx hz sw fl sg pl pa pk pn pf pg p2 (3 : Int32) k v10 hc) (z_pv hK hP [0, 1, 2, 3, 4, 5, 6, 7, 8, 9, 10, 11, 12, 13, 14, 15, 16, 17, 18, 19, 20, 21] rfl 0 rfl rfl) hl.1 rfl rfl (Nat.le_of_ble_eq_true rfl) dL_isBlock_53 ⟨Nat.le_refl _, Nat.le_refl _⟩) ?_
  refine o_imul hx hb dL_isBlock_56 h (fun v11 h => ?_)
  refine lv_sipush (v := (10000 : Int32)) hx hb dL_isBlock_57 (by decide) ?_
  refine o_idiv hx hb dL_isBlock_60 (by decide) h (fun v12 h => ?_)
  refine zc_ne (tgt := 98) hx hb dL_isBlock_61 (by decide) h (fun h => ?_) (fun h => ?_)
  · exact B98 v1 v2 v3 h ls (lv_sub hl [3, 4, 2, 1, 0] rfl)
  · refine lv_iload_n hx hb dL_isBlock_64 rfl (lv_at hl 2 rfl) ?_
    refine zi_lt (tgt := 98) hx hb dL_isBlock_65 (by decide) h (fun h => ?_) (fun h => ?_)
    · exact B98 v1 v2 v3 h ls (lv_sub hl [3, 4, 2, 1, 0] rfl)
    · refine lv_iload_n hx hb dL_isBlock_68 rfl (lv_at hl 2 rfl) ?_
      refine lv_iconst (v := (4 : Int32)) hx hb dL_isBlock_69 (by decide) ?_
      refine zc_gt (tgt := 98) hx hb dL_isBlock_70 (by decide) h (fun h => ?_) (fun h => ?_)
      · exact B98 v1 v2 v3 h ls (lv_sub hl [3, 4, 2, 1, 0] rfl)
      · refine lv_aload_n hx hb dL_isBlock_73 rfl (lv_at hl 3 rfl) ?_
        refine lv_iload_n hx hb dL_isBlock_74 rfl (lv_at hl 4 rfl) ?_
        refine lv_bipush (v := (6 : Int32)) hx hb dL_isBlock_75 (by decide) ?_
        obtain ⟨v28, hc, h⟩ := zb1_s h
        refine zE_i (zrV (C := RX7) (As := [.int p2, .int (6 : Int32)]) (rest := []) hx hb hml hown hts tw363 mv_X7_of ⟨Nat.le_of_ble_eq_true rfl, Nat.le_of_ble_eq_true rfl⟩ rfl rfl (ct_X7_of l D ct a f g nx hz sw fl sg pl pa pk pn pf pg p2 (6 : Int32) k v28 hc) (z_pv hK hP [0, 1, 2, 3, 4, 5, 6, 7, 8, 9, 10, 11, 12, 13, 14, 15, 16, 17, 18, 19, 20, 21] rfl 0 rfl rfl) hl.1 rfl rfl (Nat.le_of_ble_eq_true rfl) dL_isBlock_77 ⟨Nat.le_refl _, Nat.le_refl _⟩) ?_
        refine zi_lt (tgt := 98) hx hb dL_isBlock_80 (by decide) h (fun h => ?_) (fun h => ?_)
        · exact B98 v1 v2 v3 h ls (lv_sub hl [3, 4, 2, 1, 0] rfl)
        · refine lv_aload_n hx hb dL_isBlock_83 rfl (lv_at hl 3 rfl) ?_
          refine lv_iload_n hx hb dL_isBlock_84 rfl (lv_at hl 4 rfl) ?_
          refine lv_bipush (v := (6 : Int32)) hx hb dL_isBlock_85 (by decide) ?_
          obtain ⟨v29, hc, h⟩ := zb1_s h
          refine zE_i (zrV (C := RX7) (As := [.int p2, .int (6 : Int32)]) (rest := []) hx hb hml hown hts tw363 mv_X7_of ⟨Nat.le_of_ble_eq_true rfl, Nat.le_of_ble_eq_true rfl⟩ rfl rfl (ct_X7_of l D ct a f g nx hz sw fl sg pl pa pk pn pf pg p2 (6 : Int32) k v29 hc) (z_pv hK hP [0, 1, 2, 3, 4, 5, 6, 7, 8, 9, 10, 11, 12, 13, 14, 15, 16, 17, 18, 19, 20, 21] rfl 0 rfl rfl) hl.1 rfl rfl (Nat.le_of_ble_eq_true rfl) dL_isBlock_87 ⟨Nat.le_refl _, Nat.le_refl _⟩) ?_
          refine lv_iconst (v := (3 : Int32)) hx hb dL_isBlock_90 (by decide) ?_
          refine zc_gt (tgt := 98) hx hb dL_isBlock_91 (by decide) h (fun h => ?_) (fun h => ?_)
          · exact B98 v1 v2 v3 h ls (lv_sub hl [3, 4, 2, 1, 0] rfl)
          · refine lv_iconst (v := (1 : Int32)) hx hb dL_isBlock_94 (by decide) ?_
            refine lv_goto (tgt := 99) hx hb dL_isBlock_95 (by decide) ?_
            exact B99 v1 v2 v3 (1 : Int32) h ls (lv_sub hl [3, 4, 2, 1, 0] rfl)

def f_L_isOrder_b349 (k : Nat) (f : Nat → Int32) (hz : Int32) (pl : Int32) (p2 : Int32)   : Option (Int32) :=
  some (0 : Int32)
def f_L_isOrder_b345 (k : Nat) (f : Nat → Int32) (hz : Int32) (pl : Int32) (p2 : Int32)   : Option (Int32) :=
  some (1 : Int32)
def f_L_isOrder_b302 (k : Nat) (f : Nat → Int32) (hz : Int32) (pl : Int32) (p2 : Int32) (k129 : Int32 → Int32 → Int32 → Int32 → Int32 → Int32 → Option (Int32)) (x2 : Int32) (x4 : Int32) (x5 : Int32) (x6 : Int32) (x7 : Int32) (x8 : Int32) : Option (Int32) :=
  zl (x8 + (-1 : Int32)) fun v23 =>
  k129 x2 x4 x5 x6 x7 v23
def f_L_isOrder_b300 (k : Nat) (f : Nat → Int32) (hz : Int32) (pl : Int32) (p2 : Int32) (k129 : Int32 → Int32 → Int32 → Int32 → Int32 → Int32 → Option (Int32)) (x2 : Int32) (x4 : Int32) (x5 : Int32) (x7 : Int32) (x8 : Int32) (y0 : Int32) : Option (Int32) :=
  f_L_isOrder_b302 k f hz pl p2 (k129) x2 x4 x5 y0 x7 x8
def f_L_isOrder_b293 (k : Nat) (f : Nat → Int32) (hz : Int32) (pl : Int32) (p2 : Int32) (k129 : Int32 → Int32 → Int32 → Int32 → Int32 → Int32 → Option (Int32)) (x2 : Int32) (x4 : Int32) (x5 : Int32) (x7 : Int32) (x8 : Int32) (x9 : Int32) : Option (Int32) :=
  f_L_isOrder_b300 k f hz pl p2 (k129) x2 x4 x5 x7 x8 x9
def f_L_isOrder_b277 (k : Nat) (f : Nat → Int32) (hz : Int32) (pl : Int32) (p2 : Int32) (k129 : Int32 → Int32 → Int32 → Int32 → Int32 → Int32 → Option (Int32)) (x2 : Int32) (x4 : Int32) (x5 : Int32) (x6 : Int32) (x8 : Int32) (x9 : Int32) (y0 : Int32) : Option (Int32) :=
  if x6 = (-6 : Int32) then
    f_L_isOrder_b293 k f hz pl p2 (k129) x2 x4 x5 y0 x8 x9
  else
    if x6 ≤ x9 then
      f_L_isOrder_b300 k f hz pl p2 (k129) x2 x4 x5 y0 x8 x6
    else
      f_L_isOrder_b293 k f hz pl p2 (k129) x2 x4 x5 y0 x8 x9
def f_L_isOrder_b270 (k : Nat) (f : Nat → Int32) (hz : Int32) (pl : Int32) (p2 : Int32) (k129 : Int32 → Int32 → Int32 → Int32 → Int32 → Int32 → Option (Int32)) (x2 : Int32) (x4 : Int32) (x5 : Int32) (x6 : Int32) (x8 : Int32) (x9 : Int32) : Option (Int32) :=
  f_L_isOrder_b277 k f hz pl p2 (k129) x2 x4 x5 x6 x8 x9 x8
def f_L_isOrder_b254 (k : Nat) (f : Nat → Int32) (hz : Int32) (pl : Int32) (p2 : Int32) (k129 : Int32 → Int32 → Int32 → Int32 → Int32 → Int32 → Option (Int32)) (x2 : Int32) (x4 : Int32) (x6 : Int32) (x7 : Int32) (x8 : Int32) (x9 : Int32) (y0 : Int32) : Option (Int32) :=
  if x6 = (-6 : Int32) then
    f_L_isOrder_b270 k f hz pl p2 (k129) x2 x4 y0 x6 x8 x9
  else
    if x6 < x9 then
      f_L_isOrder_b277 k f hz pl p2 (k129) x2 x4 y0 x6 x8 x9 x7
    else
      f_L_isOrder_b270 k f hz pl p2 (k129) x2 x4 y0 x6 x8 x9
def f_L_isOrder_b253 (k : Nat) (f : Nat → Int32) (hz : Int32) (pl : Int32) (p2 : Int32) (k129 : Int32 → Int32 → Int32 → Int32 → Int32 → Int32 → Option (Int32)) (x2 : Int32) (x4 : Int32) (x6 : Int32) (x7 : Int32) (x8 : Int32) (x9 : Int32) : Option (Int32) :=
  f_L_isOrder_b254 k f hz pl p2 (k129) x2 x4 x6 x7 x8 x9 (0 : Int32)
def f_L_isOrder_b129 (k : Nat) (f : Nat → Int32) (hz : Int32) (pl : Int32) (p2 : Int32)  : Nat → Int32 → Int32 → Int32 → Int32 → Int32 → Int32 → Option (Int32)
  | 0, _, _, _, _, _, _ => none
  | n + 1, x2, x4, x5, x6, x7, x8 =>
    if x8 < 0 then
      if x5 = 0 then
        f_L_isOrder_b349 k f hz pl p2
      else
        if x2 = 0 then
          zb1 (f_X7_bestBlock k f p2) fun v9 =>
          if v9 = x7 then
            f_L_isOrder_b345 k f hz pl p2
          else
            f_L_isOrder_b349 k f hz pl p2
        else
          if x4 = 0 then
            zb1 (f_X7_bestBlock k f p2) fun v8 =>
            if v8 = (-5 : Int32) then
              f_L_isOrder_b345 k f hz pl p2
            else
              f_L_isOrder_b349 k f hz pl p2
          else
            f_L_isOrder_b349 k f hz pl p2
    else
      zb1 (f_X7_of k f x8 (0 : Int32)) fun v10 =>
      zb1 (f_X7_of k f x8 (1 : Int32)) fun v11 =>
      zl (v10 + v11) fun v12 =>
      zb1 (f_X7_of k f x8 (2 : Int32)) fun v13 =>
      zl (v12 + v13) fun v14 =>
      zb1 (f_X7_ofOrder k f p2 (0 : Int32)) fun v15 =>
      zl (v14 - v15) fun v16 =>
      zb1 (f_X7_ofOrder k f p2 (1 : Int32)) fun v17 =>
      zl (v16 - v17) fun v18 =>
      zb1 (f_X7_ofOrder k f p2 (2 : Int32)) fun v19 =>
      zl (v18 - v19) fun v20 =>
      zl (x4 >>> (x8 &&& 31)) fun v21 =>
      zl (v21 &&& (1 : Int32)) fun v22 =>
      if v22 = (1 : Int32) then
        if x5 = 0 then
          f_L_isOrder_b253 k f hz pl p2 (f_L_isOrder_b129 k f hz pl p2 n) x2 x4 x6 x7 x8 v20
        else
          zb1 (f_X7_of k f x8 (7 : Int32)) fun v24 =>
          if v24 = 0 then
            zb1 (f_X7_of k f x8 (8 : Int32)) fun v25 =>
            if v25 = (-6 : Int32) then
              zb1 (f_X7_of k f x8 (5 : Int32)) fun v26 =>
              if (3 : Int32) ≤ v26 then
                f_L_isOrder_b253 k f hz pl p2 (f_L_isOrder_b129 k f hz pl p2 n) x2 x4 x6 x7 x8 v20
              else
                if v20 < 0 then
                  f_L_isOrder_b253 k f hz pl p2 (f_L_isOrder_b129 k f hz pl p2 n) x2 x4 x6 x7 x8 v20
                else
                  zb1 (f_X7_count k f hz pl (14 : Int32)) fun v27 =>
                  zl ((3 : Int32) * v27) fun v28 =>
                  if v28 < v20 then
                    f_L_isOrder_b253 k f hz pl p2 (f_L_isOrder_b129 k f hz pl p2 n) x2 x4 x6 x7 x8 v20
                  else
                    f_L_isOrder_b254 k f hz pl p2 (f_L_isOrder_b129 k f hz pl p2 n) x2 x4 x6 x7 x8 v20 (1 : Int32)
            else
              f_L_isOrder_b253 k f hz pl p2 (f_L_isOrder_b129 k f hz pl p2 n) x2 x4 x6 x7 x8 v20
          else
            f_L_isOrder_b253 k f hz pl p2 (f_L_isOrder_b129 k f hz pl p2 n) x2 x4 x6 x7 x8 v20
      else
        f_L_isOrder_b302 k f hz pl p2 (f_L_isOrder_b129 k f hz pl p2 n) x2 x4 x5 x6 x7 x8
def f_L_isOrder_b110 (k : Nat) (f : Nat → Int32) (hz : Int32) (pl : Int32) (p2 : Int32)  (x2 : Int32) (x4 : Int32) (y0 : Int32) : Option (Int32) :=
  zb1 (f_X7_count k f hz pl (1 : Int32)) fun v6 =>
  zl (v6 - (1 : Int32)) fun v7 =>
  f_L_isOrder_b129 k f hz pl p2 k x2 x4 y0 (-6 : Int32) (-6 : Int32) v7
def f_L_isOrder_b109 (k : Nat) (f : Nat → Int32) (hz : Int32) (pl : Int32) (p2 : Int32)  (x2 : Int32) (x4 : Int32) : Option (Int32) :=
  f_L_isOrder_b110 k f hz pl p2 x2 x4 (0 : Int32)
def f_L_isOrder_b102 (k : Nat) (f : Nat → Int32) (hz : Int32) (pl : Int32) (p2 : Int32)  (x2 : Int32) (x4 : Int32) (y0 : Int32) (y1 : Int32) : Option (Int32) :=
  if y1 = y0 then
    f_L_isOrder_b110 k f hz pl p2 x2 x4 (1 : Int32)
  else
    f_L_isOrder_b109 k f hz pl p2 x2 x4
def f_L_isOrder_b92 (k : Nat) (f : Nat → Int32) (hz : Int32) (pl : Int32) (p2 : Int32)  (x2 : Int32) (x4 : Int32) (y0 : Int32) : Option (Int32) :=
  if x2 = (2 : Int32) then
    f_L_isOrder_b102 k f hz pl p2 x2 x4 (0 : Int32) y0
  else
    f_L_isOrder_b102 k f hz pl p2 x2 x4 (1 : Int32) y0
def f_L_isOrder_b73 (k : Nat) (f : Nat → Int32) (hz : Int32) (pl : Int32) (p2 : Int32)  (x2 : Int32) (x4 : Int32) (y0 : Int32) (y1 : Int32) : Option (Int32) :=
  if y1 = y0 then
    zb1 (f_X7_ofOrder k f p2 (5 : Int32)) fun v31 =>
    if v31 = (-6 : Int32) then
      f_L_isOrder_b92 k f hz pl p2 x2 x4 (1 : Int32)
    else
      f_L_isOrder_b92 k f hz pl p2 x2 x4 (0 : Int32)
  else
    f_L_isOrder_b109 k f hz pl p2 x2 x4
def f_L_isOrder_b64 (k : Nat) (f : Nat → Int32) (hz : Int32) (pl : Int32) (p2 : Int32)  (x2 : Int32) (x4 : Int32) (y0 : Int32) : Option (Int32) :=
  if x2 = 0 then
    f_L_isOrder_b73 k f hz pl p2 x2 x4 (1 : Int32) y0
  else
    f_L_isOrder_b73 k f hz pl p2 x2 x4 (0 : Int32) y0
def f_L_isOrder (k : Nat) (f : Nat → Int32) (hz : Int32) (pl : Int32) (p2 : Int32) : Option (Int32) :=
  zb1 (f_X7_ofOrder k f p2 (3 : Int32)) fun v1 =>
  zb1 (f_X7_ofOrder k f p2 (4 : Int32)) fun v2 =>
  zb1 (f_X7_ofOrder k f p2 (6 : Int32)) fun v3 =>
  zb1 (f_X7_ofOrder k f p2 (0 : Int32)) fun v4 =>
  zb1 (f_X7_ofOrder k f p2 (1 : Int32)) fun v5 =>
  if v4 < v5 then
    f_L_isOrder_b109 k f hz pl p2 v1 v3
  else
    zb1 (f_X7_ofOrder k f p2 (1 : Int32)) fun v29 =>
    zb1 (f_X7_ofOrder k f p2 (2 : Int32)) fun v30 =>
    if v29 < v30 then
      f_L_isOrder_b109 k f hz pl p2 v1 v3
    else
      if v2 = (-6 : Int32) then
        f_L_isOrder_b64 k f hz pl p2 v1 v3 (1 : Int32)
      else
        f_L_isOrder_b64 k f hz pl p2 v1 v3 (0 : Int32)
set_option maxRecDepth 100000 in
set_option maxHeartbeats 4000000 in
theorem ct_L_isOrder (l : Launch) (D : va_G) (ct a : Nat → Nat) (f : Nat → Int32) (g : Nat → Nat → Int32) (nx : Int32) (hz : Int32) (sw : Nat → Nat → Int32) (fl : Nat → Int32) (sg : Nat → Int32) (pl : Int32) (pa : Int32) (pk : Int32) (pn : Nat → Int32) (pf : Int32) (pg : Int32) (p2 : Int32) (k : Nat) (r : Int32) (h : f_L_isOrder k f hz pl p2 = some r) : Met l yL_isOrder (Cond.code yL_isOrder cL_isOrder 10 (some .boolean) :: zT) ({ frames := 7, cells := 0, slots := 0, locals := 163 } : Room) (va_Pc [.ref (a 0), .int p2] (zPR D (zTys ct) (wX7 ct a f g nx hz sw fl sg pl pa pk pn pf pg))) (vp_Si (fun r' => r' = r)) 0 0 (fun _ => False) := by
  refine zMet (cc := cL_isOrder) (maxL := 10) (ret := (some .boolean)) (av := [.ref (a 0), .int p2]) (by decide) (Nat.le_of_ble_eq_true rfl) (fun p e s m below meth c ls hx hb hr hml hts hown hlocks hin hB hl => ?_)
  have hl : lv_has ls 10 [(0, .ref (a 0)), (1, .int p2)] := hl
  have hown : s.vm.findClass RL = some m.cls := hown
  obtain ⟨hP, hK⟩ := hB
  have B349 : ∀ (_ : Unit), f_L_isOrder_b349 k f hz pl p2 = some r → ∀ (ls : Array Slot), lv_has ls 10 [] → W p l e ({ frames := 7, cells := 0, slots := 0, locals := 163 } : Room) s m ([.ref (a 0), .int p2] : List Value).toArray below meth c s.heap [] 0 0 (MQ below (vp_Si (fun r' => r' = r)) ([.ref (a 0), .int p2] : List Value).toArray s 0 0 (fun _ => False)) (F0 m 349 ls []) := by
    intro _ h ls hl
    rw [f_L_isOrder_b349] at h
    refine lv_iconst (v := (0 : Int32)) hx hb dL_isOrder_349 (by decide) ?_
    exact zR_z hx hb hr hlocks dL_isOrder_350 h
  have B345 : ∀ (_ : Unit), f_L_isOrder_b345 k f hz pl p2 = some r → ∀ (ls : Array Slot), lv_has ls 10 [] → W p l e ({ frames := 7, cells := 0, slots := 0, locals := 163 } : Room) s m ([.ref (a 0), .int p2] : List Value).toArray below meth c s.heap [] 0 0 (MQ below (vp_Si (fun r' => r' = r)) ([.ref (a 0), .int p2] : List Value).toArray s 0 0 (fun _ => False)) (F0 m 345 ls []) := by
    intro _ h ls hl
    rw [f_L_isOrder_b345] at h
    refine lv_iconst (v := (1 : Int32)) hx hb dL_isOrder_345 (by decide) ?_
    refine lv_goto (tgt := 350) hx hb dL_isOrder_346 (by decide) ?_
    exact zR_z hx hb hr hlocks dL_isOrder_350 h
  have B302 : ∀ (k129 : Int32 → Int32 → Int32 → Int32 → Int32 → Int32 → Option (Int32)) (hk129 : ∀ (x2 : Int32) (x4 : Int32) (x5 : Int32) (x6 : Int32) (x7 : Int32) (x8 : Int32), k129 x2 x4 x5 x6 x7 x8 = some r → ∀ (ls : Array Slot), lv_has ls 10 [(0, .ref (a 0)), (1, .int p2), (2, .int x2), (4, .int x4), (5, .int x5), (6, .int x6), (7, .int x7), (8, .int x8)] → W p l e ({ frames := 7, cells := 0, slots := 0, locals := 163 } : Room) s m ([.ref (a 0), .int p2] : List Value).toArray below meth c s.heap [] 0 0 (MQ below (vp_Si (fun r' => r' = r)) ([.ref (a 0), .int p2] : List Value).toArray s 0 0 (fun _ => False)) (F0 m 129 ls [])), ∀ (x2 : Int32) (x4 : Int32) (x5 : Int32) (x6 : Int32) (x7 : Int32) (x8 : Int32), f_L_isOrder_b302 k f hz pl p2 k129 x2 x4 x5 x6 x7 x8 = some r → ∀ (ls : Array Slot), lv_has ls 10 [(0, .ref (a 0)), (1, .int p2), (2, .int x2), (4, .int x4), (5, .int x5), (6, .int x6), (7, .int x7), (8, .int x8)] → W p l e ({ frames := 7, cells := 0, slots := 0, locals := 163 } : Room) s m ([.ref (a 0), .int p2] : List Value).toArray below meth c s.heap [] 0 0 (MQ below (vp_Si (fun r' => r' = r)) ([.ref (a 0), .int p2] : List Value).toArray s 0 0 (fun _ => False)) (F0 m 302 ls []) := by
    intro k129 hk129
    intro x2 x4 x5 x6 x7 x8 h ls hl
    rw [f_L_isOrder_b302] at h
    refine o_nm h (fun v23 ey h => ?_)
    refine lv_iinc (v := v23) (lv' := [(8, .int v23), (0, .ref (a 0)), (1, .int p2), (2, .int x2), (4, .int x4), (5, .int x5), (6, .int x6), (7, .int x7)]) hx hb dL_isOrder_302 hl (k := 7) rfl (Eq.trans rfl ey) (by decide) rfl (fun ls hl => ?_)
    refine lv_goto (tgt := 129) hx hb dL_isOrder_305 (by decide) ?_
    exact hk129 x2 x4 x5 x6 x7 v23 h ls (lv_sub hl [1, 2, 3, 4, 5, 6, 7, 0] rfl)
  have B300 : ∀ (k129 : Int32 → Int32 → Int32 → Int32 → Int32 → Int32 → Option (Int32)) (hk129 : ∀ (x2 : Int32) (x4 : Int32) (x5 : Int32) (x6 : Int32) (x7 : Int32) (x8 : Int32), k129 x2 x4 x5 x6 x7 x8 = some r → ∀ (ls : Array Slot), lv_has ls 10 [(0, .ref (a 0)), (1, .int p2), (2, .int x2), (4, .int x4), (5, .int x5), (6, .int x6), (7, .int x7), (8, .int x8)] → W p l e ({ frames := 7, cells := 0, slots := 0, locals := 163 } : Room) s m ([.ref (a 0), .int p2] : List Value).toArray below meth c s.heap [] 0 0 (MQ below (vp_Si (fun r' => r' = r)) ([.ref (a 0), .int p2] : List Value).toArray s 0 0 (fun _ => False)) (F0 m 129 ls [])), ∀ (x2 : Int32) (x4 : Int32) (x5 : Int32) (x7 : Int32) (x8 : Int32) (y0 : Int32), f_L_isOrder_b300 k f hz pl p2 k129 x2 x4 x5 x7 x8 y0 = some r → ∀ (ls : Array Slot), lv_has ls 10 [(0, .ref (a 0)), (1, .int p2), (2, .int x2), (4, .int x4), (5, .int x5), (7, .int x7), (8, .int x8)] → W p l e ({ frames := 7, cells := 0, slots := 0, locals := 163 } : Room) s m ([.ref (a 0), .int p2] : List Value).toArray below meth c s.heap [] 0 0 (MQ below (vp_Si (fun r' => r' = r)) ([.ref (a 0), .int p2] : List Value).toArray s 0 0 (fun _ => False)) (F0 m 300 ls [.int y0]) := by
    intro k129 hk129
    intro x2 x4 x5 x7 x8 y0 h ls hl
    rw [f_L_isOrder_b300] at h
    refine lv_istore (lv' := [(6, .int y0), (0, .ref (a 0)), (1, .int p2), (2, .int x2), (4, .int x4), (5, .int x5), (7, .int x7), (8, .int x8)]) hx hb dL_isOrder_300 hl (by decide) rfl (fun ls hl => ?_)
    exact B302 (k129) hk129 x2 x4 x5 y0 x7 x8 h ls (lv_sub hl [1, 2, 3, 4, 5, 0, 6, 7] rfl)
  have B293 : ∀ (k129 : Int32 → Int32 → Int32 → Int32 → Int32 → Int32 → Option (Int32)) (hk129 : ∀ (x2 : Int32) (x4 : Int32) (x5 : Int32) (x6 : Int32) (x7 : Int32) (x8 : Int32), k129 x2 x4 x5 x6 x7 x8 = some r → ∀ (ls : Array Slot), lv_has ls 10 [(0, .ref (a 0)), (1, .int p2), (2, .int x2), (4, .int x4), (5, .int x5), (6, .int x6), (7, .int x7), (8, .int x8)] → W p l e ({ frames := 7, cells := 0, slots := 0, locals := 163 } : Room) s m ([.ref (a 0), .int p2] : List Value).toArray below meth c s.heap [] 0 0 (MQ below (vp_Si (fun r' => r' = r)) ([.ref (a 0), .int p2] : List Value).toArray s 0 0 (fun _ => False)) (F0 m 129 ls [])), ∀ (x2 : Int32) (x4 : Int32) (x5 : Int32) (x7 : Int32) (x8 : Int32) (x9 : Int32), f_L_isOrder_b293 k f hz pl p2 k129 x2 x4 x5 x7 x8 x9 = some r → ∀ (ls : Array Slot), lv_has ls 10 [(0, .ref (a 0)), (1, .int p2), (2, .int x2), (4, .int x4), (5, .int x5), (7, .int x7), (8, .int x8), (9, .int x9)] → W p l e ({ frames := 7, cells := 0, slots := 0, locals := 163 } : Room) s m ([.ref (a 0), .int p2] : List Value).toArray below meth c s.heap [] 0 0 (MQ below (vp_Si (fun r' => r' = r)) ([.ref (a 0), .int p2] : List Value).toArray s 0 0 (fun _ => False)) (F0 m 293 ls []) := by
    intro k129 hk129
    intro x2 x4 x5 x7 x8 x9 h ls hl
    rw [f_L_isOrder_b293] at h
    refine lv_iload hx hb dL_isOrder_293 (lv_at hl 7 rfl) ?_
    refine lv_goto (tgt := 300) hx hb dL_isOrder_295 (by decide) ?_
    exact B300 (k129) hk129 x2 x4 x5 x7 x8 x9 h ls (lv_sub hl [0, 1, 2, 3, 4, 5, 6] rfl)
  have B277 : ∀ (k129 : Int32 → Int32 → Int32 → Int32 → Int32 → Int32 → Option (Int32)) (hk129 : ∀ (x2 : Int32) (x4 : Int32) (x5 : Int32) (x6 : Int32) (x7 : Int32) (x8 : Int32), k129 x2 x4 x5 x6 x7 x8 = some r → ∀ (ls : Array Slot), lv_has ls 10 [(0, .ref (a 0)), (1, .int p2), (2, .int x2), (4, .int x4), (5, .int x5), (6, .int x6), (7, .int x7), (8, .int x8)] → W p l e ({ frames := 7, cells := 0, slots := 0, locals := 163 } : Room) s m ([.ref (a 0), .int p2] : List Value).toArray below meth c s.heap [] 0 0 (MQ below (vp_Si (fun r' => r' = r)) ([.ref (a 0), .int p2] : List Value).toArray s 0 0 (fun _ => False)) (F0 m 129 ls [])), ∀ (x2 : Int32) (x4 : Int32) (x5 : Int32) (x6 : Int32) (x8 : Int32) (x9 : Int32) (y0 : Int32), f_L_isOrder_b277 k f hz pl p2 k129 x2 x4 x5 x6 x8 x9 y0 = some r → ∀ (ls : Array Slot), lv_has ls 10 [(0, .ref (a 0)), (1, .int p2), (2, .int x2), (4, .int x4), (5, .int x5), (6, .int x6), (8, .int x8), (9, .int x9)] → W p l e ({ frames := 7, cells := 0, slots := 0, locals := 163 } : Room) s m ([.ref (a 0), .int p2] : List Value).toArray below meth c s.heap [] 0 0 (MQ below (vp_Si (fun r' => r' = r)) ([.ref (a 0), .int p2] : List Value).toArray s 0 0 (fun _ => False)) (F0 m 277 ls [.int y0]) := by
    intro k129 hk129
    intro x2 x4 x5 x6 x8 x9 y0 h ls hl
    rw [f_L_isOrder_b277] at h
    refine lv_istore (lv' := [(7, .int y0), (0, .ref (a 0)), (1, .int p2), (2, .int x2), (4, .int x4), (5, .int x5), (6, .int x6), (8, .int x8), (9, .int x9)]) hx hb dL_isOrder_277 hl (by decide) rfl (fun ls hl => ?_)
    refine lv_iload hx hb dL_isOrder_279 (lv_at hl 6 rfl) ?_
    refine lv_bipush (v := (-6 : Int32)) hx hb dL_isOrder_281 (by decide) ?_
    refine zc_eq (tgt := 293) hx hb dL_isOrder_283 (by decide) h (fun h => ?_) (fun h => ?_)
    · exact B293 (k129) hk129 x2 x4 x5 y0 x8 x9 h ls (lv_sub hl [1, 2, 3, 4, 5, 0, 7, 8] rfl)
    · refine lv_iload hx hb dL_isOrder_286 (lv_at hl 8 rfl) ?_
      refine lv_iload hx hb dL_isOrder_288 (lv_at hl 6 rfl) ?_
      refine zc_ge (tgt := 298) hx hb dL_isOrder_290 (by decide) h (fun h => ?_) (fun h => ?_)
      · refine lv_iload hx hb dL_isOrder_298 (lv_at hl 6 rfl) ?_
        exact B300 (k129) hk129 x2 x4 x5 y0 x8 x6 h ls (lv_sub hl [1, 2, 3, 4, 5, 0, 7] rfl)
      · exact B293 (k129) hk129 x2 x4 x5 y0 x8 x9 h ls (lv_sub hl [1, 2, 3, 4, 5, 0, 7, 8] rfl)
  have B270 : ∀ (k129 : Int32 → Int32 → Int32 → Int32 → Int32 → Int32 → Option (Int32)) (hk129 : ∀ (x2 : Int32) (x4 : Int32) (x5 : Int32) (x6 : Int32) (x7 : Int32) (x8 : Int32), k129 x2 x4 x5 x6 x7 x8 = some r → ∀ (ls : Array Slot), lv_has ls 10 [(0, .ref (a 0)), (1, .int p2), (2, .int x2), (4, .int x4), (5, .int x5), (6, .int x6), (7, .int x7), (8, .int x8)] → W p l e ({ frames := 7, cells := 0, slots := 0, locals := 163 } : Room) s m ([.ref (a 0), .int p2] : List Value).toArray below meth c s.heap [] 0 0 (MQ below (vp_Si (fun r' => r' = r)) ([.ref (a 0), .int p2] : List Value).toArray s 0 0 (fun _ => False)) (F0 m 129 ls [])), ∀ (x2 : Int32) (x4 : Int32) (x5 : Int32) (x6 : Int32) (x8 : Int32) (x9 : Int32), f_L_isOrder_b270 k f hz pl p2 k129 x2 x4 x5 x6 x8 x9 = some r → ∀ (ls : Array Slot), lv_has ls 10 [(0, .ref (a 0)), (1, .int p2), (2, .int x2), (4, .int x4), (5, .int x5), (6, .int x6), (8, .int x8), (9, .int x9)] → W p l e ({ frames := 7, cells := 0, slots := 0, locals := 163 } : Room) s m ([.ref (a 0), .int p2] : List Value).toArray below meth c s.heap [] 0 0 (MQ below (vp_Si (fun r' => r' = r)) ([.ref (a 0), .int p2] : List Value).toArray s 0 0 (fun _ => False)) (F0 m 270 ls []) := by
    intro k129 hk129
    intro x2 x4 x5 x6 x8 x9 h ls hl
    rw [f_L_isOrder_b270] at h
    refine lv_iload hx hb dL_isOrder_270 (lv_at hl 6 rfl) ?_
    refine lv_goto (tgt := 277) hx hb dL_isOrder_272 (by decide) ?_
    exact B277 (k129) hk129 x2 x4 x5 x6 x8 x9 x8 h ls (lv_sub hl [0, 1, 2, 3, 4, 5, 6, 7] rfl)
  have B254 : ∀ (k129 : Int32 → Int32 → Int32 → Int32 → Int32 → Int32 → Option (Int32)) (hk129 : ∀ (x2 : Int32) (x4 : Int32) (x5 : Int32) (x6 : Int32) (x7 : Int32) (x8 : Int32), k129 x2 x4 x5 x6 x7 x8 = some r → ∀ (ls : Array Slot), lv_has ls 10 [(0, .ref (a 0)), (1, .int p2), (2, .int x2), (4, .int x4), (5, .int x5), (6, .int x6), (7, .int x7), (8, .int x8)] → W p l e ({ frames := 7, cells := 0, slots := 0, locals := 163 } : Room) s m ([.ref (a 0), .int p2] : List Value).toArray below meth c s.heap [] 0 0 (MQ below (vp_Si (fun r' => r' = r)) ([.ref (a 0), .int p2] : List Value).toArray s 0 0 (fun _ => False)) (F0 m 129 ls [])), ∀ (x2 : Int32) (x4 : Int32) (x6 : Int32) (x7 : Int32) (x8 : Int32) (x9 : Int32) (y0 : Int32), f_L_isOrder_b254 k f hz pl p2 k129 x2 x4 x6 x7 x8 x9 y0 = some r → ∀ (ls : Array Slot), lv_has ls 10 [(0, .ref (a 0)), (1, .int p2), (2, .int x2), (4, .int x4), (6, .int x6), (7, .int x7), (8, .int x8), (9, .int x9)] → W p l e ({ frames := 7, cells := 0, slots := 0, locals := 163 } : Room) s m ([.ref (a 0), .int p2] : List Value).toArray below meth c s.heap [] 0 0 (MQ below (vp_Si (fun r' => r' = r)) ([.ref (a 0), .int p2] : List Value).toArray s 0 0 (fun _ => False)) (F0 m 254 ls [.int y0]) := by
    intro k129 hk129
    intro x2 x4 x6 x7 x8 x9 y0 h ls hl
    rw [f_L_isOrder_b254] at h
    refine lv_istore (lv' := [(5, .int y0), (0, .ref (a 0)), (1, .int p2), (2, .int x2), (4, .int x4), (6, .int x6), (7, .int x7), (8, .int x8), (9, .int x9)]) hx hb dL_isOrder_254 hl (by decide) rfl (fun ls hl => ?_)
    refine lv_iload hx hb dL_isOrder_256 (lv_at hl 5 rfl) ?_
    refine lv_bipush (v := (-6 : Int32)) hx hb dL_isOrder_258 (by decide) ?_
    refine zc_eq (tgt := 270) hx hb dL_isOrder_260 (by decide) h (fun h => ?_) (fun h => ?_)
    · exact B270 (k129) hk129 x2 x4 y0 x6 x8 x9 h ls (lv_sub hl [1, 2, 3, 4, 0, 5, 7, 8] rfl)
    · refine lv_iload hx hb dL_isOrder_263 (lv_at hl 8 rfl) ?_
      refine lv_iload hx hb dL_isOrder_265 (lv_at hl 5 rfl) ?_
      refine zc_gt (tgt := 275) hx hb dL_isOrder_267 (by decide) h (fun h => ?_) (fun h => ?_)
      · refine lv_iload hx hb dL_isOrder_275 (lv_at hl 6 rfl) ?_
        exact B277 (k129) hk129 x2 x4 y0 x6 x8 x9 x7 h ls (lv_sub hl [1, 2, 3, 4, 0, 5, 7, 8] rfl)
      · exact B270 (k129) hk129 x2 x4 y0 x6 x8 x9 h ls (lv_sub hl [1, 2, 3, 4, 0, 5, 7, 8] rfl)
  have B253 : ∀ (k129 : Int32 → Int32 → Int32 → Int32 → Int32 → Int32 → Option (Int32)) (hk129 : ∀ (x2 : Int32) (x4 : Int32) (x5 : Int32) (x6 : Int32) (x7 : Int32) (x8 : Int32), k129 x2 x4 x5 x6 x7 x8 = some r → ∀ (ls : Array Slot), lv_has ls 10 [(0, .ref (a 0)), (1, .int p2), (2, .int x2), (4, .int x4), (5, .int x5), (6, .int x6), (7, .int x7), (8, .int x8)] → W p l e ({ frames := 7, cells := 0, slots := 0, locals := 163 } : Room) s m ([.ref (a 0), .int p2] : List Value).toArray below meth c s.heap [] 0 0 (MQ below (vp_Si (fun r' => r' = r)) ([.ref (a 0), .int p2] : List Value).toArray s 0 0 (fun _ => False)) (F0 m 129 ls [])), ∀ (x2 : Int32) (x4 : Int32) (x6 : Int32) (x7 : Int32) (x8 : Int32) (x9 : Int32), f_L_isOrder_b253 k f hz pl p2 k129 x2 x4 x6 x7 x8 x9 = some r → ∀ (ls : Array Slot), lv_has ls 10 [(0, .ref (a 0)), (1, .int p2), (2, .int x2), (4, .int x4), (6, .int x6), (7, .int x7), (8, .int x8), (9, .int x9)] → W p l e ({ frames := 7, cells := 0, slots := 0, locals := 163 } : Room) s m ([.ref (a 0), .int p2] : List Value).toArray below meth c s.heap [] 0 0 (MQ below (vp_Si (fun r' => r' = r)) ([.ref (a 0), .int p2] : List Value).toArray s 0 0 (fun _ => False)) (F0 m 253 ls []) := by
    intro k129 hk129
    intro x2 x4 x6 x7 x8 x9 h ls hl
    rw [f_L_isOrder_b253] at h
    refine lv_iconst (v := (0 : Int32)) hx hb dL_isOrder_253 (by decide) ?_
    exact B254 (k129) hk129 x2 x4 x6 x7 x8 x9 (0 : Int32) h ls (lv_sub hl [0, 1, 2, 3, 4, 5, 6, 7] rfl)
  have B129 : ∀ (n : Nat), ∀ (x2 : Int32) (x4 : Int32) (x5 : Int32) (x6 : Int32) (x7 : Int32) (x8 : Int32), f_L_isOrder_b129 k f hz pl p2 n x2 x4 x5 x6 x7 x8 = some r → ∀ (ls : Array Slot), lv_has ls 10 [(0, .ref (a 0)), (1, .int p2), (2, .int x2), (4, .int x4), (5, .int x5), (6, .int x6), (7, .int x7), (8, .int x8)] → W p l e ({ frames := 7, cells := 0, slots := 0, locals := 163 } : Room) s m ([.ref (a 0), .int p2] : List Value).toArray below meth c s.heap [] 0 0 (MQ below (vp_Si (fun r' => r' = r)) ([.ref (a 0), .int p2] : List Value).toArray s 0 0 (fun _ => False)) (F0 m 129 ls []) := by
    intro n
    induction n with
    | zero => intro x2 x4 x5 x6 x7 x8 h; exact absurd h (by rw [f_L_isOrder_b129]; exact fun q => nomatch q)
    | succ n ih129 =>
      intro x2 x4 x5 x6 x7 x8 h ls hl
      rw [f_L_isOrder_b129] at h
      refine lv_iload hx hb dL_isOrder_129 (lv_at hl 7 rfl) ?_
      refine zi_lt (tgt := 308) hx hb dL_isOrder_131 (by decide) h (fun h => ?_) (fun h => ?_)
      · refine lv_iload hx hb dL_isOrder_308 (lv_at hl 4 rfl) ?_
        refine zi_eq (tgt := 349) hx hb dL_isOrder_310 (by decide) h (fun h => ?_) (fun h => ?_)
        · exact B349 () h ls (lv_sub hl [] rfl)
        · refine lv_iload_n hx hb dL_isOrder_313 rfl (lv_at hl 2 rfl) ?_
          refine zi_ne (tgt := 330) hx hb dL_isOrder_314 (by decide) h (fun h => ?_) (fun h => ?_)
          · refine lv_iload hx hb dL_isOrder_330 (lv_at hl 3 rfl) ?_
            refine zi_ne (tgt := 349) hx hb dL_isOrder_332 (by decide) h (fun h => ?_) (fun h => ?_)
            · exact B349 () h ls (lv_sub hl [] rfl)
            · refine lv_aload_n hx hb dL_isOrder_335 rfl (lv_at hl 0 rfl) ?_
              refine lv_iload_n hx hb dL_isOrder_336 rfl (lv_at hl 1 rfl) ?_
              obtain ⟨v8, hc, h⟩ := zb1_s h
              refine zE_i (zrV (C := RX7) (As := [.int p2]) (rest := []) hx hb hml hown hts tw556 mv_X7_bestBlock ⟨Nat.le_of_ble_eq_true rfl, Nat.le_of_ble_eq_true rfl⟩ rfl rfl (ct_X7_bestBlock l D ct a f g nx hz sw fl sg pl pa pk pn pf pg p2 k v8 hc) (z_pv hK hP [0, 1, 2, 3, 4, 5, 6, 7, 8, 9, 10, 11, 12, 13, 14, 15, 16, 17, 18, 19, 20, 21] rfl 0 rfl rfl) hl.1 rfl rfl (Nat.le_of_ble_eq_true rfl) dL_isOrder_337 ⟨Nat.le_refl _, Nat.le_refl _⟩) ?_
              refine lv_bipush (v := (-5 : Int32)) hx hb dL_isOrder_340 (by decide) ?_
              refine zc_ne (tgt := 349) hx hb dL_isOrder_342 (by decide) h (fun h => ?_) (fun h => ?_)
              · exact B349 () h ls (lv_sub hl [] rfl)
              · exact B345 () h ls (lv_sub hl [] rfl)
          · refine lv_aload_n hx hb dL_isOrder_317 rfl (lv_at hl 0 rfl) ?_
            refine lv_iload_n hx hb dL_isOrder_318 rfl (lv_at hl 1 rfl) ?_
            obtain ⟨v9, hc, h⟩ := zb1_s h
            refine zE_i (zrV (C := RX7) (As := [.int p2]) (rest := []) hx hb hml hown hts tw556 mv_X7_bestBlock ⟨Nat.le_of_ble_eq_true rfl, Nat.le_of_ble_eq_true rfl⟩ rfl rfl (ct_X7_bestBlock l D ct a f g nx hz sw fl sg pl pa pk pn pf pg p2 k v9 hc) (z_pv hK hP [0, 1, 2, 3, 4, 5, 6, 7, 8, 9, 10, 11, 12, 13, 14, 15, 16, 17, 18, 19, 20, 21] rfl 0 rfl rfl) hl.1 rfl rfl (Nat.le_of_ble_eq_true rfl) dL_isOrder_319 ⟨Nat.le_refl _, Nat.le_refl _⟩) ?_
            refine lv_iload hx hb dL_isOrder_322 (lv_at hl 6 rfl) ?_
            refine zc_ne (tgt := 349) hx hb dL_isOrder_324 (by decide) h (fun h => ?_) (fun h => ?_)
            · exact B349 () h ls (lv_sub hl [] rfl)
            · refine lv_goto (tgt := 345) hx hb dL_isOrder_327 (by decide) ?_
              exact B345 () h ls (lv_sub hl [] rfl)
      · refine lv_aload_n hx hb dL_isOrder_134 rfl (lv_at hl 0 rfl) ?_
        refine lv_iload hx hb dL_isOrder_135 (lv_at hl 7 rfl) ?_
        refine lv_iconst (v := (0 : Int32)) hx hb dL_isOrder_137 (by decide) ?_
        obtain ⟨v10, hc, h⟩ := zb1_s h
        refine zE_i (zrV (C := RX7) (As := [.int x8, .int (0 : Int32)]) (rest := []) hx hb hml hown hts tw363 mv_X7_of ⟨Nat.le_of_ble_eq_true rfl, Nat.le_of_ble_eq_true rfl⟩ rfl rfl (ct_X7_of l D ct a f g nx hz sw fl sg pl pa pk pn pf pg x8 (0 : Int32) k v10 hc) (z_pv hK hP [0, 1, 2, 3, 4, 5, 6, 7, 8, 9, 10, 11, 12, 13, 14, 15, 16, 17, 18, 19, 20, 21] rfl 0 rfl rfl) hl.1 rfl rfl (Nat.le_of_ble_eq_true rfl) dL_isOrder_138 ⟨Nat.le_refl _, Nat.le_refl _⟩) ?_
        refine lv_aload_n hx hb dL_isOrder_141 rfl (lv_at hl 0 rfl) ?_
        refine lv_iload hx hb dL_isOrder_142 (lv_at hl 7 rfl) ?_
        refine lv_iconst (v := (1 : Int32)) hx hb dL_isOrder_144 (by decide) ?_
        obtain ⟨v11, hc, h⟩ := zb1_s h
        refine zE_i (zrV (C := RX7) (As := [.int x8, .int (1 : Int32)]) (rest := [.int v10]) hx hb hml hown hts tw363 mv_X7_of ⟨Nat.le_of_ble_eq_true rfl, Nat.le_of_ble_eq_true rfl⟩ rfl rfl (ct_X7_of l D ct a f g nx hz sw fl sg pl pa pk pn pf pg x8 (1 : Int32) k v11 hc) (z_pv hK hP [0, 1, 2, 3, 4, 5, 6, 7, 8, 9, 10, 11, 12, 13, 14, 15, 16, 17, 18, 19, 20, 21] rfl 0 rfl rfl) hl.1 rfl rfl (Nat.le_of_ble_eq_true rfl) dL_isOrder_145 ⟨Nat.le_refl _, Nat.le_refl _⟩) ?_
        refine o_iadd hx hb dL_isOrder_148 h (fun v12 h => ?_)
        refine lv_aload_n hx hb dL_isOrder_149 rfl (lv_at hl 0 rfl) ?_
        refine lv_iload hx hb dL_isOrder_150 (lv_at hl 7 rfl) ?_
        refine lv_iconst (v := (2 : Int32)) hx hb dL_isOrder_152 (by decide) ?_
        obtain ⟨v13, hc, h⟩ := zb1_s h
        refine zE_i (zrV (C := RX7) (As := [.int x8, .int (2 : Int32)]) (rest := [.int v12]) hx hb hml hown hts tw363 mv_X7_of ⟨Nat.le_of_ble_eq_true rfl, Nat.le_of_ble_eq_true rfl⟩ rfl rfl (ct_X7_of l D ct a f g nx hz sw fl sg pl pa pk pn pf pg x8 (2 : Int32) k v13 hc) (z_pv hK hP [0, 1, 2, 3, 4, 5, 6, 7, 8, 9, 10, 11, 12, 13, 14, 15, 16, 17, 18, 19, 20, 21] rfl 0 rfl rfl) hl.1 rfl rfl (Nat.le_of_ble_eq_true rfl) dL_isOrder_153 ⟨Nat.le_refl _, Nat.le_refl _⟩) ?_
        refine o_iadd hx hb dL_isOrder_156 h (fun v14 h => ?_)
        refine lv_aload_n hx hb dL_isOrder_157 rfl (lv_at hl 0 rfl) ?_
        refine lv_iload_n hx hb dL_isOrder_158 rfl (lv_at hl 1 rfl) ?_
        refine lv_iconst (v := (0 : Int32)) hx hb dL_isOrder_159 (by decide) ?_
        obtain ⟨v15, hc, h⟩ := zb1_s h
        refine zE_i (zrV (C := RX7) (As := [.int p2, .int (0 : Int32)]) (rest := [.int v14]) hx hb hml hown hts tw537 mv_X7_ofOrder ⟨Nat.le_of_ble_eq_true rfl, Nat.le_of_ble_eq_true rfl⟩ rfl rfl (ct_X7_ofOrder l D ct a f g nx hz sw fl sg pl pa pk pn pf pg p2 (0 : Int32) k v15 hc) (z_pv hK hP [0, 1, 2, 3, 4, 5, 6, 7, 8, 9, 10, 11, 12, 13, 14, 15, 16, 17, 18, 19, 20, 21] rfl 0 rfl rfl) hl.1 rfl rfl (Nat.le_of_ble_eq_true rfl) dL_isOrder_160 ⟨Nat.le_refl _, Nat.le_refl _⟩) ?_
        refine o_isub hx hb dL_isOrder_163 h (fun v16 h => ?_)
        refine lv_aload_n hx hb dL_isOrder_164 rfl (lv_at hl 0 rfl) ?_
        refine lv_iload_n hx hb dL_isOrder_165 rfl (lv_at hl 1 rfl) ?_
        refine lv_iconst (v := (1 : Int32)) hx hb dL_isOrder_166 (by decide) ?_
        obtain ⟨v17, hc, h⟩ := zb1_s h
        refine zE_i (zrV (C := RX7) (As := [.int p2, .int (1 : Int32)]) (rest := [.int v16]) hx hb hml hown hts tw537 mv_X7_ofOrder ⟨Nat.le_of_ble_eq_true rfl, Nat.le_of_ble_eq_true rfl⟩ rfl rfl (ct_X7_ofOrder l D ct a f g nx hz sw fl sg pl pa pk pn pf pg p2 (1 : Int32) k v17 hc) (z_pv hK hP [0, 1, 2, 3, 4, 5, 6, 7, 8, 9, 10, 11, 12, 13, 14, 15, 16, 17, 18, 19, 20, 21] rfl 0 rfl rfl) hl.1 rfl rfl (Nat.le_of_ble_eq_true rfl) dL_isOrder_167 ⟨Nat.le_refl _, Nat.le_refl _⟩) ?_
        refine o_isub hx hb dL_isOrder_170 h (fun v18 h => ?_)
        refine lv_aload_n hx hb dL_isOrder_171 rfl (lv_at hl 0 rfl) ?_
        refine lv_iload_n hx hb dL_isOrder_172 rfl (lv_at hl 1 rfl) ?_
        refine lv_iconst (v := (2 : Int32)) hx hb dL_isOrder_173 (by decide) ?_
        obtain ⟨v19, hc, h⟩ := zb1_s h
        refine zE_i (zrV (C := RX7) (As := [.int p2, .int (2 : Int32)]) (rest := [.int v18]) hx hb hml hown hts tw537 mv_X7_ofOrder ⟨Nat.le_of_ble_eq_true rfl, Nat.le_of_ble_eq_true rfl⟩ rfl rfl (ct_X7_ofOrder l D ct a f g nx hz sw fl sg pl pa pk pn pf pg p2 (2 : Int32) k v19 hc) (z_pv hK hP [0, 1, 2, 3, 4, 5, 6, 7, 8, 9, 10, 11, 12, 13, 14, 15, 16, 17, 18, 19, 20, 21] rfl 0 rfl rfl) hl.1 rfl rfl (Nat.le_of_ble_eq_true rfl) dL_isOrder_174 ⟨Nat.le_refl _, Nat.le_refl _⟩) ?_
        refine o_isub hx hb dL_isOrder_177 h (fun v20 h => ?_)
        refine lv_istore (lv' := [(9, .int v20), (0, .ref (a 0)), (1, .int p2), (2, .int x2), (4, .int x4), (5, .int x5), (6, .int x6), (7, .int x7), (8, .int x8)]) hx hb dL_isOrder_178 hl (by decide) rfl (fun ls hl => ?_)
        refine lv_iload hx hb dL_isOrder_180 (lv_at hl 4 rfl) ?_
        refine lv_iload hx hb dL_isOrder_182 (lv_at hl 8 rfl) ?_
        refine o_ishr hx hb dL_isOrder_184 h (fun v21 h => ?_)
        refine lv_iconst (v := (1 : Int32)) hx hb dL_isOrder_185 (by decide) ?_
        refine o_iand hx hb dL_isOrder_186 h (fun v22 h => ?_)
        refine lv_iconst (v := (1 : Int32)) hx hb dL_isOrder_187 (by decide) ?_
        refine zc_ne (tgt := 302) hx hb dL_isOrder_188 (by decide) h (fun h => ?_) (fun h => ?_)
        · exact B302 (f_L_isOrder_b129 k f hz pl p2 n) ih129 x2 x4 x5 x6 x7 x8 h ls (lv_sub hl [1, 2, 3, 4, 5, 6, 7, 8] rfl)
        · refine lv_iload hx hb dL_isOrder_191 (lv_at hl 5 rfl) ?_
          refine zi_eq (tgt := 253) hx hb dL_isOrder_193 (by decide) h (fun h => ?_) (fun h => ?_)
          · exact B253 (f_L_isOrder_b129 k f hz pl p2 n) ih129 x2 x4 x6 x7 x8 v20 h ls (lv_sub hl [1, 2, 3, 4, 6, 7, 8, 0] rfl)
          · refine lv_aload_n hx hb dL_isOrder_196 rfl (lv_at hl 1 rfl) ?_
            refine lv_iload hx hb dL_isOrder_197 (lv_at hl 8 rfl) ?_
            refine lv_bipush (v := (7 : Int32)) hx hb dL_isOrder_199 (by decide) ?_
            obtain ⟨v24, hc, h⟩ := zb1_s h
            refine zE_i (zrV (C := RX7) (As := [.int x8, .int (7 : Int32)]) (rest := []) hx hb hml hown hts tw363 mv_X7_of ⟨Nat.le_of_ble_eq_true rfl, Nat.le_of_ble_eq_true rfl⟩ rfl rfl (ct_X7_of l D ct a f g nx hz sw fl sg pl pa pk pn pf pg x8 (7 : Int32) k v24 hc) (z_pv hK hP [0, 1, 2, 3, 4, 5, 6, 7, 8, 9, 10, 11, 12, 13, 14, 15, 16, 17, 18, 19, 20, 21] rfl 0 rfl rfl) hl.1 rfl rfl (Nat.le_of_ble_eq_true rfl) dL_isOrder_201 ⟨Nat.le_refl _, Nat.le_refl _⟩) ?_
            refine zi_ne (tgt := 253) hx hb dL_isOrder_204 (by decide) h (fun h => ?_) (fun h => ?_)
            · exact B253 (f_L_isOrder_b129 k f hz pl p2 n) ih129 x2 x4 x6 x7 x8 v20 h ls (lv_sub hl [1, 2, 3, 4, 6, 7, 8, 0] rfl)
            · refine lv_aload_n hx hb dL_isOrder_207 rfl (lv_at hl 1 rfl) ?_
              refine lv_iload hx hb dL_isOrder_208 (lv_at hl 8 rfl) ?_
              refine lv_bipush (v := (8 : Int32)) hx hb dL_isOrder_210 (by decide) ?_
              obtain ⟨v25, hc, h⟩ := zb1_s h
              refine zE_i (zrV (C := RX7) (As := [.int x8, .int (8 : Int32)]) (rest := []) hx hb hml hown hts tw363 mv_X7_of ⟨Nat.le_of_ble_eq_true rfl, Nat.le_of_ble_eq_true rfl⟩ rfl rfl (ct_X7_of l D ct a f g nx hz sw fl sg pl pa pk pn pf pg x8 (8 : Int32) k v25 hc) (z_pv hK hP [0, 1, 2, 3, 4, 5, 6, 7, 8, 9, 10, 11, 12, 13, 14, 15, 16, 17, 18, 19, 20, 21] rfl 0 rfl rfl) hl.1 rfl rfl (Nat.le_of_ble_eq_true rfl) dL_isOrder_212 ⟨Nat.le_refl _, Nat.le_refl _⟩) ?_
              refine lv_bipush (v := (-6 : Int32)) hx hb dL_isOrder_215 (by decide) ?_
              refine zc_ne (tgt := 253) hx hb dL_isOrder_217 (by decide) h (fun h => ?_) (fun h => ?_)
              · exact B253 (f_L_isOrder_b129 k f hz pl p2 n) ih129 x2 x4 x6 x7 x8 v20 h ls (lv_sub hl [1, 2, 3, 4, 6, 7, 8, 0] rfl)
              · refine lv_aload_n hx hb dL_isOrder_220 rfl (lv_at hl 1 rfl) ?_
                refine lv_iload hx hb dL_isOrder_221 (lv_at hl 8 rfl) ?_
                refine lv_iconst (v := (5 : Int32)) hx hb dL_isOrder_223 (by decide) ?_
                obtain ⟨v26, hc, h⟩ := zb1_s h
                refine zE_i (zrV (C := RX7) (As := [.int x8, .int (5 : Int32)]) (rest := []) hx hb hml hown hts tw363 mv_X7_of ⟨Nat.le_of_ble_eq_true rfl, Nat.le_of_ble_eq_true rfl⟩ rfl rfl (ct_X7_of l D ct a f g nx hz sw fl sg pl pa pk pn pf pg x8 (5 : Int32) k v26 hc) (z_pv hK hP [0, 1, 2, 3, 4, 5, 6, 7, 8, 9, 10, 11, 12, 13, 14, 15, 16, 17, 18, 19, 20, 21] rfl 0 rfl rfl) hl.1 rfl rfl (Nat.le_of_ble_eq_true rfl) dL_isOrder_224 ⟨Nat.le_refl _, Nat.le_refl _⟩) ?_
                refine lv_iconst (v := (3 : Int32)) hx hb dL_isOrder_227 (by decide) ?_
                refine zc_ge (tgt := 253) hx hb dL_isOrder_228 (by decide) h (fun h => ?_) (fun h => ?_)
                · exact B253 (f_L_isOrder_b129 k f hz pl p2 n) ih129 x2 x4 x6 x7 x8 v20 h ls (lv_sub hl [1, 2, 3, 4, 6, 7, 8, 0] rfl)
                · refine lv_iload hx hb dL_isOrder_231 (lv_at hl 0 rfl) ?_
                  refine zi_lt (tgt := 253) hx hb dL_isOrder_233 (by decide) h (fun h => ?_) (fun h => ?_)
                  · exact B253 (f_L_isOrder_b129 k f hz pl p2 n) ih129 x2 x4 x6 x7 x8 v20 h ls (lv_sub hl [1, 2, 3, 4, 6, 7, 8, 0] rfl)
                  · refine lv_iload hx hb dL_isOrder_236 (lv_at hl 0 rfl) ?_
                    refine lv_iconst (v := (3 : Int32)) hx hb dL_isOrder_238 (by decide) ?_
                    refine lv_aload_n hx hb dL_isOrder_239 rfl (lv_at hl 1 rfl) ?_
                    refine lv_bipush (v := (14 : Int32)) hx hb dL_isOrder_240 (by decide) ?_
                    obtain ⟨v27, hc, h⟩ := zb1_s h
                    refine zE_i (zrV (C := RX7) (As := [.int (14 : Int32)]) (rest := [.int (3 : Int32), .int v20]) hx hb hml hown hts tw152 mv_X7_count ⟨Nat.le_of_ble_eq_true rfl, Nat.le_of_ble_eq_true rfl⟩ rfl rfl (ct_X7_count l D ct a f g nx hz sw fl sg pl pa pk pn pf pg (14 : Int32) k v27 hc) (z_pv hK hP [0, 1, 2, 3, 4, 5, 6, 7, 8, 9, 10, 11, 12, 13, 14, 15, 16, 17, 18, 19, 20, 21] rfl 0 rfl rfl) hl.1 rfl rfl (Nat.le_of_ble_eq_true rfl) dL_isOrder_242 ⟨Nat.le_refl _, Nat.le_refl _⟩) ?_
                    refine o_imul hx hb dL_isOrder_245 h (fun v28 h => ?_)
                    refine zc_gt (tgt := 253) hx hb dL_isOrder_246 (by decide) h (fun h => ?_) (fun h => ?_)
                    · exact B253 (f_L_isOrder_b129 k f hz pl p2 n) ih129 x2 x4 x6 x7 x8 v20 h ls (lv_sub hl [1, 2, 3, 4, 6, 7, 8, 0] rfl)
                    · refine lv_iconst (v := (1 : Int32)) hx hb dL_isOrder_249 (by decide) ?_
                      refine lv_goto (tgt := 254) hx hb dL_isOrder_250 (by decide) ?_
                      exact B254 (f_L_isOrder_b129 k f hz pl p2 n) ih129 x2 x4 x6 x7 x8 v20 (1 : Int32) h ls (lv_sub hl [1, 2, 3, 4, 6, 7, 8, 0] rfl)
  have B110 : ∀ (x2 : Int32) (x4 : Int32) (y0 : Int32), f_L_isOrder_b110 k f hz pl p2 x2 x4 y0 = some r → ∀ (ls : Array Slot), lv_has ls 10 [(0, .ref (a 0)), (1, .int p2), (2, .int x2), (4, .int x4)] → W p l e ({ frames := 7, cells := 0, slots := 0, locals := 163 } : Room) s m ([.ref (a 0), .int p2] : List Value).toArray below meth c s.heap [] 0 0 (MQ below (vp_Si (fun r' => r' = r)) ([.ref (a 0), .int p2] : List Value).toArray s 0 0 (fun _ => False)) (F0 m 110 ls [.int y0]) := by
    intro x2 x4 y0 h ls hl
    rw [f_L_isOrder_b110] at h
    refine lv_istore (lv' := [(5, .int y0), (0, .ref (a 0)), (1, .int p2), (2, .int x2), (4, .int x4)]) hx hb dL_isOrder_110 hl (by decide) rfl (fun ls hl => ?_)
    refine lv_bipush (v := (-6 : Int32)) hx hb dL_isOrder_112 (by decide) ?_
    refine lv_istore (lv' := [(6, .int (-6 : Int32)), (5, .int y0), (0, .ref (a 0)), (1, .int p2), (2, .int x2), (4, .int x4)]) hx hb dL_isOrder_114 hl (by decide) rfl (fun ls hl => ?_)
    refine lv_bipush (v := (-6 : Int32)) hx hb dL_isOrder_116 (by decide) ?_
    refine lv_istore (lv' := [(7, .int (-6 : Int32)), (6, .int (-6 : Int32)), (5, .int y0), (0, .ref (a 0)), (1, .int p2), (2, .int x2), (4, .int x4)]) hx hb dL_isOrder_118 hl (by decide) rfl (fun ls hl => ?_)
    refine lv_aload_n hx hb dL_isOrder_120 rfl (lv_at hl 3 rfl) ?_
    refine lv_iconst (v := (1 : Int32)) hx hb dL_isOrder_121 (by decide) ?_
    obtain ⟨v6, hc, h⟩ := zb1_s h
    refine zE_i (zrV (C := RX7) (As := [.int (1 : Int32)]) (rest := []) hx hb hml hown hts tw152 mv_X7_count ⟨Nat.le_of_ble_eq_true rfl, Nat.le_of_ble_eq_true rfl⟩ rfl rfl (ct_X7_count l D ct a f g nx hz sw fl sg pl pa pk pn pf pg (1 : Int32) k v6 hc) (z_pv hK hP [0, 1, 2, 3, 4, 5, 6, 7, 8, 9, 10, 11, 12, 13, 14, 15, 16, 17, 18, 19, 20, 21] rfl 0 rfl rfl) hl.1 rfl rfl (Nat.le_of_ble_eq_true rfl) dL_isOrder_122 ⟨Nat.le_refl _, Nat.le_refl _⟩) ?_
    refine lv_iconst (v := (1 : Int32)) hx hb dL_isOrder_125 (by decide) ?_
    refine o_isub hx hb dL_isOrder_126 h (fun v7 h => ?_)
    refine lv_istore (lv' := [(8, .int v7), (7, .int (-6 : Int32)), (6, .int (-6 : Int32)), (5, .int y0), (0, .ref (a 0)), (1, .int p2), (2, .int x2), (4, .int x4)]) hx hb dL_isOrder_127 hl (by decide) rfl (fun ls hl => ?_)
    exact B129 k x2 x4 y0 (-6 : Int32) (-6 : Int32) v7 h ls (lv_sub hl [4, 5, 6, 7, 3, 2, 1, 0] rfl)
  have B109 : ∀ (x2 : Int32) (x4 : Int32), f_L_isOrder_b109 k f hz pl p2 x2 x4 = some r → ∀ (ls : Array Slot), lv_has ls 10 [(0, .ref (a 0)), (1, .int p2), (2, .int x2), (4, .int x4)] → W p l e ({ frames := 7, cells := 0, slots := 0, locals := 163 } : Room) s m ([.ref (a 0), .int p2] : List Value).toArray below meth c s.heap [] 0 0 (MQ below (vp_Si (fun r' => r' = r)) ([.ref (a 0), .int p2] : List Value).toArray s 0 0 (fun _ => False)) (F0 m 109 ls []) := by
    intro x2 x4 h ls hl
    rw [f_L_isOrder_b109] at h
    refine lv_iconst (v := (0 : Int32)) hx hb dL_isOrder_109 (by decide) ?_
    exact B110 x2 x4 (0 : Int32) h ls (lv_sub hl [0, 1, 2, 3] rfl)
  have B102 : ∀ (x2 : Int32) (x4 : Int32) (y0 : Int32) (y1 : Int32), f_L_isOrder_b102 k f hz pl p2 x2 x4 y0 y1 = some r → ∀ (ls : Array Slot), lv_has ls 10 [(0, .ref (a 0)), (1, .int p2), (2, .int x2), (4, .int x4)] → W p l e ({ frames := 7, cells := 0, slots := 0, locals := 163 } : Room) s m ([.ref (a 0), .int p2] : List Value).toArray below meth c s.heap [] 0 0 (MQ below (vp_Si (fun r' => r' = r)) ([.ref (a 0), .int p2] : List Value).toArray s 0 0 (fun _ => False)) (F0 m 102 ls [.int y0, .int y1]) := by
    intro x2 x4 y0 y1 h ls hl
    rw [f_L_isOrder_b102] at h
    refine zc_ne (tgt := 109) hx hb dL_isOrder_102 (by decide) h (fun h => ?_) (fun h => ?_)
    · exact B109 x2 x4 h ls (lv_sub hl [0, 1, 2, 3] rfl)
    · refine lv_iconst (v := (1 : Int32)) hx hb dL_isOrder_105 (by decide) ?_
      refine lv_goto (tgt := 110) hx hb dL_isOrder_106 (by decide) ?_
      exact B110 x2 x4 (1 : Int32) h ls (lv_sub hl [0, 1, 2, 3] rfl)
  have B92 : ∀ (x2 : Int32) (x4 : Int32) (y0 : Int32), f_L_isOrder_b92 k f hz pl p2 x2 x4 y0 = some r → ∀ (ls : Array Slot), lv_has ls 10 [(0, .ref (a 0)), (1, .int p2), (2, .int x2), (4, .int x4)] → W p l e ({ frames := 7, cells := 0, slots := 0, locals := 163 } : Room) s m ([.ref (a 0), .int p2] : List Value).toArray below meth c s.heap [] 0 0 (MQ below (vp_Si (fun r' => r' = r)) ([.ref (a 0), .int p2] : List Value).toArray s 0 0 (fun _ => False)) (F0 m 92 ls [.int y0]) := by
    intro x2 x4 y0 h ls hl
    rw [f_L_isOrder_b92] at h
    refine lv_iload_n hx hb dL_isOrder_92 rfl (lv_at hl 2 rfl) ?_
    refine lv_iconst (v := (2 : Int32)) hx hb dL_isOrder_93 (by decide) ?_
    refine zc_eq (tgt := 101) hx hb dL_isOrder_94 (by decide) h (fun h => ?_) (fun h => ?_)
    · refine lv_iconst (v := (0 : Int32)) hx hb dL_isOrder_101 (by decide) ?_
      exact B102 x2 x4 (0 : Int32) y0 h ls (lv_sub hl [0, 1, 2, 3] rfl)
    · refine lv_iconst (v := (1 : Int32)) hx hb dL_isOrder_97 (by decide) ?_
      refine lv_goto (tgt := 102) hx hb dL_isOrder_98 (by decide) ?_
      exact B102 x2 x4 (1 : Int32) y0 h ls (lv_sub hl [0, 1, 2, 3] rfl)
  have B73 : ∀ (x2 : Int32) (x4 : Int32) (y0 : Int32) (y1 : Int32), f_L_isOrder_b73 k f hz pl p2 x2 x4 y0 y1 = some r → ∀ (ls : Array Slot), lv_has ls 10 [(0, .ref (a 0)), (1, .int p2), (2, .int x2), (4, .int x4)] → W p l e ({ frames := 7, cells := 0, slots := 0, locals := 163 } : Room) s m ([.ref (a 0), .int p2] : List Value).toArray below meth c s.heap [] 0 0 (MQ below (vp_Si (fun r' => r' = r)) ([.ref (a 0), .int p2] : List Value).toArray s 0 0 (fun _ => False)) (F0 m 73 ls [.int y0, .int y1]) := by
    intro x2 x4 y0 y1 h ls hl
    rw [f_L_isOrder_b73] at h
    refine zc_ne (tgt := 109) hx hb dL_isOrder_73 (by decide) h (fun h => ?_) (fun h => ?_)
    · exact B109 x2 x4 h ls (lv_sub hl [0, 1, 2, 3] rfl)
    · refine lv_aload_n hx hb dL_isOrder_76 rfl (lv_at hl 0 rfl) ?_
      refine lv_iload_n hx hb dL_isOrder_77 rfl (lv_at hl 1 rfl) ?_
      refine lv_iconst (v := (5 : Int32)) hx hb dL_isOrder_78 (by decide) ?_
      obtain ⟨v31, hc, h⟩ := zb1_s h
      refine zE_i (zrV (C := RX7) (As := [.int p2, .int (5 : Int32)]) (rest := []) hx hb hml hown hts tw537 mv_X7_ofOrder ⟨Nat.le_of_ble_eq_true rfl, Nat.le_of_ble_eq_true rfl⟩ rfl rfl (ct_X7_ofOrder l D ct a f g nx hz sw fl sg pl pa pk pn pf pg p2 (5 : Int32) k v31 hc) (z_pv hK hP [0, 1, 2, 3, 4, 5, 6, 7, 8, 9, 10, 11, 12, 13, 14, 15, 16, 17, 18, 19, 20, 21] rfl 0 rfl rfl) hl.1 rfl rfl (Nat.le_of_ble_eq_true rfl) dL_isOrder_79 ⟨Nat.le_refl _, Nat.le_refl _⟩) ?_
      refine lv_bipush (v := (-6 : Int32)) hx hb dL_isOrder_82 (by decide) ?_
      refine zc_ne (tgt := 91) hx hb dL_isOrder_84 (by decide) h (fun h => ?_) (fun h => ?_)
      · refine lv_iconst (v := (0 : Int32)) hx hb dL_isOrder_91 (by decide) ?_
        exact B92 x2 x4 (0 : Int32) h ls (lv_sub hl [0, 1, 2, 3] rfl)
      · refine lv_iconst (v := (1 : Int32)) hx hb dL_isOrder_87 (by decide) ?_
        refine lv_goto (tgt := 92) hx hb dL_isOrder_88 (by decide) ?_
        exact B92 x2 x4 (1 : Int32) h ls (lv_sub hl [0, 1, 2, 3] rfl)
  have B64 : ∀ (x2 : Int32) (x4 : Int32) (y0 : Int32), f_L_isOrder_b64 k f hz pl p2 x2 x4 y0 = some r → ∀ (ls : Array Slot), lv_has ls 10 [(0, .ref (a 0)), (1, .int p2), (2, .int x2), (4, .int x4)] → W p l e ({ frames := 7, cells := 0, slots := 0, locals := 163 } : Room) s m ([.ref (a 0), .int p2] : List Value).toArray below meth c s.heap [] 0 0 (MQ below (vp_Si (fun r' => r' = r)) ([.ref (a 0), .int p2] : List Value).toArray s 0 0 (fun _ => False)) (F0 m 64 ls [.int y0]) := by
    intro x2 x4 y0 h ls hl
    rw [f_L_isOrder_b64] at h
    refine lv_iload_n hx hb dL_isOrder_64 rfl (lv_at hl 2 rfl) ?_
    refine zi_ne (tgt := 72) hx hb dL_isOrder_65 (by decide) h (fun h => ?_) (fun h => ?_)
    · refine lv_iconst (v := (0 : Int32)) hx hb dL_isOrder_72 (by decide) ?_
      exact B73 x2 x4 (0 : Int32) y0 h ls (lv_sub hl [0, 1, 2, 3] rfl)
    · refine lv_iconst (v := (1 : Int32)) hx hb dL_isOrder_68 (by decide) ?_
      refine lv_goto (tgt := 73) hx hb dL_isOrder_69 (by decide) ?_
      exact B73 x2 x4 (1 : Int32) y0 h ls (lv_sub hl [0, 1, 2, 3] rfl)
  rw [f_L_isOrder] at h
  refine lv_aload_n hx hb dL_isOrder_0 rfl (lv_at hl 0 rfl) ?_
  refine lv_iload_n hx hb dL_isOrder_1 rfl (lv_at hl 1 rfl) ?_
  refine lv_iconst (v := (3 : Int32)) hx hb dL_isOrder_2 (by decide) ?_
  obtain ⟨v1, hc, h⟩ := zb1_s h
  refine zE_i (zrV (C := RX7) (As := [.int p2, .int (3 : Int32)]) (rest := []) hx hb hml hown hts tw537 mv_X7_ofOrder ⟨Nat.le_of_ble_eq_true rfl, Nat.le_of_ble_eq_true rfl⟩ rfl rfl (ct_X7_ofOrder l D ct a f g nx hz sw fl sg pl pa pk pn pf pg p2 (3 : Int32) k v1 hc) (z_pv hK hP [0, 1, 2, 3, 4, 5, 6, 7, 8, 9, 10, 11, 12, 13, 14, 15, 16, 17, 18, 19, 20, 21] rfl 0 rfl rfl) hl.1 rfl rfl (Nat.le_of_ble_eq_true rfl) dL_isOrder_3 ⟨Nat.le_refl _, Nat.le_refl _⟩) ?_
  refine lv_istore_n (lv' := [(2, .int v1), (0, .ref (a 0)), (1, .int p2)]) hx hb dL_isOrder_6 rfl hl (by decide) rfl (fun ls hl => ?_)
  refine lv_aload_n hx hb dL_isOrder_7 rfl (lv_at hl 1 rfl) ?_
  refine lv_iload_n hx hb dL_isOrder_8 rfl (lv_at hl 2 rfl) ?_
  refine lv_iconst (v := (4 : Int32)) hx hb dL_isOrder_9 (by decide) ?_
  obtain ⟨v2, hc, h⟩ := zb1_s h
  refine zE_i (zrV (C := RX7) (As := [.int p2, .int (4 : Int32)]) (rest := []) hx hb hml hown hts tw537 mv_X7_ofOrder ⟨Nat.le_of_ble_eq_true rfl, Nat.le_of_ble_eq_true rfl⟩ rfl rfl (ct_X7_ofOrder l D ct a f g nx hz sw fl sg pl pa pk pn pf pg p2 (4 : Int32) k v2 hc) (z_pv hK hP [0, 1, 2, 3, 4, 5, 6, 7, 8, 9, 10, 11, 12, 13, 14, 15, 16, 17, 18, 19, 20, 21] rfl 0 rfl rfl) hl.1 rfl rfl (Nat.le_of_ble_eq_true rfl) dL_isOrder_10 ⟨Nat.le_refl _, Nat.le_refl _⟩) ?_
  refine lv_istore_n (lv' := [(3, .int v2), (2, .int v1), (0, .ref (a 0)), (1, .int p2)]) hx hb dL_isOrder_13 rfl hl (by decide) rfl (fun ls hl => ?_)
  refine lv_aload_n hx hb dL_isOrder_14 rfl (lv_at hl 2 rfl) ?_
  refine lv_iload_n hx hb dL_isOrder_15 rfl (lv_at hl 3 rfl) ?_
  refine lv_bipush (v := (6 : Int32)) hx hb dL_isOrder_16 (by decide) ?_
  obtain ⟨v3, hc, h⟩ := zb1_s h
  refine zE_i (zrV (C := RX7) (As := [.int p2, .int (6 : Int32)]) (rest := []) hx hb hml hown hts tw537 mv_X7_ofOrder ⟨Nat.le_of_ble_eq_true rfl, Nat.le_of_ble_eq_true rfl⟩ rfl rfl (ct_X7_ofOrder l D ct a f g nx hz sw fl sg pl pa pk pn pf pg p2 (6 : Int32) k v3 hc) (z_pv hK hP [0, 1, 2, 3, 4, 5, 6, 7, 8, 9, 10, 11, 12, 13, 14, 15, 16, 17, 18, 19, 20, 21] rfl 0 rfl rfl) hl.1 rfl rfl (Nat.le_of_ble_eq_true rfl) dL_isOrder_18 ⟨Nat.le_refl _, Nat.le_refl _⟩) ?_
  refine lv_istore (lv' := [(4, .int v3), (3, .int v2), (2, .int v1), (0, .ref (a 0)), (1, .int p2)]) hx hb dL_isOrder_21 hl (by decide) rfl (fun ls hl => ?_)
  refine lv_aload_n hx hb dL_isOrder_23 rfl (lv_at hl 3 rfl) ?_
  refine lv_iload_n hx hb dL_isOrder_24 rfl (lv_at hl 4 rfl) ?_
  refine lv_iconst (v := (0 : Int32)) hx hb dL_isOrder_25 (by decide) ?_
  obtain ⟨v4, hc, h⟩ := zb1_s h
  refine zE_i (zrV (C := RX7) (As := [.int p2, .int (0 : Int32)]) (rest := []) hx hb hml hown hts tw537 mv_X7_ofOrder ⟨Nat.le_of_ble_eq_true rfl, Nat.le_of_ble_eq_true rfl⟩ rfl rfl (ct_X7_ofOrder l D ct a f g nx hz sw fl sg pl pa pk pn pf pg p2 (0 : Int32) k v4 hc) (z_pv hK hP [0, 1, 2, 3, 4, 5, 6, 7, 8, 9, 10, 11, 12, 13, 14, 15, 16, 17, 18, 19, 20, 21] rfl 0 rfl rfl) hl.1 rfl rfl (Nat.le_of_ble_eq_true rfl) dL_isOrder_26 ⟨Nat.le_refl _, Nat.le_refl _⟩) ?_
  refine lv_aload_n hx hb dL_isOrder_29 rfl (lv_at hl 3 rfl) ?_
  refine lv_iload_n hx hb dL_isOrder_30 rfl (lv_at hl 4 rfl) ?_
  refine lv_iconst (v := (1 : Int32)) hx hb dL_isOrder_31 (by decide) ?_
  obtain ⟨v5, hc, h⟩ := zb1_s h
  refine zE_i (zrV (C := RX7) (As := [.int p2, .int (1 : Int32)]) (rest := [.int v4]) hx hb hml hown hts tw537 mv_X7_ofOrder ⟨Nat.le_of_ble_eq_true rfl, Nat.le_of_ble_eq_true rfl⟩ rfl rfl (ct_X7_ofOrder l D ct a f g nx hz sw fl sg pl pa pk pn pf pg p2 (1 : Int32) k v5 hc) (z_pv hK hP [0, 1, 2, 3, 4, 5, 6, 7, 8, 9, 10, 11, 12, 13, 14, 15, 16, 17, 18, 19, 20, 21] rfl 0 rfl rfl) hl.1 rfl rfl (Nat.le_of_ble_eq_true rfl) dL_isOrder_32 ⟨Nat.le_refl _, Nat.le_refl _⟩) ?_
  refine zc_lt (tgt := 109) hx hb dL_isOrder_35 (by decide) h (fun h => ?_) (fun h => ?_)
  · exact B109 v1 v3 h ls (lv_sub hl [3, 4, 2, 0] rfl)
  · refine lv_aload_n hx hb dL_isOrder_38 rfl (lv_at hl 3 rfl) ?_
    refine lv_iload_n hx hb dL_isOrder_39 rfl (lv_at hl 4 rfl) ?_
    refine lv_iconst (v := (1 : Int32)) hx hb dL_isOrder_40 (by decide) ?_
    obtain ⟨v29, hc, h⟩ := zb1_s h
    refine zE_i (zrV (C := RX7) (As := [.int p2, .int (1 : Int32)]) (rest := []) hx hb hml hown hts tw537 mv_X7_ofOrder ⟨Nat.le_of_ble_eq_true rfl, Nat.le_of_ble_eq_true rfl⟩ rfl rfl (ct_X7_ofOrder l D ct a f g nx hz sw fl sg pl pa pk pn pf pg p2 (1 : Int32) k v29 hc) (z_pv hK hP [0, 1, 2, 3, 4, 5, 6, 7, 8, 9, 10, 11, 12, 13, 14, 15, 16, 17, 18, 19, 20, 21] rfl 0 rfl rfl) hl.1 rfl rfl (Nat.le_of_ble_eq_true rfl) dL_isOrder_41 ⟨Nat.le_refl _, Nat.le_refl _⟩) ?_
    refine lv_aload_n hx hb dL_isOrder_44 rfl (lv_at hl 3 rfl) ?_
    refine lv_iload_n hx hb dL_isOrder_45 rfl (lv_at hl 4 rfl) ?_
    refine lv_iconst (v := (2 : Int32)) hx hb dL_isOrder_46 (by decide) ?_
    obtain ⟨v30, hc, h⟩ := zb1_s h
    refine zE_i (zrV (C := RX7) (As := [.int p2, .int (2 : Int32)]) (rest := [.int v29]) hx hb hml hown hts tw537 mv_X7_ofOrder ⟨Nat.le_of_ble_eq_true rfl, Nat.le_of_ble_eq_true rfl⟩ rfl rfl (ct_X7_ofOrder l D ct a f g nx hz sw fl sg pl pa pk pn pf pg p2 (2 : Int32) k v30 hc) (z_pv hK hP [0, 1, 2, 3, 4, 5, 6, 7, 8, 9, 10, 11, 12, 13, 14, 15, 16, 17, 18, 19, 20, 21] rfl 0 rfl rfl) hl.1 rfl rfl (Nat.le_of_ble_eq_true rfl) dL_isOrder_47 ⟨Nat.le_refl _, Nat.le_refl _⟩) ?_
    refine zc_lt (tgt := 109) hx hb dL_isOrder_50 (by decide) h (fun h => ?_) (fun h => ?_)
    · exact B109 v1 v3 h ls (lv_sub hl [3, 4, 2, 0] rfl)
    · refine lv_iload_n hx hb dL_isOrder_53 rfl (lv_at hl 1 rfl) ?_
      refine lv_bipush (v := (-6 : Int32)) hx hb dL_isOrder_54 (by decide) ?_
      refine zc_ne (tgt := 63) hx hb dL_isOrder_56 (by decide) h (fun h => ?_) (fun h => ?_)
      · refine lv_iconst (v := (0 : Int32)) hx hb dL_isOrder_63 (by decide) ?_
        exact B64 v1 v3 (0 : Int32) h ls (lv_sub hl [3, 4, 2, 0] rfl)
      · refine lv_iconst (v := (1 : Int32)) hx hb dL_isOrder_59 (by decide) ?_
        refine lv_goto (tgt := 64) hx hb dL_isOrder_60 (by decide) ?_
        exact B64 v1 v3 (1 : Int32) h ls (lv_sub hl [3, 4, 2, 0] rfl)

