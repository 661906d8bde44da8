/-! written by wip/p32/gen.py: each method as a function, and its contract -/
def f_X7_set (k : Nat) (f : Nat → Int32) (g : Nat → Nat → Int32) (nx : Int32) (hz : Int32) (p1 : Int32) (p2 : Int32) : Option (Int32 × (Nat → Int32) × (Nat → Nat → Int32) × Int32 × Int32) :=
  zb1 (f_X2_note k f g nx) fun g1 =>
  zb2 (f_X6_changeSetting k f p1 p2) fun v2 f3 =>
  zb3 (f_X2_settle k nx hz v2) fun v4 nx5 hz6 =>
  some (v4, f3, g1, nx5, hz6)
set_option maxRecDepth 100000 in
set_option maxHeartbeats 4000000 in
theorem ct_X7_set (l : Launch) (D : va_G) (ct a st : Nat → Nat) (f : Nat → Int32) (g : Nat → Nat → Int32) (nx : Int32) (hz : Int32) (sw : Nat → Nat → Int32) (fl : Nat → Int32) (sg : Nat → Int32) (pl : Int32) (pa : Int32) (pk : Int32) (pn : Nat → Int32) (pf : Int32) (pg : Int32) (sz : Nat) (p1 : Int32) (p2 : Int32) (k : Nat) (r : Int32) (f' : Nat → Int32) (g' : Nat → Nat → Int32) (nx' : Int32) (hz' : Int32) (h : f_X7_set k f g nx hz p1 p2 = some (r, f', g', nx', hz')) : Met l yX7_set (Cond.code yX7_set cX7_set 3 (some .int) :: zT) ({ frames := 4, cells := 0, slots := 0, locals := 103 } : Room) (va_Pc [.ref (a 0), .int p1, .int p2] (zPZ D (zTys ct) st (wX7 ct a f g nx hz sw fl sg pl pa pk pn pf pg) sz)) (va_Qi (fun r' (_ : Unit) => r' = r) (zQW D (wX7 ct a f g nx hz sw fl sg pl pa pk pn pf pg) sz (wX7 ct a f' g' nx' hz' sw fl sg pl pa pk pn pf pg)) (va_A (wX7 ct a f g nx hz sw fl sg pl pa pk pn pf pg) sz)) 0 0 (va_A (wX7 ct a f g nx hz sw fl sg pl pa pk pn pf pg) sz) := by
  refine zMet (cc := cX7_set) (maxL := 3) (ret := (some .int)) (av := [.ref (a 0), .int p1, .int p2]) (by decide) (Nat.le_of_ble_eq_true rfl) (fun p e s m below meth c ls hx hb hr hml hts hown hlocks hin hB hl => ?_)
  have hl : lv_has ls 3 [(0, .ref (a 0)), (1, .int p1), (2, .int p2)] := hl
  have hown : s.vm.findClass RX7 = some m.cls := hown
  obtain ⟨⟨hsz, hP, hK, hD0⟩, hZ⟩ := hB
  subst hsz
  have hD := hD0.self (sz := s.heap.size)
  obtain ⟨A, hAe⟩ : ∃ A, A = va_A (wX7 ct a f g nx hz sw fl sg pl pa pk pn pf pg) s.heap.size := ⟨_, rfl⟩
  rw [← hAe] at hD hZ
  have hA : ∀ q : Nat, s.heap.size ≤ q → A q := fun q h => by rw [hAe]; exact Or.inr h
  have hS : va_S A s.heap s.heap [] := va_S.rf
  rw [f_X7_set] at h
  refine lv_aload_n hx hb dX7_set_0 rfl (lv_at hl 0 rfl) ?_
  refine z_get (C := RX7) (T := TX7) (N := 6) (ci := 6) hx hb hts zin_X7 hown hK.1 hP 0 3 rfl rfl (by decide) tw136 rfl rfl dX7_set_1 ?_
  refine lv_aload_n hx hb dX7_set_4 rfl (lv_at hl 0 rfl) ?_
  refine z_get (C := RX7) (T := TX7) (N := 6) (ci := 6) hx hb hts zin_X7 hown hK.1 hP 0 0 rfl rfl (by decide) tw133 rfl rfl dX7_set_5 ?_
  obtain ⟨g1, hc, h⟩ := zb1_s h
  refine zG_v (w1 := (wX2 ct a g1 nx hz ++ wX5 ct a f)) (ws' := wX7 ct a f g1 nx hz sw fl sg pl pa pk pn pf pg) hP hD hS hA [5, 6, 7, 8, 9, 10, 11, 12, 13, 3, 4] [0, 1, 2, 14, 15, 16, 17, 18, 19, 20, 21] [0, 1, 2, 20, 21, 11, 12, 13, 14, 15, 16, 17, 18, 19, 3, 4, 5, 6, 7, 8, 9, 10] rfl rfl (by decide) (by decide) rfl (by decide) (zrV (C := RX2) (As := [.ref (a 3)]) (rest := []) hx hb hml hown hts tw265 mv_X2_note ⟨Nat.le_of_ble_eq_true rfl, Nat.le_of_ble_eq_true rfl⟩ rfl rfl (ct_X2_note l D ct a g nx hz f _  k g1 hc) (z_wv hK hP hD [5, 6, 7, 8, 9, 10, 11, 12, 13, 3, 4] (by decide) rfl 5 rfl rfl) hl.1 rfl rfl (Nat.le_of_ble_eq_true rfl) dX7_set_8 ⟨Nat.le_refl _, Nat.le_refl _⟩) (fun H locs hP hD hS => ?_)
  refine lv_aload_n hx hb dX7_set_11 rfl (lv_at hl 0 rfl) ?_
  refine z_get (C := RX7) (T := TX7) (N := 6) (ci := 6) hx hb hts zin_X7 hown hK.1 hP 0 3 rfl rfl (by decide) tw136 rfl rfl dX7_set_12 ?_
  refine lv_aload_n hx hb dX7_set_15 rfl (lv_at hl 0 rfl) ?_
  refine z_get (C := RX7) (T := TX7) (N := 6) (ci := 6) hx hb hts zin_X7 hown hK.1 hP 0 2 rfl rfl (by decide) tw135 rfl rfl dX7_set_16 ?_
  refine lv_iload_n hx hb dX7_set_19 rfl (lv_at hl 1 rfl) ?_
  refine lv_iload_n hx hb dX7_set_20 rfl (lv_at hl 2 rfl) ?_
  obtain ⟨v2, f3, hc, h⟩ := zb2_s h
  refine zG_i (w1 := wX6 ct a f3) (ws' := wX7 ct a f3 g1 nx hz sw fl sg pl pa pk pn pf pg) hP hD hS hA [1, 2, 3, 4] [0, 5, 6, 7, 8, 9, 10, 11, 12, 13, 14, 15, 16, 17, 18, 19, 20, 21] [0, 18, 19, 20, 21, 1, 2, 3, 4, 5, 6, 7, 8, 9, 10, 11, 12, 13, 14, 15, 16, 17] rfl rfl (by decide) (by decide) rfl (by decide) (zrV (C := RX6) (As := [.int p1, .int p2]) (rest := [.ref (a 5)]) hx hb hml hown hts tw509 mv_X6_changeSetting ⟨Nat.le_of_ble_eq_true rfl, Nat.le_of_ble_eq_true rfl⟩ rfl rfl (ct_X6_changeSetting l D ct a st f _ p1 p2 k v2 f3 hc) (z_zv hZ hK hP hD hS hA [1, 2, 3, 4] (by decide) rfl 1 rfl rfl) hl.1 rfl rfl (Nat.le_of_ble_eq_true rfl) dX7_set_21 ⟨Nat.le_refl _, Nat.le_refl _⟩) (fun H locs hP hD hS => ?_)
  obtain ⟨v4, nx5, hz6, hc, h⟩ := zb3_s h
  refine zG_i (w1 := wX2 ct a g1 nx5 hz6) (ws' := wX7 ct a f3 g1 nx5 hz6 sw fl sg pl pa pk pn pf pg) hP hD hS hA [5, 6, 7, 8, 9, 10, 11, 12, 13] [0, 1, 2, 3, 4, 14, 15, 16, 17, 18, 19, 20, 21] [0, 1, 2, 3, 4, 13, 14, 15, 16, 17, 18, 19, 20, 21, 5, 6, 7, 8, 9, 10, 11, 12] rfl rfl (by decide) (by decide) rfl (by decide) (zrV (C := RX2) (As := [.int v2]) (rest := []) hx hb hml hown hts tw290 mv_X2_settle ⟨Nat.le_of_ble_eq_true rfl, Nat.le_of_ble_eq_true rfl⟩ rfl rfl (ct_X2_settle l D ct a g1 nx hz _ v2 k v4 nx5 hz6 hc) (z_wv hK hP hD [5, 6, 7, 8, 9, 10, 11, 12, 13] (by decide) rfl 5 rfl rfl) hl.1 rfl rfl (Nat.le_of_ble_eq_true rfl) dX7_set_24 ⟨Nat.le_refl _, Nat.le_refl _⟩) (fun H locs hP hD hS => ?_)
  cases h
  exact zX_i hx hb hr hlocks hP hD hS hAe dX7_set_27 rfl

def f_X7_quarry (k : Nat) (f : Nat → Int32) (g : Nat → Nat → Int32) (nx : Int32) (hz : Int32) (p1 : Int32) (p2 : Int32) (p3 : Int32) (p4 : Int32) : Option (Int32 × (Nat → Int32) × (Nat → Nat → Int32) × Int32 × Int32) :=
  zb1 (f_X2_note k f g nx) fun g1 =>
  zb2 (f_X6_quarryBlock k f p1 p2 p3 p4) fun v2 f3 =>
  zb3 (f_X2_settle k nx hz v2) fun v4 nx5 hz6 =>
  some (v4, f3, g1, nx5, hz6)
set_option maxRecDepth 100000 in
set_option maxHeartbeats 4000000 in
theorem ct_X7_quarry (l : Launch) (D : va_G) (ct a : Nat → Nat) (f : Nat → Int32) (g : Nat → Nat → Int32) (nx : Int32) (hz : Int32) (sw : Nat → Nat → Int32) (fl : Nat → Int32) (sg : Nat → Int32) (pl : Int32) (pa : Int32) (pk : Int32) (pn : Nat → Int32) (pf : Int32) (pg : Int32) (sz : Nat) (p1 : Int32) (p2 : Int32) (p3 : Int32) (p4 : Int32) (k : Nat) (r : Int32) (f' : Nat → Int32) (g' : Nat → Nat → Int32) (nx' : Int32) (hz' : Int32) (h : f_X7_quarry k f g nx hz p1 p2 p3 p4 = some (r, f', g', nx', hz')) : Met l yX7_quarry (Cond.code yX7_quarry cX7_quarry 5 (some .int) :: zT) ({ frames := 4, cells := 0, slots := 0, locals := 103 } : Room) (va_Pc [.ref (a 0), .int p1, .int p2, .int p3, .int p4] (zPW D (zTys ct) (wX7 ct a f g nx hz sw fl sg pl pa pk pn pf pg) sz)) (va_Qi (fun r' (_ : Unit) => r' = r) (zQW D (wX7 ct a f g nx hz sw fl sg pl pa pk pn pf pg) sz (wX7 ct a f' g' nx' hz' sw fl sg pl pa pk pn pf pg)) (va_A (wX7 ct a f g nx hz sw fl sg pl pa pk pn pf pg) sz)) 0 0 (va_A (wX7 ct a f g nx hz sw fl sg pl pa pk pn pf pg) sz) := by
  refine zMet (cc := cX7_quarry) (maxL := 5) (ret := (some .int)) (av := [.ref (a 0), .int p1, .int p2, .int p3, .int p4]) (by decide) (Nat.le_of_ble_eq_true rfl) (fun p e s m below meth c ls hx hb hr hml hts hown hlocks hin hB hl => ?_)
  have hl : lv_has ls 5 [(0, .ref (a 0)), (1, .int p1), (2, .int p2), (3, .int p3), (4, .int p4)] := hl
  have hown : s.vm.findClass RX7 = some m.cls := hown
  obtain ⟨hsz, hP, hK, hD0⟩ := hB
  subst hsz
  have hD := hD0.self (sz := s.heap.size)
  obtain ⟨A, hAe⟩ : ∃ A, A = va_A (wX7 ct a f g nx hz sw fl sg pl pa pk pn pf pg) s.heap.size := ⟨_, rfl⟩
  rw [← hAe] at hD
  have hA : ∀ q : Nat, s.heap.size ≤ q → A q := fun q h => by rw [hAe]; exact Or.inr h
  have hS : va_S A s.heap s.heap [] := va_S.rf
  rw [f_X7_quarry] at h
  refine lv_aload_n hx hb dX7_quarry_0 rfl (lv_at hl 0 rfl) ?_
  refine z_get (C := RX7) (T := TX7) (N := 6) (ci := 6) hx hb hts zin_X7 hown hK.1 hP 0 3 rfl rfl (by decide) tw136 rfl rfl dX7_quarry_1 ?_
  refine lv_aload_n hx hb dX7_quarry_4 rfl (lv_at hl 0 rfl) ?_
  refine z_get (C := RX7) (T := TX7) (N := 6) (ci := 6) hx hb hts zin_X7 hown hK.1 hP 0 0 rfl rfl (by decide) tw133 rfl rfl dX7_quarry_5 ?_
  obtain ⟨g1, hc, h⟩ := zb1_s h
  refine zG_v (w1 := (wX2 ct a g1 nx hz ++ wX5 ct a f)) (ws' := wX7 ct a f g1 nx hz sw fl sg pl pa pk pn pf pg) hP hD hS hA [5, 6, 7, 8, 9, 10, 11, 12, 13, 3, 4] [0, 1, 2, 14, 15, 16, 17, 18, 19, 20, 21] [0, 1, 2, 20, 21, 11, 12, 13, 14, 15, 16, 17, 18, 19, 3, 4, 5, 6, 7, 8, 9, 10] rfl rfl (by decide) (by decide) rfl (by decide) (zrV (C := RX2) (As := [.ref (a 3)]) (rest := []) hx hb hml hown hts tw265 mv_X2_note ⟨Nat.le_of_ble_eq_true rfl, Nat.le_of_ble_eq_true rfl⟩ rfl rfl (ct_X2_note l D ct a g nx hz f _  k g1 hc) (z_wv hK hP hD [5, 6, 7, 8, 9, 10, 11, 12, 13, 3, 4] (by decide) rfl 5 rfl rfl) hl.1 rfl rfl (Nat.le_of_ble_eq_true rfl) dX7_quarry_8 ⟨Nat.le_refl _, Nat.le_refl _⟩) (fun H locs hP hD hS => ?_)
  refine lv_aload_n hx hb dX7_quarry_11 rfl (lv_at hl 0 rfl) ?_
  refine z_get (C := RX7) (T := TX7) (N := 6) (ci := 6) hx hb hts zin_X7 hown hK.1 hP 0 3 rfl rfl (by decide) tw136 rfl rfl dX7_quarry_12 ?_
  refine lv_aload_n hx hb dX7_quarry_15 rfl (lv_at hl 0 rfl) ?_
  refine z_get (C := RX7) (T := TX7) (N := 6) (ci := 6) hx hb hts zin_X7 hown hK.1 hP 0 2 rfl rfl (by decide) tw135 rfl rfl dX7_quarry_16 ?_
  refine lv_iload_n hx hb dX7_quarry_19 rfl (lv_at hl 1 rfl) ?_
  refine lv_iload_n hx hb dX7_quarry_20 rfl (lv_at hl 2 rfl) ?_
  refine lv_iload_n hx hb dX7_quarry_21 rfl (lv_at hl 3 rfl) ?_
  refine lv_iload hx hb dX7_quarry_22 (lv_at hl 4 rfl) ?_
  obtain ⟨v2, f3, hc, h⟩ := zb2_s h
  refine zG_i (w1 := wX6 ct a f3) (ws' := wX7 ct a f3 g1 nx hz sw fl sg pl pa pk pn pf pg) hP hD hS hA [1, 2, 3, 4] [0, 5, 6, 7, 8, 9, 10, 11, 12, 13, 14, 15, 16, 17, 18, 19, 20, 21] [0, 18, 19, 20, 21, 1, 2, 3, 4, 5, 6, 7, 8, 9, 10, 11, 12, 13, 14, 15, 16, 17] rfl rfl (by decide) (by decide) rfl (by decide) (zrV (C := RX6) (As := [.int p1, .int p2, .int p3, .int p4]) (rest := [.ref (a 5)]) hx hb hml hown hts tw273 mv_X6_quarryBlock ⟨Nat.le_of_ble_eq_true rfl, Nat.le_of_ble_eq_true rfl⟩ rfl rfl (ct_X6_quarryBlock l D ct a f _ p1 p2 p3 p4 k v2 f3 hc) (z_wv hK hP hD [1, 2, 3, 4] (by decide) rfl 1 rfl rfl) hl.1 rfl rfl (Nat.le_of_ble_eq_true rfl) dX7_quarry_24 ⟨Nat.le_refl _, Nat.le_refl _⟩) (fun H locs hP hD hS => ?_)
  obtain ⟨v4, nx5, hz6, hc, h⟩ := zb3_s h
  refine zG_i (w1 := wX2 ct a g1 nx5 hz6) (ws' := wX7 ct a f3 g1 nx5 hz6 sw fl sg pl pa pk pn pf pg) hP hD hS hA [5, 6, 7, 8, 9, 10, 11, 12, 13] [0, 1, 2, 3, 4, 14, 15, 16, 17, 18, 19, 20, 21] [0, 1, 2, 3, 4, 13, 14, 15, 16, 17, 18, 19, 20, 21, 5, 6, 7, 8, 9, 10, 11, 12] rfl rfl (by decide) (by decide) rfl (by decide) (zrV (C := RX2) (As := [.int v2]) (rest := []) hx hb hml hown hts tw290 mv_X2_settle ⟨Nat.le_of_ble_eq_true rfl, Nat.le_of_ble_eq_true rfl⟩ rfl rfl (ct_X2_settle l D ct a g1 nx hz _ v2 k v4 nx5 hz6 hc) (z_wv hK hP hD [5, 6, 7, 8, 9, 10, 11, 12, 13] (by decide) rfl 5 rfl rfl) hl.1 rfl rfl (Nat.le_of_ble_eq_true rfl) dX7_quarry_27 ⟨Nat.le_refl _, Nat.le_refl _⟩) (fun H locs hP hD hS => ?_)
  cases h
  exact zX_i hx hb hr hlocks hP hD hS hAe dX7_quarry_30 rfl

def f_X7_cut (k : Nat) (f : Nat → Int32) (g : Nat → Nat → Int32) (nx : Int32) (hz : Int32) (p1 : Int32) (p2 : Int32) (p3 : Int32) : Option (Int32 × (Nat → Int32) × (Nat → Nat → Int32) × Int32 × Int32) :=
  zb1 (f_X2_note k f g nx) fun g1 =>
  zb2 (f_X6_cutBlock k f p1 p2 p3) fun v2 f3 =>
  zb3 (f_X2_settle k nx hz v2) fun v4 nx5 hz6 =>
  some (v4, f3, g1, nx5, hz6)
set_option maxRecDepth 100000 in
set_option maxHeartbeats 4000000 in
theorem ct_X7_cut (l : Launch) (D : va_G) (ct a : Nat → Nat) (f : Nat → Int32) (g : Nat → Nat → Int32) (nx : Int32) (hz : Int32) (sw : Nat → Nat → Int32) (fl : Nat → Int32) (sg : Nat → Int32) (pl : Int32) (pa : Int32) (pk : Int32) (pn : Nat → Int32) (pf : Int32) (pg : Int32) (sz : Nat) (p1 : Int32) (p2 : Int32) (p3 : Int32) (k : Nat) (r : Int32) (f' : Nat → Int32) (g' : Nat → Nat → Int32) (nx' : Int32) (hz' : Int32) (h : f_X7_cut k f g nx hz p1 p2 p3 = some (r, f', g', nx', hz')) : Met l yX7_cut (Cond.code yX7_cut cX7_cut 4 (some .int) :: zT) ({ frames := 5, cells := 0, slots := 0, locals := 124 } : Room) (va_Pc [.ref (a 0), .int p1, .int p2, .int p3] (zPW D (zTys ct) (wX7 ct a f g nx hz sw fl sg pl pa pk pn pf pg) sz)) (va_Qi (fun r' (_ : Unit) => r' = r) (zQW D (wX7 ct a f g nx hz sw fl sg pl pa pk pn pf pg) sz (wX7 ct a f' g' nx' hz' sw fl sg pl pa pk pn pf pg)) (va_A (wX7 ct a f g nx hz sw fl sg pl pa pk pn pf pg) sz)) 0 0 (va_A (wX7 ct a f g nx hz sw fl sg pl pa pk pn pf pg) sz) := by
  refine zMet (cc := cX7_cut) (maxL := 4) (ret := (some .int)) (av := [.ref (a 0), .int p1, .int p2, .int p3]) (by decide) (Nat.le_of_ble_eq_true rfl) (fun p e s m below meth c ls hx hb hr hml hts hown hlocks hin hB hl => ?_)
  have hl : lv_has ls 4 [(0, .ref (a 0)), (1, .int p1), (2, .int p2), (3, .int p3)] := hl
  have hown : s.vm.findClass RX7 = some m.cls := hown
  obtain ⟨hsz, hP, hK, hD0⟩ := hB
  subst hsz
  have hD := hD0.self (sz := s.heap.size)
  obtain ⟨A, hAe⟩ : ∃ A, A = va_A (wX7 ct a f g nx hz sw fl sg pl pa pk pn pf pg) s.heap.size := ⟨_, rfl⟩
  rw [← hAe] at hD
  have hA : ∀ q : Nat, s.heap.size ≤ q → A q := fun q h => by rw [hAe]; exact Or.inr h
  have hS : va_S A s.heap s.heap [] := va_S.rf
  rw [f_X7_cut] at h
  refine lv_aload_n hx hb dX7_cut_0 rfl (lv_at hl 0 rfl) ?_
  refine z_get (C := RX7) (T := TX7) (N := 6) (ci := 6) hx hb hts zin_X7 hown hK.1 hP 0 3 rfl rfl (by decide) tw136 rfl rfl dX7_cut_1 ?_
  refine lv_aload_n hx hb dX7_cut_4 rfl (lv_at hl 0 rfl) ?_
  refine z_get (C := RX7) (T := TX7) (N := 6) (ci := 6) hx hb hts zin_X7 hown hK.1 hP 0 0 rfl rfl (by decide) tw133 rfl rfl dX7_cut_5 ?_
  obtain ⟨g1, hc, h⟩ := zb1_s h
  refine zG_v (w1 := (wX2 ct a g1 nx hz ++ wX5 ct a f)) (ws' := wX7 ct a f g1 nx hz sw fl sg pl pa pk pn pf pg) hP hD hS hA [5, 6, 7, 8, 9, 10, 11, 12, 13, 3, 4] [0, 1, 2, 14, 15, 16, 17, 18, 19, 20, 21] [0, 1, 2, 20, 21, 11, 12, 13, 14, 15, 16, 17, 18, 19, 3, 4, 5, 6, 7, 8, 9, 10] rfl rfl (by decide) (by decide) rfl (by decide) (zrV (C := RX2) (As := [.ref (a 3)]) (rest := []) hx hb hml hown hts tw265 mv_X2_note ⟨Nat.le_of_ble_eq_true rfl, Nat.le_of_ble_eq_true rfl⟩ rfl rfl (ct_X2_note l D ct a g nx hz f _  k g1 hc) (z_wv hK hP hD [5, 6, 7, 8, 9, 10, 11, 12, 13, 3, 4] (by decide) rfl 5 rfl rfl) hl.1 rfl rfl (Nat.le_of_ble_eq_true rfl) dX7_cut_8 ⟨Nat.le_refl _, Nat.le_refl _⟩) (fun H locs hP hD hS => ?_)
  refine lv_aload_n hx hb dX7_cut_11 rfl (lv_at hl 0 rfl) ?_
  refine z_get (C := RX7) (T := TX7) (N := 6) (ci := 6) hx hb hts zin_X7 hown hK.1 hP 0 3 rfl rfl (by decide) tw136 rfl rfl dX7_cut_12 ?_
  refine lv_aload_n hx hb dX7_cut_15 rfl (lv_at hl 0 rfl) ?_
  refine z_get (C := RX7) (T := TX7) (N := 6) (ci := 6) hx hb hts zin_X7 hown hK.1 hP 0 2 rfl rfl (by decide) tw135 rfl rfl dX7_cut_16 ?_
  refine lv_iload_n hx hb dX7_cut_19 rfl (lv_at hl 1 rfl) ?_
  refine lv_iload_n hx hb dX7_cut_20 rfl (lv_at hl 2 rfl) ?_
  refine lv_iload_n hx hb dX7_cut_21 rfl (lv_at hl 3 rfl) ?_
  obtain ⟨v2, f3, hc, h⟩ := zb2_s h
  refine zG_i (w1 := wX6 ct a f3) (ws' := wX7 ct a f3 g1 nx hz sw fl sg pl pa pk pn pf pg) hP hD hS hA [1, 2, 3, 4] [0, 5, 6, 7, 8, 9, 10, 11, 12, 13, 14, 15, 16, 17, 18, 19, 20, 21] [0, 18, 19, 20, 21, 1, 2, 3, 4, 5, 6, 7, 8, 9, 10, 11, 12, 13, 14, 15, 16, 17] rfl rfl (by decide) (by decide) rfl (by decide) (zrV (C := RX6) (As := [.int p1, .int p2, .int p3]) (rest := [.ref (a 5)]) hx hb hml hown hts tw301 mv_X6_cutBlock ⟨Nat.le_of_ble_eq_true rfl, Nat.le_of_ble_eq_true rfl⟩ rfl rfl (ct_X6_cutBlock l D ct a f _ p1 p2 p3 k v2 f3 hc) (z_wv hK hP hD [1, 2, 3, 4] (by decide) rfl 1 rfl rfl) hl.1 rfl rfl (Nat.le_of_ble_eq_true rfl) dX7_cut_22 ⟨Nat.le_refl _, Nat.le_refl _⟩) (fun H locs hP hD hS => ?_)
  obtain ⟨v4, nx5, hz6, hc, h⟩ := zb3_s h
  refine zG_i (w1 := wX2 ct a g1 nx5 hz6) (ws' := wX7 ct a f3 g1 nx5 hz6 sw fl sg pl pa pk pn pf pg) hP hD hS hA [5, 6, 7, 8, 9, 10, 11, 12, 13] [0, 1, 2, 3, 4, 14, 15, 16, 17, 18, 19, 20, 21] [0, 1, 2, 3, 4, 13, 14, 15, 16, 17, 18, 19, 20, 21, 5, 6, 7, 8, 9, 10, 11, 12] rfl rfl (by decide) (by decide) rfl (by decide) (zrV (C := RX2) (As := [.int v2]) (rest := []) hx hb hml hown hts tw290 mv_X2_settle ⟨Nat.le_of_ble_eq_true rfl, Nat.le_of_ble_eq_true rfl⟩ rfl rfl (ct_X2_settle l D ct a g1 nx hz _ v2 k v4 nx5 hz6 hc) (z_wv hK hP hD [5, 6, 7, 8, 9, 10, 11, 12, 13] (by decide) rfl 5 rfl rfl) hl.1 rfl rfl (Nat.le_of_ble_eq_true rfl) dX7_cut_25 ⟨Nat.le_refl _, Nat.le_refl _⟩) (fun H locs hP hD hS => ?_)
  cases h
  exact zX_i hx hb hr hlocks hP hD hS hAe dX7_cut_28 rfl

def f_X7_shelter (k : Nat) (f : Nat → Int32) (g : Nat → Nat → Int32) (nx : Int32) (hz : Int32) (p1 : Int32) : Option (Int32 × (Nat → Int32) × (Nat → Nat → Int32) × Int32 × Int32) :=
  zb1 (f_X2_note k f g nx) fun g1 =>
  zb2 (f_X6_moveBlock k f p1) fun v2 f3 =>
  zb3 (f_X2_settle k nx hz v2) fun v4 nx5 hz6 =>
  some (v4, f3, g1, nx5, hz6)
set_option maxRecDepth 100000 in
set_option maxHeartbeats 4000000 in
theorem ct_X7_shelter (l : Launch) (D : va_G) (ct a : Nat → Nat) (f : Nat → Int32) (g : Nat → Nat → Int32) (nx : Int32) (hz : Int32) (sw : Nat → Nat → Int32) (fl : Nat → Int32) (sg : Nat → Int32) (pl : Int32) (pa : Int32) (pk : Int32) (pn : Nat → Int32) (pf : Int32) (pg : Int32) (sz : Nat) (p1 : Int32) (k : Nat) (r : Int32) (f' : Nat → Int32) (g' : Nat → Nat → Int32) (nx' : Int32) (hz' : Int32) (h : f_X7_shelter k f g nx hz p1 = some (r, f', g', nx', hz')) : Met l yX7_shelter (Cond.code yX7_shelter cX7_shelter 2 (some .int) :: zT) ({ frames := 4, cells := 0, slots := 0, locals := 103 } : Room) (va_Pc [.ref (a 0), .int p1] (zPW D (zTys ct) (wX7 ct a f g nx hz sw fl sg pl pa pk pn pf pg) sz)) (va_Qi (fun r' (_ : Unit) => r' = r) (zQW D (wX7 ct a f g nx hz sw fl sg pl pa pk pn pf pg) sz (wX7 ct a f' g' nx' hz' sw fl sg pl pa pk pn pf pg)) (va_A (wX7 ct a f g nx hz sw fl sg pl pa pk pn pf pg) sz)) 0 0 (va_A (wX7 ct a f g nx hz sw fl sg pl pa pk pn pf pg) sz) := by
  refine zMet (cc := cX7_shelter) (maxL := 2) (ret := (some .int)) (av := [.ref (a 0), .int p1]) (by decide) (Nat.le_of_ble_eq_true rfl) (fun p e s m below meth c ls hx hb hr hml hts hown hlocks hin hB hl => ?_)
  have hl : lv_has ls 2 [(0, .ref (a 0)), (1, .int p1)] := hl
  have hown : s.vm.findClass RX7 = some m.cls := hown
  obtain ⟨hsz, hP, hK, hD0⟩ := hB
  subst hsz
  have hD := hD0.self (sz := s.heap.size)
  obtain ⟨A, hAe⟩ : ∃ A, A = va_A (wX7 ct a f g nx hz sw fl sg pl pa pk pn pf pg) s.heap.size := ⟨_, rfl⟩
  rw [← hAe] at hD
  have hA : ∀ q : Nat, s.heap.size ≤ q → A q := fun q h => by rw [hAe]; exact Or.inr h
  have hS : va_S A s.heap s.heap [] := va_S.rf
  rw [f_X7_shelter] at h
  refine lv_aload_n hx hb dX7_shelter_0 rfl (lv_at hl 0 rfl) ?_
  refine z_get (C := RX7) (T := TX7) (N := 6) (ci := 6) hx hb hts zin_X7 hown hK.1 hP 0 3 rfl rfl (by decide) tw136 rfl rfl dX7_shelter_1 ?_
  refine lv_aload_n hx hb dX7_shelter_4 rfl (lv_at hl 0 rfl) ?_
  refine z_get (C := RX7) (T := TX7) (N := 6) (ci := 6) hx hb hts zin_X7 hown hK.1 hP 0 0 rfl rfl (by decide) tw133 rfl rfl dX7_shelter_5 ?_
  obtain ⟨g1, hc, h⟩ := zb1_s h
  refine zG_v (w1 := (wX2 ct a g1 nx hz ++ wX5 ct a f)) (ws' := wX7 ct a f g1 nx hz sw fl sg pl pa pk pn pf pg) hP hD hS hA [5, 6, 7, 8, 9, 10, 11, 12, 13, 3, 4] [0, 1, 2, 14, 15, 16, 17, 18, 19, 20, 21] [0, 1, 2, 20, 21, 11, 12, 13, 14, 15, 16, 17, 18, 19, 3, 4, 5, 6, 7, 8, 9, 10] rfl rfl (by decide) (by decide) rfl (by decide) (zrV (C := RX2) (As := [.ref (a 3)]) (rest := []) hx hb hml hown hts tw265 mv_X2_note ⟨Nat.le_of_ble_eq_true rfl, Nat.le_of_ble_eq_true rfl⟩ rfl rfl (ct_X2_note l D ct a g nx hz f _  k g1 hc) (z_wv hK hP hD [5, 6, 7, 8, 9, 10, 11, 12, 13, 3, 4] (by decide) rfl 5 rfl rfl) hl.1 rfl rfl (Nat.le_of_ble_eq_true rfl) dX7_shelter_8 ⟨Nat.le_refl _, Nat.le_refl _⟩) (fun H locs hP hD hS => ?_)
  refine lv_aload_n hx hb dX7_shelter_11 rfl (lv_at hl 0 rfl) ?_
  refine z_get (C := RX7) (T := TX7) (N := 6) (ci := 6) hx hb hts zin_X7 hown hK.1 hP 0 3 rfl rfl (by decide) tw136 rfl rfl dX7_shelter_12 ?_
  refine lv_aload_n hx hb dX7_shelter_15 rfl (lv_at hl 0 rfl) ?_
  refine z_get (C := RX7) (T := TX7) (N := 6) (ci := 6) hx hb hts zin_X7 hown hK.1 hP 0 2 rfl rfl (by decide) tw135 rfl rfl dX7_shelter_16 ?_
  refine lv_iload_n hx hb dX7_shelter_19 rfl (lv_at hl 1 rfl) ?_
  obtain ⟨v2, f3, hc, h⟩ := zb2_s h
  refine zG_i (w1 := wX6 ct a f3) (ws' := wX7 ct a f3 g1 nx hz sw fl sg pl pa pk pn pf pg) hP hD hS hA [1, 2, 3, 4] [0, 5, 6, 7, 8, 9, 10, 11, 12, 13, 14, 15, 16, 17, 18, 19, 20, 21] [0, 18, 19, 20, 21, 1, 2, 3, 4, 5, 6, 7, 8, 9, 10, 11, 12, 13, 14, 15, 16, 17] rfl rfl (by decide) (by decide) rfl (by decide) (zrV (C := RX6) (As := [.int p1]) (rest := [.ref (a 5)]) hx hb hml hown hts tw331 mv_X6_moveBlock ⟨Nat.le_of_ble_eq_true rfl, Nat.le_of_ble_eq_true rfl⟩ rfl rfl (ct_X6_moveBlock l D ct a f _ p1 k v2 f3 hc) (z_wv hK hP hD [1, 2, 3, 4] (by decide) rfl 1 rfl rfl) hl.1 rfl rfl (Nat.le_of_ble_eq_true rfl) dX7_shelter_20 ⟨Nat.le_refl _, Nat.le_refl _⟩) (fun H locs hP hD hS => ?_)
  obtain ⟨v4, nx5, hz6, hc, h⟩ := zb3_s h
  refine zG_i (w1 := wX2 ct a g1 nx5 hz6) (ws' := wX7 ct a f3 g1 nx5 hz6 sw fl sg pl pa pk pn pf pg) hP hD hS hA [5, 6, 7, 8, 9, 10, 11, 12, 13] [0, 1, 2, 3, 4, 14, 15, 16, 17, 18, 19, 20, 21] [0, 1, 2, 3, 4, 13, 14, 15, 16, 17, 18, 19, 20, 21, 5, 6, 7, 8, 9, 10, 11, 12] rfl rfl (by decide) (by decide) rfl (by decide) (zrV (C := RX2) (As := [.int v2]) (rest := []) hx hb hml hown hts tw290 mv_X2_settle ⟨Nat.le_of_ble_eq_true rfl, Nat.le_of_ble_eq_true rfl⟩ rfl rfl (ct_X2_settle l D ct a g1 nx hz _ v2 k v4 nx5 hz6 hc) (z_wv hK hP hD [5, 6, 7, 8, 9, 10, 11, 12, 13] (by decide) rfl 5 rfl rfl) hl.1 rfl rfl (Nat.le_of_ble_eq_true rfl) dX7_shelter_23 ⟨Nat.le_refl _, Nat.le_refl _⟩) (fun H locs hP hD hS => ?_)
  cases h
  exact zX_i hx hb hr hlocks hP hD hS hAe dX7_shelter_26 rfl

def f_X7_order (k : Nat) (f : Nat → Int32) (g : Nat → Nat → Int32) (nx : Int32) (hz : Int32) (p1 : Int32) (p2 : Int32) (p3 : Int32) : Option (Int32 × (Nat → Int32) × (Nat → Nat → Int32) × Int32 × Int32) :=
  zb1 (f_X2_note k f g nx) fun g1 =>
  zb2 (f_X6_takeOrder k f p1 p2 p3) fun v2 f3 =>
  zb3 (f_X2_settle k nx hz v2) fun v4 nx5 hz6 =>
  some (v4, f3, g1, nx5, hz6)
set_option maxRecDepth 100000 in
set_option maxHeartbeats 4000000 in
theorem ct_X7_order (l : Launch) (D : va_G) (ct a : Nat → Nat) (f : Nat → Int32) (g : Nat → Nat → Int32) (nx : Int32) (hz : Int32) (sw : Nat → Nat → Int32) (fl : Nat → Int32) (sg : Nat → Int32) (pl : Int32) (pa : Int32) (pk : Int32) (pn : Nat → Int32) (pf : Int32) (pg : Int32) (sz : Nat) (p1 : Int32) (p2 : Int32) (p3 : Int32) (k : Nat) (r : Int32) (f' : Nat → Int32) (g' : Nat → Nat → Int32) (nx' : Int32) (hz' : Int32) (h : f_X7_order k f g nx hz p1 p2 p3 = some (r, f', g', nx', hz')) : Met l yX7_order (Cond.code yX7_order cX7_order 4 (some .int) :: zT) ({ frames := 4, cells := 0, slots := 0, locals := 103 } : Room) (va_Pc [.ref (a 0), .int p1, .int p2, .int p3] (zPW D (zTys ct) (wX7 ct a f g nx hz sw fl sg pl pa pk pn pf pg) sz)) (va_Qi (fun r' (_ : Unit) => r' = r) (zQW D (wX7 ct a f g nx hz sw fl sg pl pa pk pn pf pg) sz (wX7 ct a f' g' nx' hz' sw fl sg pl pa pk pn pf pg)) (va_A (wX7 ct a f g nx hz sw fl sg pl pa pk pn pf pg) sz)) 0 0 (va_A (wX7 ct a f g nx hz sw fl sg pl pa pk pn pf pg) sz) := by
  refine zMet (cc := cX7_order) (maxL := 4) (ret := (some .int)) (av := [.ref (a 0), .int p1, .int p2, .int p3]) (by decide) (Nat.le_of_ble_eq_true rfl) (fun p e s m below meth c ls hx hb hr hml hts hown hlocks hin hB hl => ?_)
  have hl : lv_has ls 4 [(0, .ref (a 0)), (1, .int p1), (2, .int p2), (3, .int p3)] := hl
  have hown : s.vm.findClass RX7 = some m.cls := hown
  obtain ⟨hsz, hP, hK, hD0⟩ := hB
  subst hsz
  have hD := hD0.self (sz := s.heap.size)
  obtain ⟨A, hAe⟩ : ∃ A, A = va_A (wX7 ct a f g nx hz sw fl sg pl pa pk pn pf pg) s.heap.size := ⟨_, rfl⟩
  rw [← hAe] at hD
  have hA : ∀ q : Nat, s.heap.size ≤ q → A q := fun q h => by rw [hAe]; exact Or.inr h
  have hS : va_S A s.heap s.heap [] := va_S.rf
  rw [f_X7_order] at h
  refine lv_aload_n hx hb dX7_order_0 rfl (lv_at hl 0 rfl) ?_
  refine z_get (C := RX7) (T := TX7) (N := 6) (ci := 6) hx hb hts zin_X7 hown hK.1 hP 0 3 rfl rfl (by decide) tw136 rfl rfl dX7_order_1 ?_
  refine lv_aload_n hx hb dX7_order_4 rfl (lv_at hl 0 rfl) ?_
  refine z_get (C := RX7) (T := TX7) (N := 6) (ci := 6) hx hb hts zin_X7 hown hK.1 hP 0 0 rfl rfl (by decide) tw133 rfl rfl dX7_order_5 ?_
  obtain ⟨g1, hc, h⟩ := zb1_s h
  refine zG_v (w1 := (wX2 ct a g1 nx hz ++ wX5 ct a f)) (ws' := wX7 ct a f g1 nx hz sw fl sg pl pa pk pn pf pg) hP hD hS hA [5, 6, 7, 8, 9, 10, 11, 12, 13, 3, 4] [0, 1, 2, 14, 15, 16, 17, 18, 19, 20, 21] [0, 1, 2, 20, 21, 11, 12, 13, 14, 15, 16, 17, 18, 19, 3, 4, 5, 6, 7, 8, 9, 10] rfl rfl (by decide) (by decide) rfl (by decide) (zrV (C := RX2) (As := [.ref (a 3)]) (rest := []) hx hb hml hown hts tw265 mv_X2_note ⟨Nat.le_of_ble_eq_true rfl, Nat.le_of_ble_eq_true rfl⟩ rfl rfl (ct_X2_note l D ct a g nx hz f _  k g1 hc) (z_wv hK hP hD [5, 6, 7, 8, 9, 10, 11, 12, 13, 3, 4] (by decide) rfl 5 rfl rfl) hl.1 rfl rfl (Nat.le_of_ble_eq_true rfl) dX7_order_8 ⟨Nat.le_refl _, Nat.le_refl _⟩) (fun H locs hP hD hS => ?_)
  refine lv_aload_n hx hb dX7_order_11 rfl (lv_at hl 0 rfl) ?_
  refine z_get (C := RX7) (T := TX7) (N := 6) (ci := 6) hx hb hts zin_X7 hown hK.1 hP 0 3 rfl rfl (by decide) tw136 rfl rfl dX7_order_12 ?_
  refine lv_aload_n hx hb dX7_order_15 rfl (lv_at hl 0 rfl) ?_
  refine z_get (C := RX7) (T := TX7) (N := 6) (ci := 6) hx hb hts zin_X7 hown hK.1 hP 0 2 rfl rfl (by decide) tw135 rfl rfl dX7_order_16 ?_
  refine lv_iload_n hx hb dX7_order_19 rfl (lv_at hl 1 rfl) ?_
  refine lv_iload_n hx hb dX7_order_20 rfl (lv_at hl 2 rfl) ?_
  refine lv_iload_n hx hb dX7_order_21 rfl (lv_at hl 3 rfl) ?_
  obtain ⟨v2, f3, hc, h⟩ := zb2_s h
  refine zG_i (w1 := wX6 ct a f3) (ws' := wX7 ct a f3 g1 nx hz sw fl sg pl pa pk pn pf pg) hP hD hS hA [1, 2, 3, 4] [0, 5, 6, 7, 8, 9, 10, 11, 12, 13, 14, 15, 16, 17, 18, 19, 20, 21] [0, 18, 19, 20, 21, 1, 2, 3, 4, 5, 6, 7, 8, 9, 10, 11, 12, 13, 14, 15, 16, 17] rfl rfl (by decide) (by decide) rfl (by decide) (zrV (C := RX6) (As := [.int p1, .int p2, .int p3]) (rest := [.ref (a 5)]) hx hb hml hown hts tw340 mv_X6_takeOrder ⟨Nat.le_of_ble_eq_true rfl, Nat.le_of_ble_eq_true rfl⟩ rfl rfl (ct_X6_takeOrder l D ct a f _ p1 p2 p3 k v2 f3 hc) (z_wv hK hP hD [1, 2, 3, 4] (by decide) rfl 1 rfl rfl) hl.1 rfl rfl (Nat.le_of_ble_eq_true rfl) dX7_order_22 ⟨Nat.le_refl _, Nat.le_refl _⟩) (fun H locs hP hD hS => ?_)
  obtain ⟨v4, nx5, hz6, hc, h⟩ := zb3_s h
  refine zG_i (w1 := wX2 ct a g1 nx5 hz6) (ws' := wX7 ct a f3 g1 nx5 hz6 sw fl sg pl pa pk pn pf pg) hP hD hS hA [5, 6, 7, 8, 9, 10, 11, 12, 13] [0, 1, 2, 3, 4, 14, 15, 16, 17, 18, 19, 20, 21] [0, 1, 2, 3, 4, 13, 14, 15, 16, 17, 18, 19, 20, 21, 5, 6, 7, 8, 9, 10, 11, 12] rfl rfl (by decide) (by decide) rfl (by decide) (zrV (C := RX2) (As := [.int v2]) (rest := []) hx hb hml hown hts tw290 mv_X2_settle ⟨Nat.le_of_ble_eq_true rfl, Nat.le_of_ble_eq_true rfl⟩ rfl rfl (ct_X2_settle l D ct a g1 nx hz _ v2 k v4 nx5 hz6 hc) (z_wv hK hP hD [5, 6, 7, 8, 9, 10, 11, 12, 13] (by decide) rfl 5 rfl rfl) hl.1 rfl rfl (Nat.le_of_ble_eq_true rfl) dX7_order_25 ⟨Nat.le_refl _, Nat.le_refl _⟩) (fun H locs hP hD hS => ?_)
  cases h
  exact zX_i hx hb hr hlocks hP hD hS hAe dX7_order_28 rfl

def f_X7_give (k : Nat) (f : Nat → Int32) (g : Nat → Nat → Int32) (nx : Int32) (hz : Int32) (p1 : Int32) (p2 : Int32) : Option (Int32 × (Nat → Int32) × (Nat → Nat → Int32) × Int32 × Int32) :=
  zb1 (f_X2_note k f g nx) fun g1 =>
  zb2 (f_X6_giveBlock k f p1 p2) fun v2 f3 =>
  zb3 (f_X2_settle k nx hz v2) fun v4 nx5 hz6 =>
  some (v4, f3, g1, nx5, hz6)
set_option maxRecDepth 100000 in
set_option maxHeartbeats 4000000 in
theorem ct_X7_give (l : Launch) (D : va_G) (ct a : Nat → Nat) (f : Nat → Int32) (g : Nat → Nat → Int32) (nx : Int32) (hz : Int32) (sw : Nat → Nat → Int32) (fl : Nat → Int32) (sg : Nat → Int32) (pl : Int32) (pa : Int32) (pk : Int32) (pn : Nat → Int32) (pf : Int32) (pg : Int32) (sz : Nat) (p1 : Int32) (p2 : Int32) (k : Nat) (r : Int32) (f' : Nat → Int32) (g' : Nat → Nat → Int32) (nx' : Int32) (hz' : Int32) (h : f_X7_give k f g nx hz p1 p2 = some (r, f', g', nx', hz')) : Met l yX7_give (Cond.code yX7_give cX7_give 3 (some .int) :: zT) ({ frames := 6, cells := 0, slots := 0, locals := 139 } : Room) (va_Pc [.ref (a 0), .int p1, .int p2] (zPW D (zTys ct) (wX7 ct a f g nx hz sw fl sg pl pa pk pn pf pg) sz)) (va_Qi (fun r' (_ : Unit) => r' = r) (zQW D (wX7 ct a f g nx hz sw fl sg pl pa pk pn pf pg) sz (wX7 ct a f' g' nx' hz' sw fl sg pl pa pk pn pf pg)) (va_A (wX7 ct a f g nx hz sw fl sg pl pa pk pn pf pg) sz)) 0 0 (va_A (wX7 ct a f g nx hz sw fl sg pl pa pk pn pf pg) sz) := by
  refine zMet (cc := cX7_give) (maxL := 3) (ret := (some .int)) (av := [.ref (a 0), .int p1, .int p2]) (by decide) (Nat.le_of_ble_eq_true rfl) (fun p e s m below meth c ls hx hb hr hml hts hown hlocks hin hB hl => ?_)
  have hl : lv_has ls 3 [(0, .ref (a 0)), (1, .int p1), (2, .int p2)] := hl
  have hown : s.vm.findClass RX7 = some m.cls := hown
  obtain ⟨hsz, hP, hK, hD0⟩ := hB
  subst hsz
  have hD := hD0.self (sz := s.heap.size)
  obtain ⟨A, hAe⟩ : ∃ A, A = va_A (wX7 ct a f g nx hz sw fl sg pl pa pk pn pf pg) s.heap.size := ⟨_, rfl⟩
  rw [← hAe] at hD
  have hA : ∀ q : Nat, s.heap.size ≤ q → A q := fun q h => by rw [hAe]; exact Or.inr h
  have hS : va_S A s.heap s.heap [] := va_S.rf
  rw [f_X7_give] at h
  refine lv_aload_n hx hb dX7_give_0 rfl (lv_at hl 0 rfl) ?_
  refine z_get (C := RX7) (T := TX7) (N := 6) (ci := 6) hx hb hts zin_X7 hown hK.1 hP 0 3 rfl rfl (by decide) tw136 rfl rfl dX7_give_1 ?_
  refine lv_aload_n hx hb dX7_give_4 rfl (lv_at hl 0 rfl) ?_
  refine z_get (C := RX7) (T := TX7) (N := 6) (ci := 6) hx hb hts zin_X7 hown hK.1 hP 0 0 rfl rfl (by decide) tw133 rfl rfl dX7_give_5 ?_
  obtain ⟨g1, hc, h⟩ := zb1_s h
  refine zG_v (w1 := (wX2 ct a g1 nx hz ++ wX5 ct a f)) (ws' := wX7 ct a f g1 nx hz sw fl sg pl pa pk pn pf pg) hP hD hS hA [5, 6, 7, 8, 9, 10, 11, 12, 13, 3, 4] [0, 1, 2, 14, 15, 16, 17, 18, 19, 20, 21] [0, 1, 2, 20, 21, 11, 12, 13, 14, 15, 16, 17, 18, 19, 3, 4, 5, 6, 7, 8, 9, 10] rfl rfl (by decide) (by decide) rfl (by decide) (zrV (C := RX2) (As := [.ref (a 3)]) (rest := []) hx hb hml hown hts tw265 mv_X2_note ⟨Nat.le_of_ble_eq_true rfl, Nat.le_of_ble_eq_true rfl⟩ rfl rfl (ct_X2_note l D ct a g nx hz f _  k g1 hc) (z_wv hK hP hD [5, 6, 7, 8, 9, 10, 11, 12, 13, 3, 4] (by decide) rfl 5 rfl rfl) hl.1 rfl rfl (Nat.le_of_ble_eq_true rfl) dX7_give_8 ⟨Nat.le_refl _, Nat.le_refl _⟩) (fun H locs hP hD hS => ?_)
  refine lv_aload_n hx hb dX7_give_11 rfl (lv_at hl 0 rfl) ?_
  refine z_get (C := RX7) (T := TX7) (N := 6) (ci := 6) hx hb hts zin_X7 hown hK.1 hP 0 3 rfl rfl (by decide) tw136 rfl rfl dX7_give_12 ?_
  refine lv_aload_n hx hb dX7_give_15 rfl (lv_at hl 0 rfl) ?_
  refine z_get (C := RX7) (T := TX7) (N := 6) (ci := 6) hx hb hts zin_X7 hown hK.1 hP 0 2 rfl rfl (by decide) tw135 rfl rfl dX7_give_16 ?_
  refine lv_iload_n hx hb dX7_give_19 rfl (lv_at hl 1 rfl) ?_
  refine lv_iload_n hx hb dX7_give_20 rfl (lv_at hl 2 rfl) ?_
  obtain ⟨v2, f3, hc, h⟩ := zb2_s h
  refine zG_i (w1 := wX6 ct a f3) (ws' := wX7 ct a f3 g1 nx hz sw fl sg pl pa pk pn pf pg) hP hD hS hA [1, 2, 3, 4] [0, 5, 6, 7, 8, 9, 10, 11, 12, 13, 14, 15, 16, 17, 18, 19, 20, 21] [0, 18, 19, 20, 21, 1, 2, 3, 4, 5, 6, 7, 8, 9, 10, 11, 12, 13, 14, 15, 16, 17] rfl rfl (by decide) (by decide) rfl (by decide) (zrV (C := RX6) (As := [.int p1, .int p2]) (rest := [.ref (a 5)]) hx hb hml hown hts tw373 mv_X6_giveBlock ⟨Nat.le_of_ble_eq_true rfl, Nat.le_of_ble_eq_true rfl⟩ rfl rfl (ct_X6_giveBlock l D ct a f _ p1 p2 k v2 f3 hc) (z_wv hK hP hD [1, 2, 3, 4] (by decide) rfl 1 rfl rfl) hl.1 rfl rfl (Nat.le_of_ble_eq_true rfl) dX7_give_21 ⟨Nat.le_refl _, Nat.le_refl _⟩) (fun H locs hP hD hS => ?_)
  obtain ⟨v4, nx5, hz6, hc, h⟩ := zb3_s h
  refine zG_i (w1 := wX2 ct a g1 nx5 hz6) (ws' := wX7 ct a f3 g1 nx5 hz6 sw fl sg pl pa pk pn pf pg) hP hD hS hA [5, 6, 7, 8, 9, 10, 11, 12, 13] [0, 1, 2, 3, 4, 14, 15, 16, 17, 18, 19, 20, 21] [0, 1, 2, 3, 4, 13, 14, 15, 16, 17, 18, 19, 20, 21, 5, 6, 7, 8, 9, 10, 11, 12] rfl rfl (by decide) (by decide) rfl (by decide) (zrV (C := RX2) (As := [.int v2]) (rest := []) hx hb hml hown hts tw290 mv_X2_settle ⟨Nat.le_of_ble_eq_true rfl, Nat.le_of_ble_eq_true rfl⟩ rfl rfl (ct_X2_settle l D ct a g1 nx hz _ v2 k v4 nx5 hz6 hc) (z_wv hK hP hD [5, 6, 7, 8, 9, 10, 11, 12, 13] (by decide) rfl 5 rfl rfl) hl.1 rfl rfl (Nat.le_of_ble_eq_true rfl) dX7_give_24 ⟨Nat.le_refl _, Nat.le_refl _⟩) (fun H locs hP hD hS => ?_)
  cases h
  exact zX_i hx hb hr hlocks hP hD hS hAe dX7_give_27 rfl

def f_X7_takeBack (k : Nat) (f : Nat → Int32) (g : Nat → Nat → Int32) (nx : Int32) (hz : Int32) (p1 : Int32) : Option (Int32 × (Nat → Int32) × (Nat → Nat → Int32) × Int32 × Int32) :=
  zb1 (f_X2_note k f g nx) fun g1 =>
  zb2 (f_X6_takeBlockAway k f p1) fun v2 f3 =>
  zb3 (f_X2_settle k nx hz v2) fun v4 nx5 hz6 =>
  some (v4, f3, g1, nx5, hz6)
set_option maxRecDepth 100000 in
set_option maxHeartbeats 4000000 in
theorem ct_X7_takeBack (l : Launch) (D : va_G) (ct a : Nat → Nat) (f : Nat → Int32) (g : Nat → Nat → Int32) (nx : Int32) (hz : Int32) (sw : Nat → Nat → Int32) (fl : Nat → Int32) (sg : Nat → Int32) (pl : Int32) (pa : Int32) (pk : Int32) (pn : Nat → Int32) (pf : Int32) (pg : Int32) (sz : Nat) (p1 : Int32) (k : Nat) (r : Int32) (f' : Nat → Int32) (g' : Nat → Nat → Int32) (nx' : Int32) (hz' : Int32) (h : f_X7_takeBack k f g nx hz p1 = some (r, f', g', nx', hz')) : Met l yX7_takeBack (Cond.code yX7_takeBack cX7_takeBack 2 (some .int) :: zT) ({ frames := 4, cells := 0, slots := 0, locals := 103 } : Room) (va_Pc [.ref (a 0), .int p1] (zPW D (zTys ct) (wX7 ct a f g nx hz sw fl sg pl pa pk pn pf pg) sz)) (va_Qi (fun r' (_ : Unit) => r' = r) (zQW D (wX7 ct a f g nx hz sw fl sg pl pa pk pn pf pg) sz (wX7 ct a f' g' nx' hz' sw fl sg pl pa pk pn pf pg)) (va_A (wX7 ct a f g nx hz sw fl sg pl pa pk pn pf pg) sz)) 0 0 (va_A (wX7 ct a f g nx hz sw fl sg pl pa pk pn pf pg) sz) := by
  refine zMet (cc := cX7_takeBack) (maxL := 2) (ret := (some .int)) (av := [.ref (a 0), .int p1]) (by decide) (Nat.le_of_ble_eq_true rfl) (fun p e s m below meth c ls hx hb hr hml hts hown hlocks hin hB hl => ?_)
  have hl : lv_has ls 2 [(0, .ref (a 0)), (1, .int p1)] := hl
  have hown : s.vm.findClass RX7 = some m.cls := hown
  obtain ⟨hsz, hP, hK, hD0⟩ := hB
  subst hsz
  have hD := hD0.self (sz := s.heap.size)
  obtain ⟨A, hAe⟩ : ∃ A, A = va_A (wX7 ct a f g nx hz sw fl sg pl pa pk pn pf pg) s.heap.size := ⟨_, rfl⟩
  rw [← hAe] at hD
  have hA : ∀ q : Nat, s.heap.size ≤ q → A q := fun q h => by rw [hAe]; exact Or.inr h
  have hS : va_S A s.heap s.heap [] := va_S.rf
  rw [f_X7_takeBack] at h
  refine lv_aload_n hx hb dX7_takeBack_0 rfl (lv_at hl 0 rfl) ?_
  refine z_get (C := RX7) (T := TX7) (N := 6) (ci := 6) hx hb hts zin_X7 hown hK.1 hP 0 3 rfl rfl (by decide) tw136 rfl rfl dX7_takeBack_1 ?_
  refine lv_aload_n hx hb dX7_takeBack_4 rfl (lv_at hl 0 rfl) ?_
  refine z_get (C := RX7) (T := TX7) (N := 6) (ci := 6) hx hb hts zin_X7 hown hK.1 hP 0 0 rfl rfl (by decide) tw133 rfl rfl dX7_takeBack_5 ?_
  obtain ⟨g1, hc, h⟩ := zb1_s h
  refine zG_v (w1 := (wX2 ct a g1 nx hz ++ wX5 ct a f)) (ws' := wX7 ct a f g1 nx hz sw fl sg pl pa pk pn pf pg) hP hD hS hA [5, 6, 7, 8, 9, 10, 11, 12, 13, 3, 4] [0, 1, 2, 14, 15, 16, 17, 18, 19, 20, 21] [0, 1, 2, 20, 21, 11, 12, 13, 14, 15, 16, 17, 18, 19, 3, 4, 5, 6, 7, 8, 9, 10] rfl rfl (by decide) (by decide) rfl (by decide) (zrV (C := RX2) (As := [.ref (a 3)]) (rest := []) hx hb hml hown hts tw265 mv_X2_note ⟨Nat.le_of_ble_eq_true rfl, Nat.le_of_ble_eq_true rfl⟩ rfl rfl (ct_X2_note l D ct a g nx hz f _  k g1 hc) (z_wv hK hP hD [5, 6, 7, 8, 9, 10, 11, 12, 13, 3, 4] (by decide) rfl 5 rfl rfl) hl.1 rfl rfl (Nat.le_of_ble_eq_true rfl) dX7_takeBack_8 ⟨Nat.le_refl _, Nat.le_refl _⟩) (fun H locs hP hD hS => ?_)
  refine lv_aload_n hx hb dX7_takeBack_11 rfl (lv_at hl 0 rfl) ?_
  refine z_get (C := RX7) (T := TX7) (N := 6) (ci := 6) hx hb hts zin_X7 hown hK.1 hP 0 3 rfl rfl (by decide) tw136 rfl rfl dX7_takeBack_12 ?_
  refine lv_aload_n hx hb dX7_takeBack_15 rfl (lv_at hl 0 rfl) ?_
  refine z_get (C := RX7) (T := TX7) (N := 6) (ci := 6) hx hb hts zin_X7 hown hK.1 hP 0 2 rfl rfl (by decide) tw135 rfl rfl dX7_takeBack_16 ?_
  refine lv_iload_n hx hb dX7_takeBack_19 rfl (lv_at hl 1 rfl) ?_
  obtain ⟨v2, f3, hc, h⟩ := zb2_s h
  refine zG_i (w1 := wX6 ct a f3) (ws' := wX7 ct a f3 g1 nx hz sw fl sg pl pa pk pn pf pg) hP hD hS hA [1, 2, 3, 4] [0, 5, 6, 7, 8, 9, 10, 11, 12, 13, 14, 15, 16, 17, 18, 19, 20, 21] [0, 18, 19, 20, 21, 1, 2, 3, 4, 5, 6, 7, 8, 9, 10, 11, 12, 13, 14, 15, 16, 17] rfl rfl (by decide) (by decide) rfl (by decide) (zrV (C := RX6) (As := [.int p1]) (rest := [.ref (a 5)]) hx hb hml hown hts tw400 mv_X6_takeBlockAway ⟨Nat.le_of_ble_eq_true rfl, Nat.le_of_ble_eq_true rfl⟩ rfl rfl (ct_X6_takeBlockAway l D ct a f _ p1 k v2 f3 hc) (z_wv hK hP hD [1, 2, 3, 4] (by decide) rfl 1 rfl rfl) hl.1 rfl rfl (Nat.le_of_ble_eq_true rfl) dX7_takeBack_20 ⟨Nat.le_refl _, Nat.le_refl _⟩) (fun H locs hP hD hS => ?_)
  obtain ⟨v4, nx5, hz6, hc, h⟩ := zb3_s h
  refine zG_i (w1 := wX2 ct a g1 nx5 hz6) (ws' := wX7 ct a f3 g1 nx5 hz6 sw fl sg pl pa pk pn pf pg) hP hD hS hA [5, 6, 7, 8, 9, 10, 11, 12, 13] [0, 1, 2, 3, 4, 14, 15, 16, 17, 18, 19, 20, 21] [0, 1, 2, 3, 4, 13, 14, 15, 16, 17, 18, 19, 20, 21, 5, 6, 7, 8, 9, 10, 11, 12] rfl rfl (by decide) (by decide) rfl (by decide) (zrV (C := RX2) (As := [.int v2]) (rest := []) hx hb hml hown hts tw290 mv_X2_settle ⟨Nat.le_of_ble_eq_true rfl, Nat.le_of_ble_eq_true rfl⟩ rfl rfl (ct_X2_settle l D ct a g1 nx hz _ v2 k v4 nx5 hz6 hc) (z_wv hK hP hD [5, 6, 7, 8, 9, 10, 11, 12, 13] (by decide) rfl 5 rfl rfl) hl.1 rfl rfl (Nat.le_of_ble_eq_true rfl) dX7_takeBack_23 ⟨Nat.le_refl _, Nat.le_refl _⟩) (fun H locs hP hD hS => ?_)
  cases h
  exact zX_i hx hb hr hlocks hP hD hS hAe dX7_takeBack_26 rfl

def f_X7_limits (k : Nat) (f : Nat → Int32) (g : Nat → Nat → Int32) (nx : Int32) (hz : Int32) (p1 : Int32) (p2 : Int32) (p3 : Int32) (p4 : Int32) : Option (Int32 × (Nat → Int32) × (Nat → Nat → Int32) × Int32 × Int32) :=
  zb1 (f_X2_note k f g nx) fun g1 =>
  zb2 (f_X6_changeLimits k f p1 p2 p3 p4) fun v2 f3 =>
  zb3 (f_X2_settle k nx hz v2) fun v4 nx5 hz6 =>
  some (v4, f3, g1, nx5, hz6)
set_option maxRecDepth 100000 in
set_option maxHeartbeats 4000000 in
theorem ct_X7_limits (l : Launch) (D : va_G) (ct a : Nat → Nat) (f : Nat → Int32) (g : Nat → Nat → Int32) (nx : Int32) (hz : Int32) (sw : Nat → Nat → Int32) (fl : Nat → Int32) (sg : Nat → Int32) (pl : Int32) (pa : Int32) (pk : Int32) (pn : Nat → Int32) (pf : Int32) (pg : Int32) (sz : Nat) (p1 : Int32) (p2 : Int32) (p3 : Int32) (p4 : Int32) (k : Nat) (r : Int32) (f' : Nat → Int32) (g' : Nat → Nat → Int32) (nx' : Int32) (hz' : Int32) (h : f_X7_limits k f g nx hz p1 p2 p3 p4 = some (r, f', g', nx', hz')) : Met l yX7_limits (Cond.code yX7_limits cX7_limits 5 (some .int) :: zT) ({ frames := 4, cells := 0, slots := 0, locals := 103 } : Room) (va_Pc [.ref (a 0), .int p1, .int p2, .int p3, .int p4] (zPW D (zTys ct) (wX7 ct a f g nx hz sw fl sg pl pa pk pn pf pg) sz)) (va_Qi (fun r' (_ : Unit) => r' = r) (zQW D (wX7 ct a f g nx hz sw fl sg pl pa pk pn pf pg) sz (wX7 ct a f' g' nx' hz' sw fl sg pl pa pk pn pf pg)) (va_A (wX7 ct a f g nx hz sw fl sg pl pa pk pn pf pg) sz)) 0 0 (va_A (wX7 ct a f g nx hz sw fl sg pl pa pk pn pf pg) sz) := by
  refine zMet (cc := cX7_limits) (maxL := 5) (ret := (some .int)) (av := [.ref (a 0), .int p1, .int p2, .int p3, .int p4]) (by decide) (Nat.le_of_ble_eq_true rfl) (fun p e s m below meth c ls hx hb hr hml hts hown hlocks hin hB hl => ?_)
  have hl : lv_has ls 5 [(0, .ref (a 0)), (1, .int p1), (2, .int p2), (3, .int p3), (4, .int p4)] := hl
  have hown : s.vm.findClass RX7 = some m.cls := hown
  obtain ⟨hsz, hP, hK, hD0⟩ := hB
  subst hsz
  have hD := hD0.self (sz := s.heap.size)
  obtain ⟨A, hAe⟩ : ∃ A, A = va_A (wX7 ct a f g nx hz sw fl sg pl pa pk pn pf pg) s.heap.size := ⟨_, rfl⟩
  rw [← hAe] at hD
  have hA : ∀ q : Nat, s.heap.size ≤ q → A q := fun q h => by rw [hAe]; exact Or.inr h
  have hS : va_S A s.heap s.heap [] := va_S.rf
  rw [f_X7_limits] at h
  refine lv_aload_n hx hb dX7_limits_0 rfl (lv_at hl 0 rfl) ?_
  refine z_get (C := RX7) (T := TX7) (N := 6) (ci := 6) hx hb hts zin_X7 hown hK.1 hP 0 3 rfl rfl (by decide) tw136 rfl rfl dX7_limits_1 ?_
  refine lv_aload_n hx hb dX7_limits_4 rfl (lv_at hl 0 rfl) ?_
  refine z_get (C := RX7) (T := TX7) (N := 6) (ci := 6) hx hb hts zin_X7 hown hK.1 hP 0 0 rfl rfl (by decide) tw133 rfl rfl dX7_limits_5 ?_
  obtain ⟨g1, hc, h⟩ := zb1_s h
  refine zG_v (w1 := (wX2 ct a g1 nx hz ++ wX5 ct a f)) (ws' := wX7 ct a f g1 nx hz sw fl sg pl pa pk pn pf pg) hP hD hS hA [5, 6, 7, 8, 9, 10, 11, 12, 13, 3, 4] [0, 1, 2, 14, 15, 16, 17, 18, 19, 20, 21] [0, 1, 2, 20, 21, 11, 12, 13, 14, 15, 16, 17, 18, 19, 3, 4, 5, 6, 7, 8, 9, 10] rfl rfl (by decide) (by decide) rfl (by decide) (zrV (C := RX2) (As := [.ref (a 3)]) (rest := []) hx hb hml hown hts tw265 mv_X2_note ⟨Nat.le_of_ble_eq_true rfl, Nat.le_of_ble_eq_true rfl⟩ rfl rfl (ct_X2_note l D ct a g nx hz f _  k g1 hc) (z_wv hK hP hD [5, 6, 7, 8, 9, 10, 11, 12, 13, 3, 4] (by decide) rfl 5 rfl rfl) hl.1 rfl rfl (Nat.le_of_ble_eq_true rfl) dX7_limits_8 ⟨Nat.le_refl _, Nat.le_refl _⟩) (fun H locs hP hD hS => ?_)
  refine lv_aload_n hx hb dX7_limits_11 rfl (lv_at hl 0 rfl) ?_
  refine z_get (C := RX7) (T := TX7) (N := 6) (ci := 6) hx hb hts zin_X7 hown hK.1 hP 0 3 rfl rfl (by decide) tw136 rfl rfl dX7_limits_12 ?_
  refine lv_aload_n hx hb dX7_limits_15 rfl (lv_at hl 0 rfl) ?_
  refine z_get (C := RX7) (T := TX7) (N := 6) (ci := 6) hx hb hts zin_X7 hown hK.1 hP 0 2 rfl rfl (by decide) tw135 rfl rfl dX7_limits_16 ?_
  refine lv_iload_n hx hb dX7_limits_19 rfl (lv_at hl 1 rfl) ?_
  refine lv_iload_n hx hb dX7_limits_20 rfl (lv_at hl 2 rfl) ?_
  refine lv_iload_n hx hb dX7_limits_21 rfl (lv_at hl 3 rfl) ?_
  refine lv_iload hx hb dX7_limits_22 (lv_at hl 4 rfl) ?_
  obtain ⟨v2, f3, hc, h⟩ := zb2_s h
  refine zG_i (w1 := wX6 ct a f3) (ws' := wX7 ct a f3 g1 nx hz sw fl sg pl pa pk pn pf pg) hP hD hS hA [1, 2, 3, 4] [0, 5, 6, 7, 8, 9, 10, 11, 12, 13, 14, 15, 16, 17, 18, 19, 20, 21] [0, 18, 19, 20, 21, 1, 2, 3, 4, 5, 6, 7, 8, 9, 10, 11, 12, 13, 14, 15, 16, 17] rfl rfl (by decide) (by decide) rfl (by decide) (zrV (C := RX6) (As := [.int p1, .int p2, .int p3, .int p4]) (rest := [.ref (a 5)]) hx hb hml hown hts tw409 mv_X6_changeLimits ⟨Nat.le_of_ble_eq_true rfl, Nat.le_of_ble_eq_true rfl⟩ rfl rfl (ct_X6_changeLimits l D ct a f _ p1 p2 p3 p4 k v2 f3 hc) (z_wv hK hP hD [1, 2, 3, 4] (by decide) rfl 1 rfl rfl) hl.1 rfl rfl (Nat.le_of_ble_eq_true rfl) dX7_limits_24 ⟨Nat.le_refl _, Nat.le_refl _⟩) (fun H locs hP hD hS => ?_)
  obtain ⟨v4, nx5, hz6, hc, h⟩ := zb3_s h
  refine zG_i (w1 := wX2 ct a g1 nx5 hz6) (ws' := wX7 ct a f3 g1 nx5 hz6 sw fl sg pl pa pk pn pf pg) hP hD hS hA [5, 6, 7, 8, 9, 10, 11, 12, 13] [0, 1, 2, 3, 4, 14, 15, 16, 17, 18, 19, 20, 21] [0, 1, 2, 3, 4, 13, 14, 15, 16, 17, 18, 19, 20, 21, 5, 6, 7, 8, 9, 10, 11, 12] rfl rfl (by decide) (by decide) rfl (by decide) (zrV (C := RX2) (As := [.int v2]) (rest := []) hx hb hml hown hts tw290 mv_X2_settle ⟨Nat.le_of_ble_eq_true rfl, Nat.le_of_ble_eq_true rfl⟩ rfl rfl (ct_X2_settle l D ct a g1 nx hz _ v2 k v4 nx5 hz6 hc) (z_wv hK hP hD [5, 6, 7, 8, 9, 10, 11, 12, 13] (by decide) rfl 5 rfl rfl) hl.1 rfl rfl (Nat.le_of_ble_eq_true rfl) dX7_limits_27 ⟨Nat.le_refl _, Nat.le_refl _⟩) (fun H locs hP hD hS => ?_)
  cases h
  exact zX_i hx hb hr hlocks hP hD hS hAe dX7_limits_30 rfl

def f_X7_load (k : Nat) (f : Nat → Int32) (g : Nat → Nat → Int32) (nx : Int32) (hz : Int32) (p1 : Int32) (p2 : Int32) (p3 : Int32) : Option (Int32 × (Nat → Int32) × (Nat → Nat → Int32) × Int32 × Int32) :=
  zb1 (f_X2_note k f g nx) fun g1 =>
  zb2 (f_X6_loadBlock k f p1 p2 p3) fun v2 f3 =>
  zb3 (f_X2_settle k nx hz v2) fun v4 nx5 hz6 =>
  some (v4, f3, g1, nx5, hz6)
set_option maxRecDepth 100000 in
set_option maxHeartbeats 4000000 in
theorem ct_X7_load (l : Launch) (D : va_G) (ct a : Nat → Nat) (f : Nat → Int32) (g : Nat → Nat → Int32) (nx : Int32) (hz : Int32) (sw : Nat → Nat → Int32) (fl : Nat → Int32) (sg : Nat → Int32) (pl : Int32) (pa : Int32) (pk : Int32) (pn : Nat → Int32) (pf : Int32) (pg : Int32) (sz : Nat) (p1 : Int32) (p2 : Int32) (p3 : Int32) (k : Nat) (r : Int32) (f' : Nat → Int32) (g' : Nat → Nat → Int32) (nx' : Int32) (hz' : Int32) (h : f_X7_load k f g nx hz p1 p2 p3 = some (r, f', g', nx', hz')) : Met l yX7_load (Cond.code yX7_load cX7_load 4 (some .int) :: zT) ({ frames := 5, cells := 0, slots := 0, locals := 115 } : Room) (va_Pc [.ref (a 0), .int p1, .int p2, .int p3] (zPW D (zTys ct) (wX7 ct a f g nx hz sw fl sg pl pa pk pn pf pg) sz)) (va_Qi (fun r' (_ : Unit) => r' = r) (zQW D (wX7 ct a f g nx hz sw fl sg pl pa pk pn pf pg) sz (wX7 ct a f' g' nx' hz' sw fl sg pl pa pk pn pf pg)) (va_A (wX7 ct a f g nx hz sw fl sg pl pa pk pn pf pg) sz)) 0 0 (va_A (wX7 ct a f g nx hz sw fl sg pl pa pk pn pf pg) sz) := by
  refine zMet (cc := cX7_load) (maxL := 4) (ret := (some .int)) (av := [.ref (a 0), .int p1, .int p2, .int p3]) (by decide) (Nat.le_of_ble_eq_true rfl) (fun p e s m below meth c ls hx hb hr hml hts hown hlocks hin hB hl => ?_)
  have hl : lv_has ls 4 [(0, .ref (a 0)), (1, .int p1), (2, .int p2), (3, .int p3)] := hl
  have hown : s.vm.findClass RX7 = some m.cls := hown
  obtain ⟨hsz, hP, hK, hD0⟩ := hB
  subst hsz
  have hD := hD0.self (sz := s.heap.size)
  obtain ⟨A, hAe⟩ : ∃ A, A = va_A (wX7 ct a f g nx hz sw fl sg pl pa pk pn pf pg) s.heap.size := ⟨_, rfl⟩
  rw [← hAe] at hD
  have hA : ∀ q : Nat, s.heap.size ≤ q → A q := fun q h => by rw [hAe]; exact Or.inr h
  have hS : va_S A s.heap s.heap [] := va_S.rf
  rw [f_X7_load] at h
  refine lv_aload_n hx hb dX7_load_0 rfl (lv_at hl 0 rfl) ?_
  refine z_get (C := RX7) (T := TX7) (N := 6) (ci := 6) hx hb hts zin_X7 hown hK.1 hP 0 3 rfl rfl (by decide) tw136 rfl rfl dX7_load_1 ?_
  refine lv_aload_n hx hb dX7_load_4 rfl (lv_at hl 0 rfl) ?_
  refine z_get (C := RX7) (T := TX7) (N := 6) (ci := 6) hx hb hts zin_X7 hown hK.1 hP 0 0 rfl rfl (by decide) tw133 rfl rfl dX7_load_5 ?_
  obtain ⟨g1, hc, h⟩ := zb1_s h
  refine zG_v (w1 := (wX2 ct a g1 nx hz ++ wX5 ct a f)) (ws' := wX7 ct a f g1 nx hz sw fl sg pl pa pk pn pf pg) hP hD hS hA [5, 6, 7, 8, 9, 10, 11, 12, 13, 3, 4] [0, 1, 2, 14, 15, 16, 17, 18, 19, 20, 21] [0, 1, 2, 20, 21, 11, 12, 13, 14, 15, 16, 17, 18, 19, 3, 4, 5, 6, 7, 8, 9, 10] rfl rfl (by decide) (by decide) rfl (by decide) (zrV (C := RX2) (As := [.ref (a 3)]) (rest := []) hx hb hml hown hts tw265 mv_X2_note ⟨Nat.le_of_ble_eq_true rfl, Nat.le_of_ble_eq_true rfl⟩ rfl rfl (ct_X2_note l D ct a g nx hz f _  k g1 hc) (z_wv hK hP hD [5, 6, 7, 8, 9, 10, 11, 12, 13, 3, 4] (by decide) rfl 5 rfl rfl) hl.1 rfl rfl (Nat.le_of_ble_eq_true rfl) dX7_load_8 ⟨Nat.le_refl _, Nat.le_refl _⟩) (fun H locs hP hD hS => ?_)
  refine lv_aload_n hx hb dX7_load_11 rfl (lv_at hl 0 rfl) ?_
  refine z_get (C := RX7) (T := TX7) (N := 6) (ci := 6) hx hb hts zin_X7 hown hK.1 hP 0 3 rfl rfl (by decide) tw136 rfl rfl dX7_load_12 ?_
  refine lv_aload_n hx hb dX7_load_15 rfl (lv_at hl 0 rfl) ?_
  refine z_get (C := RX7) (T := TX7) (N := 6) (ci := 6) hx hb hts zin_X7 hown hK.1 hP 0 2 rfl rfl (by decide) tw135 rfl rfl dX7_load_16 ?_
  refine lv_iload_n hx hb dX7_load_19 rfl (lv_at hl 1 rfl) ?_
  refine lv_iload_n hx hb dX7_load_20 rfl (lv_at hl 2 rfl) ?_
  refine lv_iload_n hx hb dX7_load_21 rfl (lv_at hl 3 rfl) ?_
  obtain ⟨v2, f3, hc, h⟩ := zb2_s h
  refine zG_i (w1 := wX6 ct a f3) (ws' := wX7 ct a f3 g1 nx hz sw fl sg pl pa pk pn pf pg) hP hD hS hA [1, 2, 3, 4] [0, 5, 6, 7, 8, 9, 10, 11, 12, 13, 14, 15, 16, 17, 18, 19, 20, 21] [0, 18, 19, 20, 21, 1, 2, 3, 4, 5, 6, 7, 8, 9, 10, 11, 12, 13, 14, 15, 16, 17] rfl rfl (by decide) (by decide) rfl (by decide) (zrV (C := RX6) (As := [.int p1, .int p2, .int p3]) (rest := [.ref (a 5)]) hx hb hml hown hts tw424 mv_X6_loadBlock ⟨Nat.le_of_ble_eq_true rfl, Nat.le_of_ble_eq_true rfl⟩ rfl rfl (ct_X6_loadBlock l D ct a f _ p1 p2 p3 k v2 f3 hc) (z_wv hK hP hD [1, 2, 3, 4] (by decide) rfl 1 rfl rfl) hl.1 rfl rfl (Nat.le_of_ble_eq_true rfl) dX7_load_22 ⟨Nat.le_refl _, Nat.le_refl _⟩) (fun H locs hP hD hS => ?_)
  obtain ⟨v4, nx5, hz6, hc, h⟩ := zb3_s h
  refine zG_i (w1 := wX2 ct a g1 nx5 hz6) (ws' := wX7 ct a f3 g1 nx5 hz6 sw fl sg pl pa pk pn pf pg) hP hD hS hA [5, 6, 7, 8, 9, 10, 11, 12, 13] [0, 1, 2, 3, 4, 14, 15, 16, 17, 18, 19, 20, 21] [0, 1, 2, 3, 4, 13, 14, 15, 16, 17, 18, 19, 20, 21, 5, 6, 7, 8, 9, 10, 11, 12] rfl rfl (by decide) (by decide) rfl (by decide) (zrV (C := RX2) (As := [.int v2]) (rest := []) hx hb hml hown hts tw290 mv_X2_settle ⟨Nat.le_of_ble_eq_true rfl, Nat.le_of_ble_eq_true rfl⟩ rfl rfl (ct_X2_settle l D ct a g1 nx hz _ v2 k v4 nx5 hz6 hc) (z_wv hK hP hD [5, 6, 7, 8, 9, 10, 11, 12, 13] (by decide) rfl 5 rfl rfl) hl.1 rfl rfl (Nat.le_of_ble_eq_true rfl) dX7_load_25 ⟨Nat.le_refl _, Nat.le_refl _⟩) (fun H locs hP hD hS => ?_)
  cases h
  exact zX_i hx hb hr hlocks hP hD hS hAe dX7_load_28 rfl

def f_X7_unload (k : Nat) (f : Nat → Int32) (g : Nat → Nat → Int32) (nx : Int32) (hz : Int32) (p1 : Int32) : Option (Int32 × (Nat → Int32) × (Nat → Nat → Int32) × Int32 × Int32) :=
  zb1 (f_X2_note k f g nx) fun g1 =>
  zb2 (f_X6_unloadBlock k f p1) fun v2 f3 =>
  zb3 (f_X2_settle k nx hz v2) fun v4 nx5 hz6 =>
  some (v4, f3, g1, nx5, hz6)
set_option maxRecDepth 100000 in
set_option maxHeartbeats 4000000 in
theorem ct_X7_unload (l : Launch) (D : va_G) (ct a : Nat → Nat) (f : Nat → Int32) (g : Nat → Nat → Int32) (nx : Int32) (hz : Int32) (sw : Nat → Nat → Int32) (fl : Nat → Int32) (sg : Nat → Int32) (pl : Int32) (pa : Int32) (pk : Int32) (pn : Nat → Int32) (pf : Int32) (pg : Int32) (sz : Nat) (p1 : Int32) (k : Nat) (r : Int32) (f' : Nat → Int32) (g' : Nat → Nat → Int32) (nx' : Int32) (hz' : Int32) (h : f_X7_unload k f g nx hz p1 = some (r, f', g', nx', hz')) : Met l yX7_unload (Cond.code yX7_unload cX7_unload 2 (some .int) :: zT) ({ frames := 5, cells := 0, slots := 0, locals := 114 } : Room) (va_Pc [.ref (a 0), .int p1] (zPW D (zTys ct) (wX7 ct a f g nx hz sw fl sg pl pa pk pn pf pg) sz)) (va_Qi (fun r' (_ : Unit) => r' = r) (zQW D (wX7 ct a f g nx hz sw fl sg pl pa pk pn pf pg) sz (wX7 ct a f' g' nx' hz' sw fl sg pl pa pk pn pf pg)) (va_A (wX7 ct a f g nx hz sw fl sg pl pa pk pn pf pg) sz)) 0 0 (va_A (wX7 ct a f g nx hz sw fl sg pl pa pk pn pf pg) sz) := by
  refine zMet (cc := cX7_unload) (maxL := 2) (ret := (some .int)) (av := [.ref (a 0), .int p1]) (by decide) (Nat.le_of_ble_eq_true rfl) (fun p e s m below meth c ls hx hb hr hml hts hown hlocks hin hB hl => ?_)
  have hl : lv_has ls 2 [(0, .ref (a 0)), (1, .int p1)] := hl
  have hown : s.vm.findClass RX7 = some m.cls := hown
  obtain ⟨hsz, hP, hK, hD0⟩ := hB
  subst hsz
  have hD := hD0.self (sz := s.heap.size)
  obtain ⟨A, hAe⟩ : ∃ A, A = va_A (wX7 ct a f g nx hz sw fl sg pl pa pk pn pf pg) s.heap.size := ⟨_, rfl⟩
  rw [← hAe] at hD
  have hA : ∀ q : Nat, s.heap.size ≤ q → A q := fun q h => by rw [hAe]; exact Or.inr h
  have hS : va_S A s.heap s.heap [] := va_S.rf
  rw [f_X7_unload] at h
  refine lv_aload_n hx hb dX7_unload_0 rfl (lv_at hl 0 rfl) ?_
  refine z_get (C := RX7) (T := TX7) (N := 6) (ci := 6) hx hb hts zin_X7 hown hK.1 hP 0 3 rfl rfl (by decide) tw136 rfl rfl dX7_unload_1 ?_
  refine lv_aload_n hx hb dX7_unload_4 rfl (lv_at hl 0 rfl) ?_
  refine z_get (C := RX7) (T := TX7) (N := 6) (ci := 6) hx hb hts zin_X7 hown hK.1 hP 0 0 rfl rfl (by decide) tw133 rfl rfl dX7_unload_5 ?_
  obtain ⟨g1, hc, h⟩ := zb1_s h
  refine zG_v (w1 := (wX2 ct a g1 nx hz ++ wX5 ct a f)) (ws' := wX7 ct a f g1 nx hz sw fl sg pl pa pk pn pf pg) hP hD hS hA [5, 6, 7, 8, 9, 10, 11, 12, 13, 3, 4] [0, 1, 2, 14, 15, 16, 17, 18, 19, 20, 21] [0, 1, 2, 20, 21, 11, 12, 13, 14, 15, 16, 17, 18, 19, 3, 4, 5, 6, 7, 8, 9, 10] rfl rfl (by decide) (by decide) rfl (by decide) (zrV (C := RX2) (As := [.ref (a 3)]) (rest := []) hx hb hml hown hts tw265 mv_X2_note ⟨Nat.le_of_ble_eq_true rfl, Nat.le_of_ble_eq_true rfl⟩ rfl rfl (ct_X2_note l D ct a g nx hz f _  k g1 hc) (z_wv hK hP hD [5, 6, 7, 8, 9, 10, 11, 12, 13, 3, 4] (by decide) rfl 5 rfl rfl) hl.1 rfl rfl (Nat.le_of_ble_eq_true rfl) dX7_unload_8 ⟨Nat.le_refl _, Nat.le_refl _⟩) (fun H locs hP hD hS => ?_)
  refine lv_aload_n hx hb dX7_unload_11 rfl (lv_at hl 0 rfl) ?_
  refine z_get (C := RX7) (T := TX7) (N := 6) (ci := 6) hx hb hts zin_X7 hown hK.1 hP 0 3 rfl rfl (by decide) tw136 rfl rfl dX7_unload_12 ?_
  refine lv_aload_n hx hb dX7_unload_15 rfl (lv_at hl 0 rfl) ?_
  refine z_get (C := RX7) (T := TX7) (N := 6) (ci := 6) hx hb hts zin_X7 hown hK.1 hP 0 2 rfl rfl (by decide) tw135 rfl rfl dX7_unload_16 ?_
  refine lv_iload_n hx hb dX7_unload_19 rfl (lv_at hl 1 rfl) ?_
  obtain ⟨v2, f3, hc, h⟩ := zb2_s h
  refine zG_i (w1 := wX6 ct a f3) (ws' := wX7 ct a f3 g1 nx hz sw fl sg pl pa pk pn pf pg) hP hD hS hA [1, 2, 3, 4] [0, 5, 6, 7, 8, 9, 10, 11, 12, 13, 14, 15, 16, 17, 18, 19, 20, 21] [0, 18, 19, 20, 21, 1, 2, 3, 4, 5, 6, 7, 8, 9, 10, 11, 12, 13, 14, 15, 16, 17] rfl rfl (by decide) (by decide) rfl (by decide) (zrV (C := RX6) (As := [.int p1]) (rest := [.ref (a 5)]) hx hb hml hown hts tw444 mv_X6_unloadBlock ⟨Nat.le_of_ble_eq_true rfl, Nat.le_of_ble_eq_true rfl⟩ rfl rfl (ct_X6_unloadBlock l D ct a f _ p1 k v2 f3 hc) (z_wv hK hP hD [1, 2, 3, 4] (by decide) rfl 1 rfl rfl) hl.1 rfl rfl (Nat.le_of_ble_eq_true rfl) dX7_unload_20 ⟨Nat.le_refl _, Nat.le_refl _⟩) (fun H locs hP hD hS => ?_)
  obtain ⟨v4, nx5, hz6, hc, h⟩ := zb3_s h
  refine zG_i (w1 := wX2 ct a g1 nx5 hz6) (ws' := wX7 ct a f3 g1 nx5 hz6 sw fl sg pl pa pk pn pf pg) hP hD hS hA [5, 6, 7, 8, 9, 10, 11, 12, 13] [0, 1, 2, 3, 4, 14, 15, 16, 17, 18, 19, 20, 21] [0, 1, 2, 3, 4, 13, 14, 15, 16, 17, 18, 19, 20, 21, 5, 6, 7, 8, 9, 10, 11, 12] rfl rfl (by decide) (by decide) rfl (by decide) (zrV (C := RX2) (As := [.int v2]) (rest := []) hx hb hml hown hts tw290 mv_X2_settle ⟨Nat.le_of_ble_eq_true rfl, Nat.le_of_ble_eq_true rfl⟩ rfl rfl (ct_X2_settle l D ct a g1 nx hz _ v2 k v4 nx5 hz6 hc) (z_wv hK hP hD [5, 6, 7, 8, 9, 10, 11, 12, 13] (by decide) rfl 5 rfl rfl) hl.1 rfl rfl (Nat.le_of_ble_eq_true rfl) dX7_unload_23 ⟨Nat.le_refl _, Nat.le_refl _⟩) (fun H locs hP hD hS => ?_)
  cases h
  exact zX_i hx hb hr hlocks hP hD hS hAe dX7_unload_26 rfl

def f_X7_leave (k : Nat) (f : Nat → Int32) (g : Nat → Nat → Int32) (nx : Int32) (hz : Int32) (p1 : Int32) : Option (Int32 × (Nat → Int32) × (Nat → Nat → Int32) × Int32 × Int32) :=
  zb1 (f_X2_note k f g nx) fun g1 =>
  zb2 (f_X6_sendLorry k f p1) fun v2 f3 =>
  zb3 (f_X2_settle k nx hz v2) fun v4 nx5 hz6 =>
  some (v4, f3, g1, nx5, hz6)
set_option maxRecDepth 100000 in
set_option maxHeartbeats 4000000 in
theorem ct_X7_leave (l : Launch) (D : va_G) (ct a : Nat → Nat) (f : Nat → Int32) (g : Nat → Nat → Int32) (nx : Int32) (hz : Int32) (sw : Nat → Nat → Int32) (fl : Nat → Int32) (sg : Nat → Int32) (pl : Int32) (pa : Int32) (pk : Int32) (pn : Nat → Int32) (pf : Int32) (pg : Int32) (sz : Nat) (p1 : Int32) (k : Nat) (r : Int32) (f' : Nat → Int32) (g' : Nat → Nat → Int32) (nx' : Int32) (hz' : Int32) (h : f_X7_leave k f g nx hz p1 = some (r, f', g', nx', hz')) : Met l yX7_leave (Cond.code yX7_leave cX7_leave 2 (some .int) :: zT) ({ frames := 5, cells := 0, slots := 0, locals := 121 } : Room) (va_Pc [.ref (a 0), .int p1] (zPW D (zTys ct) (wX7 ct a f g nx hz sw fl sg pl pa pk pn pf pg) sz)) (va_Qi (fun r' (_ : Unit) => r' = r) (zQW D (wX7 ct a f g nx hz sw fl sg pl pa pk pn pf pg) sz (wX7 ct a f' g' nx' hz' sw fl sg pl pa pk pn pf pg)) (va_A (wX7 ct a f g nx hz sw fl sg pl pa pk pn pf pg) sz)) 0 0 (va_A (wX7 ct a f g nx hz sw fl sg pl pa pk pn pf pg) sz) := by
  refine zMet (cc := cX7_leave) (maxL := 2) (ret := (some .int)) (av := [.ref (a 0), .int p1]) (by decide) (Nat.le_of_ble_eq_true rfl) (fun p e s m below meth c ls hx hb hr hml hts hown hlocks hin hB hl => ?_)
  have hl : lv_has ls 2 [(0, .ref (a 0)), (1, .int p1)] := hl
  have hown : s.vm.findClass RX7 = some m.cls := hown
  obtain ⟨hsz, hP, hK, hD0⟩ := hB
  subst hsz
  have hD := hD0.self (sz := s.heap.size)
  obtain ⟨A, hAe⟩ : ∃ A, A = va_A (wX7 ct a f g nx hz sw fl sg pl pa pk pn pf pg) s.heap.size := ⟨_, rfl⟩
  rw [← hAe] at hD
  have hA : ∀ q : Nat, s.heap.size ≤ q → A q := fun q h => by rw [hAe]; exact Or.inr h
  have hS : va_S A s.heap s.heap [] := va_S.rf
  rw [f_X7_leave] at h
  refine lv_aload_n hx hb dX7_leave_0 rfl (lv_at hl 0 rfl) ?_
  refine z_get (C := RX7) (T := TX7) (N := 6) (ci := 6) hx hb hts zin_X7 hown hK.1 hP 0 3 rfl rfl (by decide) tw136 rfl rfl dX7_leave_1 ?_
  refine lv_aload_n hx hb dX7_leave_4 rfl (lv_at hl 0 rfl) ?_
  refine z_get (C := RX7) (T := TX7) (N := 6) (ci := 6) hx hb hts zin_X7 hown hK.1 hP 0 0 rfl rfl (by decide) tw133 rfl rfl dX7_leave_5 ?_
  obtain ⟨g1, hc, h⟩ := zb1_s h
  refine zG_v (w1 := (wX2 ct a g1 nx hz ++ wX5 ct a f)) (ws' := wX7 ct a f g1 nx hz sw fl sg pl pa pk pn pf pg) hP hD hS hA [5, 6, 7, 8, 9, 10, 11, 12, 13, 3, 4] [0, 1, 2, 14, 15, 16, 17, 18, 19, 20, 21] [0, 1, 2, 20, 21, 11, 12, 13, 14, 15, 16, 17, 18, 19, 3, 4, 5, 6, 7, 8, 9, 10] rfl rfl (by decide) (by decide) rfl (by decide) (zrV (C := RX2) (As := [.ref (a 3)]) (rest := []) hx hb hml hown hts tw265 mv_X2_note ⟨Nat.le_of_ble_eq_true rfl, Nat.le_of_ble_eq_true rfl⟩ rfl rfl (ct_X2_note l D ct a g nx hz f _  k g1 hc) (z_wv hK hP hD [5, 6, 7, 8, 9, 10, 11, 12, 13, 3, 4] (by decide) rfl 5 rfl rfl) hl.1 rfl rfl (Nat.le_of_ble_eq_true rfl) dX7_leave_8 ⟨Nat.le_refl _, Nat.le_refl _⟩) (fun H locs hP hD hS => ?_)
  refine lv_aload_n hx hb dX7_leave_11 rfl (lv_at hl 0 rfl) ?_
  refine z_get (C := RX7) (T := TX7) (N := 6) (ci := 6) hx hb hts zin_X7 hown hK.1 hP 0 3 rfl rfl (by decide) tw136 rfl rfl dX7_leave_12 ?_
  refine lv_aload_n hx hb dX7_leave_15 rfl (lv_at hl 0 rfl) ?_
  refine z_get (C := RX7) (T := TX7) (N := 6) (ci := 6) hx hb hts zin_X7 hown hK.1 hP 0 2 rfl rfl (by decide) tw135 rfl rfl dX7_leave_16 ?_
  refine lv_iload_n hx hb dX7_leave_19 rfl (lv_at hl 1 rfl) ?_
  obtain ⟨v2, f3, hc, h⟩ := zb2_s h
  refine zG_i (w1 := wX6 ct a f3) (ws' := wX7 ct a f3 g1 nx hz sw fl sg pl pa pk pn pf pg) hP hD hS hA [1, 2, 3, 4] [0, 5, 6, 7, 8, 9, 10, 11, 12, 13, 14, 15, 16, 17, 18, 19, 20, 21] [0, 18, 19, 20, 21, 1, 2, 3, 4, 5, 6, 7, 8, 9, 10, 11, 12, 13, 14, 15, 16, 17] rfl rfl (by decide) (by decide) rfl (by decide) (zrV (C := RX6) (As := [.int p1]) (rest := [.ref (a 5)]) hx hb hml hown hts tw452 mv_X6_sendLorry ⟨Nat.le_of_ble_eq_true rfl, Nat.le_of_ble_eq_true rfl⟩ rfl rfl (ct_X6_sendLorry l D ct a f _ p1 k v2 f3 hc) (z_wv hK hP hD [1, 2, 3, 4] (by decide) rfl 1 rfl rfl) hl.1 rfl rfl (Nat.le_of_ble_eq_true rfl) dX7_leave_20 ⟨Nat.le_refl _, Nat.le_refl _⟩) (fun H locs hP hD hS => ?_)
  obtain ⟨v4, nx5, hz6, hc, h⟩ := zb3_s h
  refine zG_i (w1 := wX2 ct a g1 nx5 hz6) (ws' := wX7 ct a f3 g1 nx5 hz6 sw fl sg pl pa pk pn pf pg) hP hD hS hA [5, 6, 7, 8, 9, 10, 11, 12, 13] [0, 1, 2, 3, 4, 14, 15, 16, 17, 18, 19, 20, 21] [0, 1, 2, 3, 4, 13, 14, 15, 16, 17, 18, 19, 20, 21, 5, 6, 7, 8, 9, 10, 11, 12] rfl rfl (by decide) (by decide) rfl (by decide) (zrV (C := RX2) (As := [.int v2]) (rest := []) hx hb hml hown hts tw290 mv_X2_settle ⟨Nat.le_of_ble_eq_true rfl, Nat.le_of_ble_eq_true rfl⟩ rfl rfl (ct_X2_settle l D ct a g1 nx hz _ v2 k v4 nx5 hz6 hc) (z_wv hK hP hD [5, 6, 7, 8, 9, 10, 11, 12, 13] (by decide) rfl 5 rfl rfl) hl.1 rfl rfl (Nat.le_of_ble_eq_true rfl) dX7_leave_23 ⟨Nat.le_refl _, Nat.le_refl _⟩) (fun H locs hP hD hS => ?_)
  cases h
  exact zX_i hx hb hr hlocks hP hD hS hAe dX7_leave_26 rfl

def f_X7_night (k : Nat) (f : Nat → Int32) (g : Nat → Nat → Int32) (nx : Int32) (hz : Int32) (p1 : Int32) : Option (Int32 × (Nat → Int32) × (Nat → Nat → Int32) × Int32 × Int32) :=
  zb1 (f_X2_note k f g nx) fun g1 =>
  zb2 (f_X6_passNight k f p1) fun v2 f3 =>
  zb3 (f_X2_settle k nx hz v2) fun v4 nx5 hz6 =>
  some (v4, f3, g1, nx5, hz6)
set_option maxRecDepth 100000 in
set_option maxHeartbeats 4000000 in
theorem ct_X7_night (l : Launch) (D : va_G) (ct a : Nat → Nat) (f : Nat → Int32) (g : Nat → Nat → Int32) (nx : Int32) (hz : Int32) (sw : Nat → Nat → Int32) (fl : Nat → Int32) (sg : Nat → Int32) (pl : Int32) (pa : Int32) (pk : Int32) (pn : Nat → Int32) (pf : Int32) (pg : Int32) (sz : Nat) (p1 : Int32) (k : Nat) (r : Int32) (f' : Nat → Int32) (g' : Nat → Nat → Int32) (nx' : Int32) (hz' : Int32) (h : f_X7_night k f g nx hz p1 = some (r, f', g', nx', hz')) : Met l yX7_night (Cond.code yX7_night cX7_night 2 (some .int) :: zT) ({ frames := 5, cells := 0, slots := 0, locals := 114 } : Room) (va_Pc [.ref (a 0), .int p1] (zPW D (zTys ct) (wX7 ct a f g nx hz sw fl sg pl pa pk pn pf pg) sz)) (va_Qi (fun r' (_ : Unit) => r' = r) (zQW D (wX7 ct a f g nx hz sw fl sg pl pa pk pn pf pg) sz (wX7 ct a f' g' nx' hz' sw fl sg pl pa pk pn pf pg)) (va_A (wX7 ct a f g nx hz sw fl sg pl pa pk pn pf pg) sz)) 0 0 (va_A (wX7 ct a f g nx hz sw fl sg pl pa pk pn pf pg) sz) := by
  refine zMet (cc := cX7_night) (maxL := 2) (ret := (some .int)) (av := [.ref (a 0), .int p1]) (by decide) (Nat.le_of_ble_eq_true rfl) (fun p e s m below meth c ls hx hb hr hml hts hown hlocks hin hB hl => ?_)
  have hl : lv_has ls 2 [(0, .ref (a 0)), (1, .int p1)] := hl
  have hown : s.vm.findClass RX7 = some m.cls := hown
  obtain ⟨hsz, hP, hK, hD0⟩ := hB
  subst hsz
  have hD := hD0.self (sz := s.heap.size)
  obtain ⟨A, hAe⟩ : ∃ A, A = va_A (wX7 ct a f g nx hz sw fl sg pl pa pk pn pf pg) s.heap.size := ⟨_, rfl⟩
  rw [← hAe] at hD
  have hA : ∀ q : Nat, s.heap.size ≤ q → A q := fun q h => by rw [hAe]; exact Or.inr h
  have hS : va_S A s.heap s.heap [] := va_S.rf
  rw [f_X7_night] at h
  refine lv_aload_n hx hb dX7_night_0 rfl (lv_at hl 0 rfl) ?_
  refine z_get (C := RX7) (T := TX7) (N := 6) (ci := 6) hx hb hts zin_X7 hown hK.1 hP 0 3 rfl rfl (by decide) tw136 rfl rfl dX7_night_1 ?_
  refine lv_aload_n hx hb dX7_night_4 rfl (lv_at hl 0 rfl) ?_
  refine z_get (C := RX7) (T := TX7) (N := 6) (ci := 6) hx hb hts zin_X7 hown hK.1 hP 0 0 rfl rfl (by decide) tw133 rfl rfl dX7_night_5 ?_
  obtain ⟨g1, hc, h⟩ := zb1_s h
  refine zG_v (w1 := (wX2 ct a g1 nx hz ++ wX5 ct a f)) (ws' := wX7 ct a f g1 nx hz sw fl sg pl pa pk pn pf pg) hP hD hS hA [5, 6, 7, 8, 9, 10, 11, 12, 13, 3, 4] [0, 1, 2, 14, 15, 16, 17, 18, 19, 20, 21] [0, 1, 2, 20, 21, 11, 12, 13, 14, 15, 16, 17, 18, 19, 3, 4, 5, 6, 7, 8, 9, 10] rfl rfl (by decide) (by decide) rfl (by decide) (zrV (C := RX2) (As := [.ref (a 3)]) (rest := []) hx hb hml hown hts tw265 mv_X2_note ⟨Nat.le_of_ble_eq_true rfl, Nat.le_of_ble_eq_true rfl⟩ rfl rfl (ct_X2_note l D ct a g nx hz f _  k g1 hc) (z_wv hK hP hD [5, 6, 7, 8, 9, 10, 11, 12, 13, 3, 4] (by decide) rfl 5 rfl rfl) hl.1 rfl rfl (Nat.le_of_ble_eq_true rfl) dX7_night_8 ⟨Nat.le_refl _, Nat.le_refl _⟩) (fun H locs hP hD hS => ?_)
  refine lv_aload_n hx hb dX7_night_11 rfl (lv_at hl 0 rfl) ?_
  refine z_get (C := RX7) (T := TX7) (N := 6) (ci := 6) hx hb hts zin_X7 hown hK.1 hP 0 3 rfl rfl (by decide) tw136 rfl rfl dX7_night_12 ?_
  refine lv_aload_n hx hb dX7_night_15 rfl (lv_at hl 0 rfl) ?_
  refine z_get (C := RX7) (T := TX7) (N := 6) (ci := 6) hx hb hts zin_X7 hown hK.1 hP 0 2 rfl rfl (by decide) tw135 rfl rfl dX7_night_16 ?_
  refine lv_iload_n hx hb dX7_night_19 rfl (lv_at hl 1 rfl) ?_
  obtain ⟨v2, f3, hc, h⟩ := zb2_s h
  refine zG_i (w1 := wX6 ct a f3) (ws' := wX7 ct a f3 g1 nx hz sw fl sg pl pa pk pn pf pg) hP hD hS hA [1, 2, 3, 4] [0, 5, 6, 7, 8, 9, 10, 11, 12, 13, 14, 15, 16, 17, 18, 19, 20, 21] [0, 18, 19, 20, 21, 1, 2, 3, 4, 5, 6, 7, 8, 9, 10, 11, 12, 13, 14, 15, 16, 17] rfl rfl (by decide) (by decide) rfl (by decide) (zrV (C := RX6) (As := [.int p1]) (rest := [.ref (a 5)]) hx hb hml hown hts tw487 mv_X6_passNight ⟨Nat.le_of_ble_eq_true rfl, Nat.le_of_ble_eq_true rfl⟩ rfl rfl (ct_X6_passNight l D ct a f _ p1 k v2 f3 hc) (z_wv hK hP hD [1, 2, 3, 4] (by decide) rfl 1 rfl rfl) hl.1 rfl rfl (Nat.le_of_ble_eq_true rfl) dX7_night_20 ⟨Nat.le_refl _, Nat.le_refl _⟩) (fun H locs hP hD hS => ?_)
  obtain ⟨v4, nx5, hz6, hc, h⟩ := zb3_s h
  refine zG_i (w1 := wX2 ct a g1 nx5 hz6) (ws' := wX7 ct a f3 g1 nx5 hz6 sw fl sg pl pa pk pn pf pg) hP hD hS hA [5, 6, 7, 8, 9, 10, 11, 12, 13] [0, 1, 2, 3, 4, 14, 15, 16, 17, 18, 19, 20, 21] [0, 1, 2, 3, 4, 13, 14, 15, 16, 17, 18, 19, 20, 21, 5, 6, 7, 8, 9, 10, 11, 12] rfl rfl (by decide) (by decide) rfl (by decide) (zrV (C := RX2) (As := [.int v2]) (rest := []) hx hb hml hown hts tw290 mv_X2_settle ⟨Nat.le_of_ble_eq_true rfl, Nat.le_of_ble_eq_true rfl⟩ rfl rfl (ct_X2_settle l D ct a g1 nx hz _ v2 k v4 nx5 hz6 hc) (z_wv hK hP hD [5, 6, 7, 8, 9, 10, 11, 12, 13] (by decide) rfl 5 rfl rfl) hl.1 rfl rfl (Nat.le_of_ble_eq_true rfl) dX7_night_23 ⟨Nat.le_refl _, Nat.le_refl _⟩) (fun H locs hP hD hS => ?_)
  cases h
  exact zX_i hx hb hr hlocks hP hD hS hAe dX7_night_26 rfl

def f_X7_undo (k : Nat) (f : Nat → Int32) (g : Nat → Nat → Int32) (nx : Int32) (hz : Int32) : Option (Int32 × (Nat → Int32) × Int32 × Int32) :=
  zb4 (f_X2_goBack k f g nx hz) fun v1 f2 nx3 hz4 =>
  some (v1, f2, nx3, hz4)
set_option maxRecDepth 100000 in
set_option maxHeartbeats 4000000 in
theorem ct_X7_undo (l : Launch) (D : va_G) (ct a : Nat → Nat) (f : Nat → Int32) (g : Nat → Nat → Int32) (nx : Int32) (hz : Int32) (sw : Nat → Nat → Int32) (fl : Nat → Int32) (sg : Nat → Int32) (pl : Int32) (pa : Int32) (pk : Int32) (pn : Nat → Int32) (pf : Int32) (pg : Int32) (sz : Nat) (k : Nat) (r : Int32) (f' : Nat → Int32) (nx' : Int32) (hz' : Int32) (h : f_X7_undo k f g nx hz = some (r, f', nx', hz')) : Met l yX7_undo (Cond.code yX7_undo cX7_undo 1 (some .int) :: zT) ({ frames := 4, cells := 0, slots := 0, locals := 103 } : Room) (va_Pc [.ref (a 0)] (zPW D (zTys ct) (wX7 ct a f g nx hz sw fl sg pl pa pk pn pf pg) sz)) (va_Qi (fun r' (_ : Unit) => r' = r) (zQW D (wX7 ct a f g nx hz sw fl sg pl pa pk pn pf pg) sz (wX7 ct a f' g nx' hz' sw fl sg pl pa pk pn pf pg)) (va_A (wX7 ct a f g nx hz sw fl sg pl pa pk pn pf pg) sz)) 0 0 (va_A (wX7 ct a f g nx hz sw fl sg pl pa pk pn pf pg) sz) := by
  refine zMet (cc := cX7_undo) (maxL := 1) (ret := (some .int)) (av := [.ref (a 0)]) (by decide) (Nat.le_of_ble_eq_true rfl) (fun p e s m below meth c ls hx hb hr hml hts hown hlocks hin hB hl => ?_)
  have hl : lv_has ls 1 [(0, .ref (a 0))] := hl
  have hown : s.vm.findClass RX7 = some m.cls := hown
  obtain ⟨hsz, hP, hK, hD0⟩ := hB
  subst hsz
  have hD := hD0.self (sz := s.heap.size)
  obtain ⟨A, hAe⟩ : ∃ A, A = va_A (wX7 ct a f g nx hz sw fl sg pl pa pk pn pf pg) s.heap.size := ⟨_, rfl⟩
  rw [← hAe] at hD
  have hA : ∀ q : Nat, s.heap.size ≤ q → A q := fun q h => by rw [hAe]; exact Or.inr h
  have hS : va_S A s.heap s.heap [] := va_S.rf
  rw [f_X7_undo] at h
  refine lv_aload_n hx hb dX7_undo_0 rfl (lv_at hl 0 rfl) ?_
  refine z_get (C := RX7) (T := TX7) (N := 6) (ci := 6) hx hb hts zin_X7 hown hK.1 hP 0 3 rfl rfl (by decide) tw136 rfl rfl dX7_undo_1 ?_
  refine lv_aload_n hx hb dX7_undo_4 rfl (lv_at hl 0 rfl) ?_
  refine z_get (C := RX7) (T := TX7) (N := 6) (ci := 6) hx hb hts zin_X7 hown hK.1 hP 0 0 rfl rfl (by decide) tw133 rfl rfl dX7_undo_5 ?_
  obtain ⟨v1, f2, nx3, hz4, hc, h⟩ := zb4_s h
  refine zG_i (w1 := (wX2 ct a g nx3 hz4 ++ wX5 ct a f2)) (ws' := wX7 ct a f2 g nx3 hz4 sw fl sg pl pa pk pn pf pg) hP hD hS hA [5, 6, 7, 8, 9, 10, 11, 12, 13, 3, 4] [0, 1, 2, 14, 15, 16, 17, 18, 19, 20, 21] [0, 1, 2, 20, 21, 11, 12, 13, 14, 15, 16, 17, 18, 19, 3, 4, 5, 6, 7, 8, 9, 10] rfl rfl (by decide) (by decide) rfl (by decide) (zrV (C := RX2) (As := [.ref (a 3)]) (rest := []) hx hb hml hown hts tw232 mv_X2_goBack ⟨Nat.le_of_ble_eq_true rfl, Nat.le_of_ble_eq_true rfl⟩ rfl rfl (ct_X2_goBack l D ct a g nx hz f _  k v1 f2 nx3 hz4 hc) (z_wv hK hP hD [5, 6, 7, 8, 9, 10, 11, 12, 13, 3, 4] (by decide) rfl 5 rfl rfl) hl.1 rfl rfl (Nat.le_of_ble_eq_true rfl) dX7_undo_8 ⟨Nat.le_refl _, Nat.le_refl _⟩) (fun H locs hP hD hS => ?_)
  cases h
  exact zX_i hx hb hr hlocks hP hD hS hAe dX7_undo_11 rfl

