/-! written by wip/whole/gen.py: each method as a function, and its contract -/
def f_X7_set (k : Nat) (f : Nat → Int32) (g : Nat → Nat → Int32) (nx : Int32) (hz : Int32) (p1 : Int32) (p2 : Int32) : Option (Int32 × (Nat → Int32) × (Nat → Nat → Int32) × Int32 × Int32) :=
  zb1 (f_X2_note k f g nx) fun g1 =>
  zb2 (f_X6_changeSetting k f p1 p2) fun v2 f3 =>
  zb3 (f_X2_settle k nx hz v2) fun v4 nx5 hz6 =>
  some (v4, f3, g1, nx5, hz6)
set_option maxRecDepth 100000 in
set_option maxHeartbeats 4000000 in
theorem ct_X7_set (l : Launch) (D : va_G) (ct a st : Nat → Nat) (f : Nat → Int32) (g : Nat → Nat → Int32) (nx : Int32) (hz : Int32) (sw : Nat → Nat → Int32) (fl : Nat → Int32) (sg : Nat → Int32) (pl : Int32) (pa : Int32) (pk : Int32) (pn : Nat → Int32) (pf : Int32) (pg : Int32) (sz : Nat) (p1 : Int32) (p2 : Int32) (k : Nat) (r : Int32) (f' : Nat → Int32) (g' : Nat → Nat → Int32) (nx' : Int32) (hz' : Int32) (h : f_X7_set k f g nx hz p1 p2 = some (r, f', g', nx', hz')) : Met l yX7_set (Cond.code yX7_set cX7_set 3 (some .int) :: zT) ({ frames := 4, cells := 0, slots := 0, locals := 103 } : Room) (va_Pc [.ref (a 0), .int p1, .int p2] (zPZ D (zTys ct) st (wX7 ct a f g nx hz sw fl sg pl pa pk pn pf pg) sz)) (va_Qi (fun r' (_ : Unit) => r' = r) (zQW D (wX7 ct a f g nx hz sw fl sg pl pa pk pn pf pg) sz (wX7 ct a f' g' nx' hz' sw fl sg pl pa pk pn pf pg)) (va_A (wX7 ct a f g nx hz sw fl sg pl pa pk pn pf pg) sz)) 0 0 (va_A (wX7 ct a f g nx hz sw fl sg pl pa pk pn pf pg) sz) := by
  refine zMet (cc := cX7_set) (maxL := 3) (ret := (some .int)) (av := [.ref (a 0), .int p1, .int p2]) (by decide) (Nat.le_of_ble_eq_true rfl) (fun p e s m below meth c ls hx hb hr hml hts hown hlocks hin hB hl => ?_)
  have hl : lv_has ls 3 [(0, .ref (a 0)), (1, .int p1), (2, .int p2)] := hl
  have hown : s.vm.findClass RX7 = some m.cls := hown
  obtain ⟨⟨hsz, hP, hK, hD0⟩, hZ⟩ := hB
  subst hsz
  have hD := hD0.self (sz := s.heap.size)
  obtain ⟨A, hAe⟩ : ∃ A, A = va_A (wX7 ct a f g nx hz sw fl sg pl pa pk pn pf pg) s.heap.size := ⟨_, rfl⟩
  rw [← hAe] at hD hZ
  have hA : ∀ q : Nat, s.heap.size ≤ q → A q := fun q h => by rw [hAe]; exact Or.inr h
  have hS : va_S A s.heap s.heap [] := va_S.rf
  rw [f_X7_set] at h
  refine lv_aload_n hx hb dX7_set_0 rfl (lv_at hl 0 rfl) ?_
  refine z_get (C := RX7) (T := TX7) (N := 6) (ci := 6) hx hb hts zin_X7 hown hK.1 hP 0 3 rfl rfl (by decide) tw191 rfl rfl dX7_set_1 ?_
  refine lv_aload_n hx hb dX7_set_4 rfl (lv_at hl 0 rfl) ?_
  refine z_get (C := RX7) (T := TX7) (N := 6) (ci := 6) hx hb hts zin_X7 hown hK.1 hP 0 0 rfl rfl (by decide) tw188 rfl rfl dX7_set_5 ?_
  obtain ⟨g1, hc, h⟩ := zb1_s h
  refine zG_v (w1 := (wX2 ct a g1 nx hz ++ wX5 ct a f)) (ws' := wX7 ct a f g1 nx hz sw fl sg pl pa pk pn pf pg) hP hD hS hA [5, 6, 7, 8, 9, 10, 11, 12, 13, 3, 4] [0, 1, 2, 14, 15, 16, 17, 18, 19, 20, 21] [0, 1, 2, 20, 21, 11, 12, 13, 14, 15, 16, 17, 18, 19, 3, 4, 5, 6, 7, 8, 9, 10] rfl rfl (by decide) (by decide) rfl (by decide) (zrV (C := RX2) (As := [.ref (a 3)]) (rest := []) hx hb hml hown hts tw211 mv_X2_note ⟨Nat.le_of_ble_eq_true rfl, Nat.le_of_ble_eq_true rfl⟩ rfl rfl (ct_X2_note l D ct a g nx hz f _  k g1 hc) (z_wv hK hP hD [5, 6, 7, 8, 9, 10, 11, 12, 13, 3, 4] (by decide) rfl 5 rfl rfl) hl.1 rfl rfl (Nat.le_of_ble_eq_true rfl) dX7_set_8 ⟨Nat.le_refl _, Nat.le_refl _⟩) (fun H locs hP hD hS => ?_)
  refine lv_aload_n hx hb dX7_set_11 rfl (lv_at hl 0 rfl) ?_
  refine z_get (C := RX7) (T := TX7) (N := 6) (ci := 6) hx hb hts zin_X7 hown hK.1 hP 0 3 rfl rfl (by decide) tw191 rfl rfl dX7_set_12 ?_
  refine lv_aload_n hx hb dX7_set_15 rfl (lv_at hl 0 rfl) ?_
  refine z_get (C := RX7) (T := TX7) (N := 6) (ci := 6) hx hb hts zin_X7 hown hK.1 hP 0 2 rfl rfl (by decide) tw190 rfl rfl dX7_set_16 ?_
  refine lv_iload_n hx hb dX7_set_19 rfl (lv_at hl 1 rfl) ?_
  refine lv_iload_n hx hb dX7_set_20 rfl (lv_at hl 2 rfl) ?_
  obtain ⟨v2, f3, hc, h⟩ := zb2_s h
  refine zG_i (w1 := wX6 ct a f3) (ws' := wX7 ct a f3 g1 nx hz sw fl sg pl pa pk pn pf pg) hP hD hS hA [1, 2, 3, 4] [0, 5, 6, 7, 8, 9, 10, 11, 12, 13, 14, 15, 16, 17, 18, 19, 20, 21] [0, 18, 19, 20, 21, 1, 2, 3, 4, 5, 6, 7, 8, 9, 10, 11, 12, 13, 14, 15, 16, 17] rfl rfl (by decide) (by decide) rfl (by decide) (zrV (C := RX6) (As := [.int p1, .int p2]) (rest := [.ref (a 5)]) hx hb hml hown hts tw229 mv_X6_changeSetting ⟨Nat.le_of_ble_eq_true rfl, Nat.le_of_ble_eq_true rfl⟩ rfl rfl (ct_X6_changeSetting l D ct a st f _ p1 p2 k v2 f3 hc) (z_zv hZ hK hP hD hS hA [1, 2, 3, 4] (by decide) rfl 1 rfl rfl) hl.1 rfl rfl (Nat.le_of_ble_eq_true rfl) dX7_set_21 ⟨Nat.le_refl _, Nat.le_refl _⟩) (fun H locs hP hD hS => ?_)
  obtain ⟨v4, nx5, hz6, hc, h⟩ := zb3_s h
  refine zG_i (w1 := wX2 ct a g1 nx5 hz6) (ws' := wX7 ct a f3 g1 nx5 hz6 sw fl sg pl pa pk pn pf pg) hP hD hS hA [5, 6, 7, 8, 9, 10, 11, 12, 13] [0, 1, 2, 3, 4, 14, 15, 16, 17, 18, 19, 20, 21] [0, 1, 2, 3, 4, 13, 14, 15, 16, 17, 18, 19, 20, 21, 5, 6, 7, 8, 9, 10, 11, 12] rfl rfl (by decide) (by decide) rfl (by decide) (zrV (C := RX2) (As := [.int v2]) (rest := []) hx hb hml hown hts tw242 mv_X2_settle ⟨Nat.le_of_ble_eq_true rfl, Nat.le_of_ble_eq_true rfl⟩ rfl rfl (ct_X2_settle l D ct a g1 nx hz _ v2 k v4 nx5 hz6 hc) (z_wv hK hP hD [5, 6, 7, 8, 9, 10, 11, 12, 13] (by decide) rfl 5 rfl rfl) hl.1 rfl rfl (Nat.le_of_ble_eq_true rfl) dX7_set_24 ⟨Nat.le_refl _, Nat.le_refl _⟩) (fun H locs hP hD hS => ?_)
  cases h
  exact zX_i hx hb hr hlocks hP hD hS hAe dX7_set_27 rfl

def f_X7_quarry (k : Nat) (f : Nat → Int32) (g : Nat → Nat → Int32) (nx : Int32) (hz : Int32) (p1 : Int32) (p2 : Int32) (p3 : Int32) (p4 : Int32) : Option (Int32 × (Nat → Int32) × (Nat → Nat → Int32) × Int32 × Int32) :=
  zb1 (f_X2_note k f g nx) fun g1 =>
  zb2 (f_X6_quarryBlock k f p1 p2 p3 p4) fun v2 f3 =>
  zb3 (f_X2_settle k nx hz v2) fun v4 nx5 hz6 =>
  some (v4, f3, g1, nx5, hz6)
set_option maxRecDepth 100000 in
set_option maxHeartbeats 4000000 in
theorem ct_X7_quarry (l : Launch) (D : va_G) (ct a : Nat → Nat) (f : Nat → Int32) (g : Nat → Nat → Int32) (nx : Int32) (hz : Int32) (sw : Nat → Nat → Int32) (fl : Nat → Int32) (sg : Nat → Int32) (pl : Int32) (pa : Int32) (pk : Int32) (pn : Nat → Int32) (pf : Int32) (pg : Int32) (sz : Nat) (p1 : Int32) (p2 : Int32) (p3 : Int32) (p4 : Int32) (k : Nat) (r : Int32) (f' : Nat → Int32) (g' : Nat → Nat → Int32) (nx' : Int32) (hz' : Int32) (h : f_X7_quarry k f g nx hz p1 p2 p3 p4 = some (r, f', g', nx', hz')) : Met l yX7_quarry (Cond.code yX7_quarry cX7_quarry 5 (some .int) :: zT) ({ frames := 4, cells := 0, slots := 0, locals := 103 } : Room) (va_Pc [.ref (a 0), .int p1, .int p2, .int p3, .int p4] (zPW D (zTys ct) (wX7 ct a f g nx hz sw fl sg pl pa pk pn pf pg) sz)) (va_Qi (fun r' (_ : Unit) => r' = r) (zQW D (wX7 ct a f g nx hz sw fl sg pl pa pk pn pf pg) sz (wX7 ct a f' g' nx' hz' sw fl sg pl pa pk pn pf pg)) (va_A (wX7 ct a f g nx hz sw fl sg pl pa pk pn pf pg) sz)) 0 0 (va_A (wX7 ct a f g nx hz sw fl sg pl pa pk pn pf pg) sz) := by
  refine zMet (cc := cX7_quarry) (maxL := 5) (ret := (some .int)) (av := [.ref (a 0), .int p1, .int p2, .int p3, .int p4]) (by decide) (Nat.le_of_ble_eq_true rfl) (fun p e s m below meth c ls hx hb hr hml hts hown hlocks hin hB hl => ?_)
  have hl : lv_has ls 5 [(0, .ref (a 0)), (1, .int p1), (2, .int p2), (3, .int p3), (4, .int p4)] := hl
  have hown : s.vm.findClass RX7 = some m.cls := hown
  obtain ⟨hsz, hP, hK, hD0⟩ := hB
  subst hsz
  have hD := hD0.self (sz := s.heap.size)
  obtain ⟨A, hAe⟩ : ∃ A, A = va_A (wX7 ct a f g nx hz sw fl sg pl pa pk pn pf pg) s.heap.size := ⟨_, rfl⟩
  rw [← hAe] at hD
  have hA : ∀ q : Nat, s.heap.size ≤ q → A q := fun q h => by rw [hAe]; exact Or.inr h
  have hS : va_S A s.heap s.heap [] := va_S.rf
  rw [f_X7_quarry] at h
  refine lv_aload_n hx hb dX7_quarry_0 rfl (lv_at hl 0 rfl) ?_
  refine z_get (C := RX7) (T := TX7) (N := 6) (ci := 6) hx hb hts zin_X7 hown hK.1 hP 0 3 rfl rfl (by decide) tw191 rfl rfl dX7_quarry_1 ?_
  refine lv_aload_n hx hb dX7_quarry_4 rfl (lv_at hl 0 rfl) ?_
  refine z_get (C := RX7) (T := TX7) (N := 6) (ci := 6) hx hb hts zin_X7 hown hK.1 hP 0 0 rfl rfl (by decide) tw188 rfl rfl dX7_quarry_5 ?_
  obtain ⟨g1, hc, h⟩ := zb1_s h
  refine zG_v (w1 := (wX2 ct a g1 nx hz ++ wX5 ct a f)) (ws' := wX7 ct a f g1 nx hz sw fl sg pl pa pk pn pf pg) hP hD hS hA [5, 6, 7, 8, 9, 10, 11, 12, 13, 3, 4] [0, 1, 2, 14, 15, 16, 17, 18, 19, 20, 21] [0, 1, 2, 20, 21, 11, 12, 13, 14, 15, 16, 17, 18, 19, 3, 4, 5, 6, 7, 8, 9, 10] rfl rfl (by decide) (by decide) rfl (by decide) (zrV (C := RX2) (As := [.ref (a 3)]) (rest := []) hx hb hml hown hts tw211 mv_X2_note ⟨Nat.le_of_ble_eq_true rfl, Nat.le_of_ble_eq_true rfl⟩ rfl rfl (ct_X2_note l D ct a g nx hz f _  k g1 hc) (z_wv hK hP hD [5, 6, 7, 8, 9, 10, 11, 12, 13, 3, 4] (by decide) rfl 5 rfl rfl) hl.1 rfl rfl (Nat.le_of_ble_eq_true rfl) dX7_quarry_8 ⟨Nat.le_refl _, Nat.le_refl _⟩) (fun H locs hP hD hS => ?_)
  refine lv_aload_n hx hb dX7_quarry_11 rfl (lv_at hl 0 rfl) ?_
  refine z_get (C := RX7) (T := TX7) (N := 6) (ci := 6) hx hb hts zin_X7 hown hK.1 hP 0 3 rfl rfl (by decide) tw191 rfl rfl dX7_quarry_12 ?_
  refine lv_aload_n hx hb dX7_quarry_15 rfl (lv_at hl 0 rfl) ?_
  refine z_get (C := RX7) (T := TX7) (N := 6) (ci := 6) hx hb hts zin_X7 hown hK.1 hP 0 2 rfl rfl (by decide) tw190 rfl rfl dX7_quarry_16 ?_
  refine lv_iload_n hx hb dX7_quarry_19 rfl (lv_at hl 1 rfl) ?_
  refine lv_iload_n hx hb dX7_quarry_20 rfl (lv_at hl 2 rfl) ?_
  refine lv_iload_n hx hb dX7_quarry_21 rfl (lv_at hl 3 rfl) ?_
  refine lv_iload hx hb dX7_quarry_22 (lv_at hl 4 rfl) ?_
  obtain ⟨v2, f3, hc, h⟩ := zb2_s h
  refine zG_i (w1 := wX6 ct a f3) (ws' := wX7 ct a f3 g1 nx hz sw fl sg pl pa pk pn pf pg) hP hD hS hA [1, 2, 3, 4] [0, 5, 6, 7, 8, 9, 10, 11, 12, 13, 14, 15, 16, 17, 18, 19, 20, 21] [0, 18, 19, 20, 21, 1, 2, 3, 4, 5, 6, 7, 8, 9, 10, 11, 12, 13, 14, 15, 16, 17] rfl rfl (by decide) (by decide) rfl (by decide) (zrV (C := RX6) (As := [.int p1, .int p2, .int p3, .int p4]) (rest := [.ref (a 5)]) hx hb hml hown hts tw253 mv_X6_quarryBlock ⟨Nat.le_of_ble_eq_true rfl, Nat.le_of_ble_eq_true rfl⟩ rfl rfl (ct_X6_quarryBlock l D ct a f _ p1 p2 p3 p4 k v2 f3 hc) (z_wv hK hP hD [1, 2, 3, 4] (by decide) rfl 1 rfl rfl) hl.1 rfl rfl (Nat.le_of_ble_eq_true rfl) dX7_quarry_24 ⟨Nat.le_refl _, Nat.le_refl _⟩) (fun H locs hP hD hS => ?_)
  obtain ⟨v4, nx5, hz6, hc, h⟩ := zb3_s h
  refine zG_i (w1 := wX2 ct a g1 nx5 hz6) (ws' := wX7 ct a f3 g1 nx5 hz6 sw fl sg pl pa pk pn pf pg) hP hD hS hA [5, 6, 7, 8, 9, 10, 11, 12, 13] [0, 1, 2, 3, 4, 14, 15, 16, 17, 18, 19, 20, 21] [0, 1, 2, 3, 4, 13, 14, 15, 16, 17, 18, 19, 20, 21, 5, 6, 7, 8, 9, 10, 11, 12] rfl rfl (by decide) (by decide) rfl (by decide) (zrV (C := RX2) (As := [.int v2]) (rest := []) hx hb hml hown hts tw242 mv_X2_settle ⟨Nat.le_of_ble_eq_true rfl, Nat.le_of_ble_eq_true rfl⟩ rfl rfl (ct_X2_settle l D ct a g1 nx hz _ v2 k v4 nx5 hz6 hc) (z_wv hK hP hD [5, 6, 7, 8, 9, 10, 11, 12, 13] (by decide) rfl 5 rfl rfl) hl.1 rfl rfl (Nat.le_of_ble_eq_true rfl) dX7_quarry_27 ⟨Nat.le_refl _, Nat.le_refl _⟩) (fun H locs hP hD hS => ?_)
  cases h
  exact zX_i hx hb hr hlocks hP hD hS hAe dX7_quarry_30 rfl

def f_X7_cut (k : Nat) (f : Nat → Int32) (g : Nat → Nat → Int32) (nx : Int32) (hz : Int32) (p1 : Int32) (p2 : Int32) (p3 : Int32) : Option (Int32 × (Nat → Int32) × (Nat → Nat → Int32) × Int32 × Int32) :=
  zb1 (f_X2_note k f g nx) fun g1 =>
  zb2 (f_X6_cutBlock k f p1 p2 p3) fun v2 f3 =>
  zb3 (f_X2_settle k nx hz v2) fun v4 nx5 hz6 =>
  some (v4, f3, g1, nx5, hz6)
set_option maxRecDepth 100000 in
set_option maxHeartbeats 4000000 in
theorem ct_X7_cut (l : Launch) (D : va_G) (ct a : Nat → Nat) (f : Nat → Int32) (g : Nat → Nat → Int32) (nx : Int32) (hz : Int32) (sw : Nat → Nat → Int32) (fl : Nat → Int32) (sg : Nat → Int32) (pl : Int32) (pa : Int32) (pk : Int32) (pn : Nat → Int32) (pf : Int32) (pg : Int32) (sz : Nat) (p1 : Int32) (p2 : Int32) (p3 : Int32) (k : Nat) (r : Int32) (f' : Nat → Int32) (g' : Nat → Nat → Int32) (nx' : Int32) (hz' : Int32) (h : f_X7_cut k f g nx hz p1 p2 p3 = some (r, f', g', nx', hz')) : Met l yX7_cut (Cond.code yX7_cut cX7_cut 4 (some .int) :: zT) ({ frames := 5, cells := 0, slots := 0, locals := 124 } : Room) (va_Pc [.ref (a 0), .int p1, .int p2, .int p3] (zPW D (zTys ct) (wX7 ct a f g nx hz sw fl sg pl pa pk pn pf pg) sz)) (va_Qi (fun r' (_ : Unit) => r' = r) (zQW D (wX7 ct a f g nx hz sw fl sg pl pa pk pn pf pg) sz (wX7 ct a f' g' nx' hz' sw fl sg pl pa pk pn pf pg)) (va_A (wX7 ct a f g nx hz sw fl sg pl pa pk pn pf pg) sz)) 0 0 (va_A (wX7 ct a f g nx hz sw fl sg pl pa pk pn pf pg) sz) := by
  refine zMet (cc := cX7_cut) (maxL := 4) (ret := (some .int)) (av := [.ref (a 0), .int p1, .int p2, .int p3]) (by decide) (Nat.le_of_ble_eq_true rfl) (fun p e s m below meth c ls hx hb hr hml hts hown hlocks hin hB hl => ?_)
  have hl : lv_has ls 4 [(0, .ref (a 0)), (1, .int p1), (2, .int p2), (3, .int p3)] := hl
  have hown : s.vm.findClass RX7 = some m.cls := hown
  obtain ⟨hsz, hP, hK, hD0⟩ := hB
  subst hsz
  have hD := hD0.self (sz := s.heap.size)
  obtain ⟨A, hAe⟩ : ∃ A, A = va_A (wX7 ct a f g nx hz sw fl sg pl pa pk pn pf pg) s.heap.size := ⟨_, rfl⟩
  rw [← hAe] at hD
  have hA : ∀ q : Nat, s.heap.size ≤ q → A q := fun q h => by rw [hAe]; exact Or.inr h
  have hS : va_S A s.heap s.heap [] := va_S.rf
  rw [f_X7_cut] at h
  refine lv_aload_n hx hb dX7_cut_0 rfl (lv_at hl 0 rfl) ?_
  refine z_get (C := RX7) (T := TX7) (N := 6) (ci := 6) hx hb hts zin_X7 hown hK.1 hP 0 3 rfl rfl (by decide) tw191 rfl rfl dX7_cut_1 ?_
  refine lv_aload_n hx hb dX7_cut_4 rfl (lv_at hl 0 rfl) ?_
  refine z_get (C := RX7) (T := TX7) (N := 6) (ci := 6) hx hb hts zin_X7 hown hK.1 hP 0 0 rfl rfl (by decide) tw188 rfl rfl dX7_cut_5 ?_
  obtain ⟨g1, hc, h⟩ := zb1_s h
  refine zG_v (w1 := (wX2 ct a g1 nx hz ++ wX5 ct a f)) (ws' := wX7 ct a f g1 nx hz sw fl sg pl pa pk pn pf pg) hP hD hS hA [5, 6, 7, 8, 9, 10, 11, 12, 13, 3, 4] [0, 1, 2, 14, 15, 16, 17, 18, 19, 20, 21] [0, 1, 2, 20, 21, 11, 12, 13, 14, 15, 16, 17, 18, 19, 3, 4, 5, 6, 7, 8, 9, 10] rfl rfl (by decide) (by decide) rfl (by decide) (zrV (C := RX2) (As := [.ref (a 3)]) (rest := []) hx hb hml hown hts tw211 mv_X2_note ⟨Nat.le_of_ble_eq_true rfl, Nat.le_of_ble_eq_true rfl⟩ rfl rfl (ct_X2_note l D ct a g nx hz f _  k g1 hc) (z_wv hK hP hD [5, 6, 7, 8, 9, 10, 11, 12, 13, 3, 4] (by decide) rfl 5 rfl rfl) hl.1 rfl rfl (Nat.le_of_ble_eq_true rfl) dX7_cut_8 ⟨Nat.le_refl _, Nat.le_refl _⟩) (fun H locs hP hD hS => ?_)
  refine lv_aload_n hx hb dX7_cut_11 rfl (lv_at hl 0 rfl) ?_
  refine z_get (C := RX7) (T := TX7) (N := 6) (ci := 6) hx hb hts zin_X7 hown hK.1 hP 0 3 rfl rfl (by decide) tw191 rfl rfl dX7_cut_12 ?_
  refine lv_aload_n hx hb dX7_cut_15 rfl (lv_at hl 0 rfl) ?_
  refine z_get (C := RX7) (T := TX7) (N := 6) (ci := 6) hx hb hts zin_X7 hown hK.1 hP 0 2 rfl rfl (by decide) tw190 rfl rfl dX7_cut_16 ?_
  refine lv_iload_n hx hb dX7_cut_19 rfl (lv_at hl 1 rfl) ?_
  refine lv_iload_n hx hb dX7_cut_20 rfl (lv_at hl 2 rfl) ?_
  refine lv_iload_n hx hb dX7_cut_21 rfl (lv_at hl 3 rfl) ?_
  obtain ⟨v2, f3, hc, h⟩ := zb2_s h
  refine zG_i (w1 := wX6 ct a f3) (ws' := wX7 ct a f3 g1 nx hz sw fl sg pl pa pk pn pf pg) hP hD hS hA [1, 2, 3, 4] [0, 5, 6, 7, 8, 9, 10, 11, 12, 13, 14, 15, 16, 17, 18, 19, 20, 21] [0, 18, 19, 20, 21, 1, 2, 3, 4, 5, 6, 7, 8, 9, 10, 11, 12, 13, 14, 15, 16, 17] rfl rfl (by decide) (by decide) rfl (by decide) (zrV (C := RX6) (As := [.int p1, .int p2, .int p3]) (rest := [.ref (a 5)]) hx hb hml hown hts tw272 mv_X6_cutBlock ⟨Nat.le_of_ble_eq_true rfl, Nat.le_of_ble_eq_true rfl⟩ rfl rfl (ct_X6_cutBlock l D ct a f _ p1 p2 p3 k v2 f3 hc) (z_wv hK hP hD [1, 2, 3, 4] (by decide) rfl 1 rfl rfl) hl.1 rfl rfl (Nat.le_of_ble_eq_true rfl) dX7_cut_22 ⟨Nat.le_refl _, Nat.le_refl _⟩) (fun H locs hP hD hS => ?_)
  obtain ⟨v4, nx5, hz6, hc, h⟩ := zb3_s h
  refine zG_i (w1 := wX2 ct a g1 nx5 hz6) (ws' := wX7 ct a f3 g1 nx5 hz6 sw fl sg pl pa pk pn pf pg) hP hD hS hA [5, 6, 7, 8, 9, 10, 11, 12, 13] [0, 1, 2, 3, 4, 14, 15, 16, 17, 18, 19, 20, 21] [0, 1, 2, 3, 4, 13, 14, 15, 16, 17, 18, 19, 20, 21, 5, 6, 7, 8, 9, 10, 11, 12] rfl rfl (by decide) (by decide) rfl (by decide) (zrV (C := RX2) (As := [.int v2]) (rest := []) hx hb hml hown hts tw242 mv_X2_settle ⟨Nat.le_of_ble_eq_true rfl, Nat.le_of_ble_eq_true rfl⟩ rfl rfl (ct_X2_settle l D ct a g1 nx hz _ v2 k v4 nx5 hz6 hc) (z_wv hK hP hD [5, 6, 7, 8, 9, 10, 11, 12, 13] (by decide) rfl 5 rfl rfl) hl.1 rfl rfl (Nat.le_of_ble_eq_true rfl) dX7_cut_25 ⟨Nat.le_refl _, Nat.le_refl _⟩) (fun H locs hP hD hS => ?_)
  cases h
  exact zX_i hx hb hr hlocks hP hD hS hAe dX7_cut_28 rfl

def f_X7_shelter (k : Nat) (f : Nat → Int32) (g : Nat → Nat → Int32) (nx : Int32) (hz : Int32) (p1 : Int32) : Option (Int32 × (Nat → Int32) × (Nat → Nat → Int32) × Int32 × Int32) :=
  zb1 (f_X2_note k f g nx) fun g1 =>
  zb2 (f_X6_moveBlock k f p1) fun v2 f3 =>
  zb3 (f_X2_settle k nx hz v2) fun v4 nx5 hz6 =>
  some (v4, f3, g1, nx5, hz6)
set_option maxRecDepth 100000 in
set_option maxHeartbeats 4000000 in
theorem ct_X7_shelter (l : Launch) (D : va_G) (ct a : Nat → Nat) (f : Nat → Int32) (g : Nat → Nat → Int32) (nx : Int32) (hz : Int32) (sw : Nat → Nat → Int32) (fl : Nat → Int32) (sg : Nat → Int32) (pl : Int32) (pa : Int32) (pk : Int32) (pn : Nat → Int32) (pf : Int32) (pg : Int32) (sz : Nat) (p1 : Int32) (k : Nat) (r : Int32) (f' : Nat → Int32) (g' : Nat → Nat → Int32) (nx' : Int32) (hz' : Int32) (h : f_X7_shelter k f g nx hz p1 = some (r, f', g', nx', hz')) : Met l yX7_shelter (Cond.code yX7_shelter cX7_shelter 2 (some .int) :: zT) ({ frames := 4, cells := 0, slots := 0, locals := 103 } : Room) (va_Pc [.ref (a 0), .int p1] (zPW D (zTys ct) (wX7 ct a f g nx hz sw fl sg pl pa pk pn pf pg) sz)) (va_Qi (fun r' (_ : Unit) => r' = r) (zQW D (wX7 ct a f g nx hz sw fl sg pl pa pk pn pf pg) sz (wX7 ct a f' g' nx' hz' sw fl sg pl pa pk pn pf pg)) (va_A (wX7 ct a f g nx hz sw fl sg pl pa pk pn pf pg) sz)) 0 0 (va_A (wX7 ct a f g nx hz sw fl sg pl pa pk pn pf pg) sz) := by
  refine zMet (cc := cX7_shelter) (maxL := 2) (ret := (some .int)) (av := [.ref (a 0), .int p1]) (by decide) (Nat.le_of_ble_eq_true rfl) (fun p e s m below meth c ls hx hb hr hml hts hown hlocks hin hB hl => ?_)
  have hl : lv_has ls 2 [(0, .ref (a 0)), (1, .int p1)] := hl
  have hown : s.vm.findClass RX7 = some m.cls := hown
  obtain ⟨hsz, hP, hK, hD0⟩ := hB
  subst hsz
  have hD := hD0.self (sz := s.heap.size)
  obtain ⟨A, hAe⟩ : ∃ A, A = va_A (wX7 ct a f g nx hz sw fl sg pl pa pk pn pf pg) s.heap.size := ⟨_, rfl⟩
  rw [← hAe] at hD
  have hA : ∀ q : Nat, s.heap.size ≤ q → A q := fun q h => by rw [hAe]; exact Or.inr h
  have hS : va_S A s.heap s.heap [] := va_S.rf
  rw [f_X7_shelter] at h
  refine lv_aload_n hx hb dX7_shelter_0 rfl (lv_at hl 0 rfl) ?_
  refine z_get (C := RX7) (T := TX7) (N := 6) (ci := 6) hx hb hts zin_X7 hown hK.1 hP 0 3 rfl rfl (by decide) tw191 rfl rfl dX7_shelter_1 ?_
  refine lv_aload_n hx hb dX7_shelter_4 rfl (lv_at hl 0 rfl) ?_
  refine z_get (C := RX7) (T := TX7) (N := 6) (ci := 6) hx hb hts zin_X7 hown hK.1 hP 0 0 rfl rfl (by decide) tw188 rfl rfl dX7_shelter_5 ?_
  obtain ⟨g1, hc, h⟩ := zb1_s h
  refine zG_v (w1 := (wX2 ct a g1 nx hz ++ wX5 ct a f)) (ws' := wX7 ct a f g1 nx hz sw fl sg pl pa pk pn pf pg) hP hD hS hA [5, 6, 7, 8, 9, 10, 11, 12, 13, 3, 4] [0, 1, 2, 14, 15, 16, 17, 18, 19, 20, 21] [0, 1, 2, 20, 21, 11, 12, 13, 14, 15, 16, 17, 18, 19, 3, 4, 5, 6, 7, 8, 9, 10] rfl rfl (by decide) (by decide) rfl (by decide) (zrV (C := RX2) (As := [.ref (a 3)]) (rest := []) hx hb hml hown hts tw211 mv_X2_note ⟨Nat.le_of_ble_eq_true rfl, Nat.le_of_ble_eq_true rfl⟩ rfl rfl (ct_X2_note l D ct a g nx hz f _  k g1 hc) (z_wv hK hP hD [5, 6, 7, 8, 9, 10, 11, 12, 13, 3, 4] (by decide) rfl 5 rfl rfl) hl.1 rfl rfl (Nat.le_of_ble_eq_true rfl) dX7_shelter_8 ⟨Nat.le_refl _, Nat.le_refl _⟩) (fun H locs hP hD hS => ?_)
  refine lv_aload_n hx hb dX7_shelter_11 rfl (lv_at hl 0 rfl) ?_
  refine z_get (C := RX7) (T := TX7) (N := 6) (ci := 6) hx hb hts zin_X7 hown hK.1 hP 0 3 rfl rfl (by decide) tw191 rfl rfl dX7_shelter_12 ?_
  refine lv_aload_n hx hb dX7_shelter_15 rfl (lv_at hl 0 rfl) ?_
  refine z_get (C := RX7) (T := TX7) (N := 6) (ci := 6) hx hb hts zin_X7 hown hK.1 hP 0 2 rfl rfl (by decide) tw190 rfl rfl dX7_shelter_16 ?_
  refine lv_iload_n hx hb dX7_shelter_19 rfl (lv_at hl 1 rfl) ?_
  obtain ⟨v2, f3, hc, h⟩ := zb2_s h
  refine zG_i (w1 := wX6 ct a f3) (ws' := wX7 ct a f3 g1 nx hz sw fl sg pl pa pk pn pf pg) hP hD hS hA [1, 2, 3, 4] [0, 5, 6, 7, 8, 9, 10, 11, 12, 13, 14, 15, 16, 17, 18, 19, 20, 21] [0, 18, 19, 20, 21, 1, 2, 3, 4, 5, 6, 7, 8, 9, 10, 11, 12, 13, 14, 15, 16, 17] rfl rfl (by decide) (by decide) rfl (by decide) (zrV (C := RX6) (As := [.int p1]) (rest := [.ref (a 5)]) hx hb hml hown hts tw318 mv_X6_moveBlock ⟨Nat.le_of_ble_eq_true rfl, Nat.le_of_ble_eq_true rfl⟩ rfl rfl (ct_X6_moveBlock l D ct a f _ p1 k v2 f3 hc) (z_wv hK hP hD [1, 2, 3, 4] (by decide) rfl 1 rfl rfl) hl.1 rfl rfl (Nat.le_of_ble_eq_true rfl) dX7_shelter_20 ⟨Nat.le_refl _, Nat.le_refl _⟩) (fun H locs hP hD hS => ?_)
  obtain ⟨v4, nx5, hz6, hc, h⟩ := zb3_s h
  refine zG_i (w1 := wX2 ct a g1 nx5 hz6) (ws' := wX7 ct a f3 g1 nx5 hz6 sw fl sg pl pa pk pn pf pg) hP hD hS hA [5, 6, 7, 8, 9, 10, 11, 12, 13] [0, 1, 2, 3, 4, 14, 15, 16, 17, 18, 19, 20, 21] [0, 1, 2, 3, 4, 13, 14, 15, 16, 17, 18, 19, 20, 21, 5, 6, 7, 8, 9, 10, 11, 12] rfl rfl (by decide) (by decide) rfl (by decide) (zrV (C := RX2) (As := [.int v2]) (rest := []) hx hb hml hown hts tw242 mv_X2_settle ⟨Nat.le_of_ble_eq_true rfl, Nat.le_of_ble_eq_true rfl⟩ rfl rfl (ct_X2_settle l D ct a g1 nx hz _ v2 k v4 nx5 hz6 hc) (z_wv hK hP hD [5, 6, 7, 8, 9, 10, 11, 12, 13] (by decide) rfl 5 rfl rfl) hl.1 rfl rfl (Nat.le_of_ble_eq_true rfl) dX7_shelter_23 ⟨Nat.le_refl _, Nat.le_refl _⟩) (fun H locs hP hD hS => ?_)
  cases h
  exact zX_i hx hb hr hlocks hP hD hS hAe dX7_shelter_26 rfl

def f_X7_order (k : Nat) (f : Nat → Int32) (g : Nat → Nat → Int32) (nx : Int32) (hz : Int32) (p1 : Int32) (p2 : Int32) (p3 : Int32) : Option (Int32 × (Nat → Int32) × (Nat → Nat → Int32) × Int32 × Int32) :=
  zb1 (f_X2_note k f g nx) fun g1 =>
  zb2 (f_X6_takeOrder k f p1 p2 p3) fun v2 f3 =>
  zb3 (f_X2_settle k nx hz v2) fun v4 nx5 hz6 =>
  some (v4, f3, g1, nx5, hz6)
set_option maxRecDepth 100000 in
set_option maxHeartbeats 4000000 in
theorem ct_X7_order (l : Launch) (D : va_G) (ct a : Nat → Nat) (f : Nat → Int32) (g : Nat → Nat → Int32) (nx : Int32) (hz : Int32) (sw : Nat → Nat → Int32) (fl : Nat → Int32) (sg : Nat → Int32) (pl : Int32) (pa : Int32) (pk : Int32) (pn : Nat → Int32) (pf : Int32) (pg : Int32) (sz : Nat) (p1 : Int32) (p2 : Int32) (p3 : Int32) (k : Nat) (r : Int32) (f' : Nat → Int32) (g' : Nat → Nat → Int32) (nx' : Int32) (hz' : Int32) (h : f_X7_order k f g nx hz p1 p2 p3 = some (r, f', g', nx', hz')) : Met l yX7_order (Cond.code yX7_order cX7_order 4 (some .int) :: zT) ({ frames := 4, cells := 0, slots := 0, locals := 103 } : Room) (va_Pc [.ref (a 0), .int p1, .int p2, .int p3] (zPW D (zTys ct) (wX7 ct a f g nx hz sw fl sg pl pa pk pn pf pg) sz)) (va_Qi (fun r' (_ : Unit) => r' = r) (zQW D (wX7 ct a f g nx hz sw fl sg pl pa pk pn pf pg) sz (wX7 ct a f' g' nx' hz' sw fl sg pl pa pk pn pf pg)) (va_A (wX7 ct a f g nx hz sw fl sg pl pa pk pn pf pg) sz)) 0 0 (va_A (wX7 ct a f g nx hz sw fl sg pl pa pk pn pf pg) sz) := by
  refine zMet (cc := cX7_order) (maxL := 4) (ret := (some .int)) (av := [.ref (a 0), .int p1, .int p2, .int p3]) (by decide) (Nat.le_of_ble_eq_true rfl) (fun p e s m below meth c ls hx hb hr hml hts hown hlocks hin hB hl => ?_)
  have hl : lv_has ls 4 [(0, .ref (a 0)), (1, .int p1), (2, .int p2), (3, .int p3)] := hl
  have hown : s.vm.findClass RX7 = some m.cls := hown
  obtain ⟨hsz, hP, hK, hD0⟩ := hB
  subst hsz
  have hD := hD0.self (sz := s.heap.size)
  obtain ⟨A, hAe⟩ : ∃ A, A = va_A (wX7 ct a f g nx hz sw fl sg pl pa pk pn pf pg) s.heap.size := ⟨_, rfl⟩
  rw [← hAe] at hD
  have hA : ∀ q : Nat, s.heap.size ≤ q → A q := fun q h => by rw [hAe]; exact Or.inr h
  have hS : va_S A s.heap s.heap [] := va_S.rf
  rw [f_X7_order] at h
  refine lv_aload_n hx hb dX7_order_0 rfl (lv_at hl 0 rfl) ?_
  refine z_get (C := RX7) (T := TX7) (N := 6) (ci := 6) hx hb hts zin_X7 hown hK.1 hP 0 3 rfl rfl (by decide) tw191 rfl rfl dX7_order_1 ?_
  refine lv_aload_n hx hb dX7_order_4 rfl (lv_at hl 0 rfl) ?_
  refine z_get (C := RX7) (T := TX7) (N := 6) (ci := 6) hx hb hts zin_X7 hown hK.1 hP 0 0 rfl rfl (by decide) tw188 rfl rfl dX7_order_5 ?_
  obtain ⟨g1, hc, h⟩ := zb1_s h
  refine zG_v (w1 := (wX2 ct a g1 nx hz ++ wX5 ct a f)) (ws' := wX7 ct a f g1 nx hz sw fl sg pl pa pk pn pf pg) hP hD hS hA [5, 6, 7, 8, 9, 10, 11, 12, 13, 3, 4] [0, 1, 2, 14, 15, 16, 17, 18, 19, 20, 21] [0, 1, 2, 20, 21, 11, 12, 13, 14, 15, 16, 17, 18, 19, 3, 4, 5, 6, 7, 8, 9, 10] rfl rfl (by decide) (by decide) rfl (by decide) (zrV (C := RX2) (As := [.ref (a 3)]) (rest := []) hx hb hml hown hts tw211 mv_X2_note ⟨Nat.le_of_ble_eq_true rfl, Nat.le_of_ble_eq_true rfl⟩ rfl rfl (ct_X2_note l D ct a g nx hz f _  k g1 hc) (z_wv hK hP hD [5, 6, 7, 8, 9, 10, 11, 12, 13, 3, 4] (by decide) rfl 5 rfl rfl) hl.1 rfl rfl (Nat.le_of_ble_eq_true rfl) dX7_order_8 ⟨Nat.le_refl _, Nat.le_refl _⟩) (fun H locs hP hD hS => ?_)
  refine lv_aload_n hx hb dX7_order_11 rfl (lv_at hl 0 rfl) ?_
  refine z_get (C := RX7) (T := TX7) (N := 6) (ci := 6) hx hb hts zin_X7 hown hK.1 hP 0 3 rfl rfl (by decide) tw191 rfl rfl dX7_order_12 ?_
  refine lv_aload_n hx hb dX7_order_15 rfl (lv_at hl 0 rfl) ?_
  refine z_get (C := RX7) (T := TX7) (N := 6) (ci := 6) hx hb hts zin_X7 hown hK.1 hP 0 2 rfl rfl (by decide) tw190 rfl rfl dX7_order_16 ?_
  refine lv_iload_n hx hb dX7_order_19 rfl (lv_at hl 1 rfl) ?_
  refine lv_iload_n hx hb dX7_order_20 rfl (lv_at hl 2 rfl) ?_
  refine lv_iload_n hx hb dX7_order_21 rfl (lv_at hl 3 rfl) ?_
  obtain ⟨v2, f3, hc, h⟩ := zb2_s h
  refine zG_i (w1 := wX6 ct a f3) (ws' := wX7 ct a f3 g1 nx hz sw fl sg pl pa pk pn pf pg) hP hD hS hA [1, 2, 3, 4] [0, 5, 6, 7, 8, 9, 10, 11, 12, 13, 14, 15, 16, 17, 18, 19, 20, 21] [0, 18, 19, 20, 21, 1, 2, 3, 4, 5, 6, 7, 8, 9, 10, 11, 12, 13, 14, 15, 16, 17] rfl rfl (by decide) (by decide) rfl (by decide) (zrV (C := RX6) (As := [.int p1, .int p2, .int p3]) (rest := [.ref (a 5)]) hx hb hml hown hts tw327 mv_X6_takeOrder ⟨Nat.le_of_ble_eq_true rfl, Nat.le_of_ble_eq_true rfl⟩ rfl rfl (ct_X6_takeOrder l D ct a f _ p1 p2 p3 k v2 f3 hc) (z_wv hK hP hD [1, 2, 3, 4] (by decide) rfl 1 rfl rfl) hl.1 rfl rfl (Nat.le_of_ble_eq_true rfl) dX7_order_22 ⟨Nat.le_refl _, Nat.le_refl _⟩) (fun H locs hP hD hS => ?_)
  obtain ⟨v4, nx5, hz6, hc, h⟩ := zb3_s h
  refine zG_i (w1 := wX2 ct a g1 nx5 hz6) (ws' := wX7 ct a f3 g1 nx5 hz6 sw fl sg pl pa pk pn pf pg) hP hD hS hA [5, 6, 7, 8, 9, 10, 11, 12, 13] [0, 1, 2, 3, 4, 14, 15, 16, 17, 18, 19, 20, 21] [0, 1, 2, 3, 4, 13, 14, 15, 16, 17, 18, 19, 20, 21, 5, 6, 7, 8, 9, 10, 11, 12] rfl rfl (by decide) (by decide) rfl (by decide) (zrV (C := RX2) (As := [.int v2]) (rest := []) hx hb hml hown hts tw242 mv_X2_settle ⟨Nat.le_of_ble_eq_true rfl, Nat.le_of_ble_eq_true rfl⟩ rfl rfl (ct_X2_settle l D ct a g1 nx hz _ v2 k v4 nx5 hz6 hc) (z_wv hK hP hD [5, 6, 7, 8, 9, 10, 11, 12, 13] (by decide) rfl 5 rfl rfl) hl.1 rfl rfl (Nat.le_of_ble_eq_true rfl) dX7_order_25 ⟨Nat.le_refl _, Nat.le_refl _⟩) (fun H locs hP hD hS => ?_)
  cases h
  exact zX_i hx hb hr hlocks hP hD hS hAe dX7_order_28 rfl

def f_X7_give (k : Nat) (f : Nat → Int32) (g : Nat → Nat → Int32) (nx : Int32) (hz : Int32) (p1 : Int32) (p2 : Int32) : Option (Int32 × (Nat → Int32) × (Nat → Nat → Int32) × Int32 × Int32) :=
  zb1 (f_X2_note k f g nx) fun g1 =>
  zb2 (f_X6_giveBlock k f p1 p2) fun v2 f3 =>
  zb3 (f_X2_settle k nx hz v2) fun v4 nx5 hz6 =>
  some (v4, f3, g1, nx5, hz6)
set_option maxRecDepth 100000 in
set_option maxHeartbeats 4000000 in
theorem ct_X7_give (l : Launch) (D : va_G) (ct a : Nat → Nat) (f : Nat → Int32) (g : Nat → Nat → Int32) (nx : Int32) (hz : Int32) (sw : Nat → Nat → Int32) (fl : Nat → Int32) (sg : Nat → Int32) (pl : Int32) (pa : Int32) (pk : Int32) (pn : Nat → Int32) (pf : Int32) (pg : Int32) (sz : Nat) (p1 : Int32) (p2 : Int32) (k : Nat) (r : Int32) (f' : Nat → Int32) (g' : Nat → Nat → Int32) (nx' : Int32) (hz' : Int32) (h : f_X7_give k f g nx hz p1 p2 = some (r, f', g', nx', hz')) : Met l yX7_give (Cond.code yX7_give cX7_give 3 (some .int) :: zT) ({ frames := 6, cells := 0, slots := 0, locals := 139 } : Room) (va_Pc [.ref (a 0), .int p1, .int p2] (zPW D (zTys ct) (wX7 ct a f g nx hz sw fl sg pl pa pk pn pf pg) sz)) (va_Qi (fun r' (_ : Unit) => r' = r) (zQW D (wX7 ct a f g nx hz sw fl sg pl pa pk pn pf pg) sz (wX7 ct a f' g' nx' hz' sw fl sg pl pa pk pn pf pg)) (va_A (wX7 ct a f g nx hz sw fl sg pl pa pk pn pf pg) sz)) 0 0 (va_A (wX7 ct a f g nx hz sw fl sg pl pa pk pn pf pg) sz) := by
  refine zMet (cc := cX7_give) (maxL := 3) (ret := (some .int)) (av := [.ref (a 0), .int p1, .int p2]) (by decide) (Nat.le_of_ble_eq_true rfl) (fun p e s m below meth c ls hx hb hr hml hts hown hlocks hin hB hl => ?_)
  have hl : lv_has ls 3 [(0, .ref (a 0)), (1, .int p1), (2, .int p2)] := hl
  have hown : s.vm.findClass RX7 = some m.cls := hown
  obtain ⟨hsz, hP, hK, hD0⟩ := hB
  subst hsz
  have hD := hD0.self (sz := s.heap.size)
  obtain ⟨A, hAe⟩ : ∃ A, A = va_A (wX7 ct a f g nx hz sw fl sg pl pa pk pn pf pg) s.heap.size := ⟨_, rfl⟩
  rw [← hAe] at hD
  have hA : ∀ q : Nat, s.heap.size ≤ q → A q := fun q h => by rw [hAe]; exact Or.inr h
  have hS : va_S A s.heap s.heap [] := va_S.rf
  rw [f_X7_give] at h
  refine lv_aload_n hx hb dX7_give_0 rfl (lv_at hl 0 rfl) ?_
  refine z_get (C := RX7) (T := TX7) (N := 6) (ci := 6) hx hb hts zin_X7 hown hK.1 hP 0 3 rfl rfl (by decide) tw191 rfl rfl dX7_give_1 ?_
  refine lv_aload_n hx hb dX7_give_4 rfl (lv_at hl 0 rfl) ?_
  refine z_get (C := RX7) (T := TX7) (N := 6) (ci := 6) hx hb hts zin_X7 hown hK.1 hP 0 0 rfl rfl (by decide) tw188 rfl rfl dX7_give_5 ?_
  obtain ⟨g1, hc, h⟩ := zb1_s h
  refine zG_v (w1 := (wX2 ct a g1 nx hz ++ wX5 ct a f)) (ws' := wX7 ct a f g1 nx hz sw fl sg pl pa pk pn pf pg) hP hD hS hA [5, 6, 7, 8, 9, 10, 11, 12, 13, 3, 4] [0, 1, 2, 14, 15, 16, 17, 18, 19, 20, 21] [0, 1, 2, 20, 21, 11, 12, 13, 14, 15, 16, 17, 18, 19, 3, 4, 5, 6, 7, 8, 9, 10] rfl rfl (by decide) (by decide) rfl (by decide) (zrV (C := RX2) (As := [.ref (a 3)]) (rest := []) hx hb hml hown hts tw211 mv_X2_note ⟨Nat.le_of_ble_eq_true rfl, Nat.le_of_ble_eq_true rfl⟩ rfl rfl (ct_X2_note l D ct a g nx hz f _  k g1 hc) (z_wv hK hP hD [5, 6, 7, 8, 9, 10, 11, 12, 13, 3, 4] (by decide) rfl 5 rfl rfl) hl.1 rfl rfl (Nat.le_of_ble_eq_true rfl) dX7_give_8 ⟨Nat.le_refl _, Nat.le_refl _⟩) (fun H locs hP hD hS => ?_)
  refine lv_aload_n hx hb dX7_give_11 rfl (lv_at hl 0 rfl) ?_
  refine z_get (C := RX7) (T := TX7) (N := 6) (ci := 6) hx hb hts zin_X7 hown hK.1 hP 0 3 rfl rfl (by decide) tw191 rfl rfl dX7_give_12 ?_
  refine lv_aload_n hx hb dX7_give_15 rfl (lv_at hl 0 rfl) ?_
  refine z_get (C := RX7) (T := TX7) (N := 6) (ci := 6) hx hb hts zin_X7 hown hK.1 hP 0 2 rfl rfl (by decide) tw190 rfl rfl dX7_give_16 ?_
  refine lv_iload_n hx hb dX7_give_19 rfl (lv_at hl 1 rfl) ?_
  refine lv_iload_n hx hb dX7_give_20 rfl (lv_at hl 2 rfl) ?_
  obtain ⟨v2, f3, hc, h⟩ := zb2_s h
  refine zG_i (w1 := wX6 ct a f3) (ws' := wX7 ct a f3 g1 nx hz sw fl sg pl pa pk pn pf pg) hP hD hS hA [1, 2, 3, 4] [0, 5, 6, 7, 8, 9, 10, 11, 12, 13, 14, 15, 16, 17, 18, 19, 20, 21] [0, 18, 19, 20, 21, 1, 2, 3, 4, 5, 6, 7, 8, 9, 10, 11, 12, 13, 14, 15, 16, 17] rfl rfl (by decide) (by decide) rfl (by decide) (zrV (C := RX6) (As := [.int p1, .int p2]) (rest := [.ref (a 5)]) hx hb hml hown hts tw354 mv_X6_giveBlock ⟨Nat.le_of_ble_eq_true rfl, Nat.le_of_ble_eq_true rfl⟩ rfl rfl (ct_X6_giveBlock l D ct a f _ p1 p2 k v2 f3 hc) (z_wv hK hP hD [1, 2, 3, 4] (by decide) rfl 1 rfl rfl) hl.1 rfl rfl (Nat.le_of_ble_eq_true rfl) dX7_give_21 ⟨Nat.le_refl _, Nat.le_refl _⟩) (fun H locs hP hD hS => ?_)
  obtain ⟨v4, nx5, hz6, hc, h⟩ := zb3_s h
  refine zG_i (w1 := wX2 ct a g1 nx5 hz6) (ws' := wX7 ct a f3 g1 nx5 hz6 sw fl sg pl pa pk pn pf pg) hP hD hS hA [5, 6, 7, 8, 9, 10, 11, 12, 13] [0, 1, 2, 3, 4, 14, 15, 16, 17, 18, 19, 20, 21] [0, 1, 2, 3, 4, 13, 14, 15, 16, 17, 18, 19, 20, 21, 5, 6, 7, 8, 9, 10, 11, 12] rfl rfl (by decide) (by decide) rfl (by decide) (zrV (C := RX2) (As := [.int v2]) (rest := []) hx hb hml hown hts tw242 mv_X2_settle ⟨Nat.le_of_ble_eq_true rfl, Nat.le_of_ble_eq_true rfl⟩ rfl rfl (ct_X2_settle l D ct a g1 nx hz _ v2 k v4 nx5 hz6 hc) (z_wv hK hP hD [5, 6, 7, 8, 9, 10, 11, 12, 13] (by decide) rfl 5 rfl rfl) hl.1 rfl rfl (Nat.le_of_ble_eq_true rfl) dX7_give_24 ⟨Nat.le_refl _, Nat.le_refl _⟩) (fun H locs hP hD hS => ?_)
  cases h
  exact zX_i hx hb hr hlocks hP hD hS hAe dX7_give_27 rfl

def f_X7_takeBack (k : Nat) (f : Nat → Int32) (g : Nat → Nat → Int32) (nx : Int32) (hz : Int32) (p1 : Int32) : Option (Int32 × (Nat → Int32) × (Nat → Nat → Int32) × Int32 × Int32) :=
  zb1 (f_X2_note k f g nx) fun g1 =>
  zb2 (f_X6_takeBlockAway k f p1) fun v2 f3 =>
  zb3 (f_X2_settle k nx hz v2) fun v4 nx5 hz6 =>
  some (v4, f3, g1, nx5, hz6)
set_option maxRecDepth 100000 in
set_option maxHeartbeats 4000000 in
theorem ct_X7_takeBack (l : Launch) (D : va_G) (ct a : Nat → Nat) (f : Nat → Int32) (g : Nat → Nat → Int32) (nx : Int32) (hz : Int32) (sw : Nat → Nat → Int32) (fl : Nat → Int32) (sg : Nat → Int32) (pl : Int32) (pa : Int32) (pk : Int32) (pn : Nat → Int32) (pf : Int32) (pg : Int32) (sz : Nat) (p1 : Int32) (k : Nat) (r : Int32) (f' : Nat → Int32) (g' : Nat → Nat → Int32) (nx' : Int32) (hz' : Int32) (h : f_X7_takeBack k f g nx hz p1 = some (r, f', g', nx', hz')) : Met l yX7_takeBack (Cond.code yX7_takeBack cX7_takeBack 2 (some .int) :: zT) ({ frames := 4, cells := 0, slots := 0, locals := 103 } : Room) (va_Pc [.ref (a 0), .int p1] (zPW D (zTys ct) (wX7 ct a f g nx hz sw fl sg pl pa pk pn pf pg) sz)) (va_Qi (fun r' (_ : Unit) => r' = r) (zQW D (wX7 ct a f g nx hz sw fl sg pl pa pk pn pf pg) sz (wX7 ct a f' g' nx' hz' sw fl sg pl pa pk pn pf pg)) (va_A (wX7 ct a f g nx hz sw fl sg pl pa pk pn pf pg) sz)) 0 0 (va_A (wX7 ct a f g nx hz sw fl sg pl pa pk pn pf pg) sz) := by
  refine zMet (cc := cX7_takeBack) (maxL := 2) (ret := (some .int)) (av := [.ref (a 0), .int p1]) (by decide) (Nat.le_of_ble_eq_true rfl) (fun p e s m below meth c ls hx hb hr hml hts hown hlocks hin hB hl => ?_)
  have hl : lv_has ls 2 [(0, .ref (a 0)), (1, .int p1)] := hl
  have hown : s.vm.findClass RX7 = some m.cls := hown
  obtain ⟨hsz, hP, hK, hD0⟩ := hB
  subst hsz
  have hD := hD0.self (sz := s.heap.size)
  obtain ⟨A, hAe⟩ : ∃ A, A = va_A (wX7 ct a f g nx hz sw fl sg pl pa pk pn pf pg) s.heap.size := ⟨_, rfl⟩
  rw [← hAe] at hD
  have hA : ∀ q : Nat, s.heap.size ≤ q → A q := fun q h => by rw [hAe]; exact Or.inr h
  have hS : va_S A s.heap s.heap [] := va_S.rf
  rw [f_X7_takeBack] at h
  refine lv_aload_n hx hb dX7_takeBack_0 rfl (lv_at hl 0 rfl) ?_
  refine z_get (C := RX7) (T := TX7) (N := 6) (ci := 6) hx hb hts zin_X7 hown hK.1 hP 0 3 rfl rfl (by decide) tw191 rfl rfl dX7_takeBack_1 ?_
  refine lv_aload_n hx hb dX7_takeBack_4 rfl (lv_at hl 0 rfl) ?_
  refine z_get (C := RX7) (T := TX7) (N := 6) (ci := 6) hx hb hts zin_X7 hown hK.1 hP 0 0 rfl rfl (by decide) tw188 rfl rfl dX7_takeBack_5 ?_
  obtain ⟨g1, hc, h⟩ := zb1_s h
  refine zG_v (w1 := (wX2 ct a g1 nx hz ++ wX5 ct a f)) (ws' := wX7 ct a f g1 nx hz sw fl sg pl pa pk pn pf pg) hP hD hS hA [5, 6, 7, 8, 9, 10, 11, 12, 13, 3, 4] [0, 1, 2, 14, 15, 16, 17, 18, 19, 20, 21] [0, 1, 2, 20, 21, 11, 12, 13, 14, 15, 16, 17, 18, 19, 3, 4, 5, 6, 7, 8, 9, 10] rfl rfl (by decide) (by decide) rfl (by decide) (zrV (C := RX2) (As := [.ref (a 3)]) (rest := []) hx hb hml hown hts tw211 mv_X2_note ⟨Nat.le_of_ble_eq_true rfl, Nat.le_of_ble_eq_true rfl⟩ rfl rfl (ct_X2_note l D ct a g nx hz f _  k g1 hc) (z_wv hK hP hD [5, 6, 7, 8, 9, 10, 11, 12, 13, 3, 4] (by decide) rfl 5 rfl rfl) hl.1 rfl rfl (Nat.le_of_ble_eq_true rfl) dX7_takeBack_8 ⟨Nat.le_refl _, Nat.le_refl _⟩) (fun H locs hP hD hS => ?_)
  refine lv_aload_n hx hb dX7_takeBack_11 rfl (lv_at hl 0 rfl) ?_
  refine z_get (C := RX7) (T := TX7) (N := 6) (ci := 6) hx hb hts zin_X7 hown hK.1 hP 0 3 rfl rfl (by decide) tw191 rfl rfl dX7_takeBack_12 ?_
  refine lv_aload_n hx hb dX7_takeBack_15 rfl (lv_at hl 0 rfl) ?_
  refine z_get (C := RX7) (T := TX7) (N := 6) (ci := 6) hx hb hts zin_X7 hown hK.1 hP 0 2 rfl rfl (by decide) tw190 rfl rfl dX7_takeBack_16 ?_
  refine lv_iload_n hx hb dX7_takeBack_19 rfl (lv_at hl 1 rfl) ?_
  obtain ⟨v2, f3, hc, h⟩ := zb2_s h
  refine zG_i (w1 := wX6 ct a f3) (ws' := wX7 ct a f3 g1 nx hz sw fl sg pl pa pk pn pf pg) hP hD hS hA [1, 2, 3, 4] [0, 5, 6, 7, 8, 9, 10, 11, 12, 13, 14, 15, 16, 17, 18, 19, 20, 21] [0, 18, 19, 20, 21, 1, 2, 3, 4, 5, 6, 7, 8, 9, 10, 11, 12, 13, 14, 15, 16, 17] rfl rfl (by decide) (by decide) rfl (by decide) (zrV (C := RX6) (As := [.int p1]) (rest := [.ref (a 5)]) hx hb hml hown hts tw385 mv_X6_takeBlockAway ⟨Nat.le_of_ble_eq_true rfl, Nat.le_of_ble_eq_true rfl⟩ rfl rfl (ct_X6_takeBlockAway l D ct a f _ p1 k v2 f3 hc) (z_wv hK hP hD [1, 2, 3, 4] (by decide) rfl 1 rfl rfl) hl.1 rfl rfl (Nat.le_of_ble_eq_true rfl) dX7_takeBack_20 ⟨Nat.le_refl _, Nat.le_refl _⟩) (fun H locs hP hD hS => ?_)
  obtain ⟨v4, nx5, hz6, hc, h⟩ := zb3_s h
  refine zG_i (w1 := wX2 ct a g1 nx5 hz6) (ws' := wX7 ct a f3 g1 nx5 hz6 sw fl sg pl pa pk pn pf pg) hP hD hS hA [5, 6, 7, 8, 9, 10, 11, 12, 13] [0, 1, 2, 3, 4, 14, 15, 16, 17, 18, 19, 20, 21] [0, 1, 2, 3, 4, 13, 14, 15, 16, 17, 18, 19, 20, 21, 5, 6, 7, 8, 9, 10, 11, 12] rfl rfl (by decide) (by decide) rfl (by decide) (zrV (C := RX2) (As := [.int v2]) (rest := []) hx hb hml hown hts tw242 mv_X2_settle ⟨Nat.le_of_ble_eq_true rfl, Nat.le_of_ble_eq_true rfl⟩ rfl rfl (ct_X2_settle l D ct a g1 nx hz _ v2 k v4 nx5 hz6 hc) (z_wv hK hP hD [5, 6, 7, 8, 9, 10, 11, 12, 13] (by decide) rfl 5 rfl rfl) hl.1 rfl rfl (Nat.le_of_ble_eq_true rfl) dX7_takeBack_23 ⟨Nat.le_refl _, Nat.le_refl _⟩) (fun H locs hP hD hS => ?_)
  cases h
  exact zX_i hx hb hr hlocks hP hD hS hAe dX7_takeBack_26 rfl

def f_X7_limits (k : Nat) (f : Nat → Int32) (g : Nat → Nat → Int32) (nx : Int32) (hz : Int32) (p1 : Int32) (p2 : Int32) (p3 : Int32) (p4 : Int32) : Option (Int32 × (Nat → Int32) × (Nat → Nat → Int32) × Int32 × Int32) :=
  zb1 (f_X2_note k f g nx) fun g1 =>
  zb2 (f_X6_changeLimits k f p1 p2 p3 p4) fun v2 f3 =>
  zb3 (f_X2_settle k nx hz v2) fun v4 nx5 hz6 =>
  some (v4, f3, g1, nx5, hz6)
set_option maxRecDepth 100000 in
set_option maxHeartbeats 4000000 in
theorem ct_X7_limits (l : Launch) (D : va_G) (ct a : Nat → Nat) (f : Nat → Int32) (g : Nat → Nat → Int32) (nx : Int32) (hz : Int32) (sw : Nat → Nat → Int32) (fl : Nat → Int32) (sg : Nat → Int32) (pl : Int32) (pa : Int32) (pk : Int32) (pn : Nat → Int32) (pf : Int32) (pg : Int32) (sz : Nat) (p1 : Int32) (p2 : Int32) (p3 : Int32) (p4 : Int32) (k : Nat) (r : Int32) (f' : Nat → Int32) (g' : Nat → Nat → Int32) (nx' : Int32) (hz' : Int32) (h : f_X7_limits k f g nx hz p1 p2 p3 p4 = some (r, f', g', nx', hz')) : Met l yX7_limits (Cond.code yX7_limits cX7_limits 5 (some .int) :: zT) ({ frames := 4, cells := 0, slots := 0, locals := 103 } : Room) (va_Pc [.ref (a 0), .int p1, .int p2, .int p3, .int p4] (zPW D (zTys ct) (wX7 ct a f g nx hz sw fl sg pl pa pk pn pf pg) sz)) (va_Qi (fun r' (_ : Unit) => r' = r) (zQW D (wX7 ct a f g nx hz sw fl sg pl pa pk pn pf pg) sz (wX7 ct a f' g' nx' hz' sw fl sg pl pa pk pn pf pg)) (va_A (wX7 ct a f g nx hz sw fl sg pl pa pk pn pf pg) sz)) 0 0 (va_A (wX7 ct a f g nx hz sw fl sg pl pa pk pn pf pg) sz) := by
  refine zMet (cc := cX7_limits) (maxL := 5) (ret := (some .int)) (av := [.ref (a 0), .int p1, .int p2, .int p3, .int p4]) (by decide) (Nat.le_of_ble_eq_true rfl) (fun p e s m below meth c ls hx hb hr hml hts hown hlocks hin hB hl => ?_)
  have hl : lv_has ls 5 [(0, .ref (a 0)), (1, .int p1), (2, .int p2), (3, .int p3), (4, .int p4)] := hl
  have hown : s.vm.findClass RX7 = some m.cls := hown
  obtain ⟨hsz, hP, hK, hD0⟩ := hB
  subst hsz
  have hD := hD0.self (sz := s.heap.size)
  obtain ⟨A, hAe⟩ : ∃ A, A = va_A (wX7 ct a f g nx hz sw fl sg pl pa pk pn pf pg) s.heap.size := ⟨_, rfl⟩
  rw [← hAe] at hD
  have hA : ∀ q : Nat, s.heap.size ≤ q → A q := fun q h => by rw [hAe]; exact Or.inr h
  have hS : va_S A s.heap s.heap [] := va_S.rf
  rw [f_X7_limits] at h
  refine lv_aload_n hx hb dX7_limits_0 rfl (lv_at hl 0 rfl) ?_
  refine z_get (C := RX7) (T := TX7) (N := 6) (ci := 6) hx hb hts zin_X7 hown hK.1 hP 0 3 rfl rfl (by decide) tw191 rfl rfl dX7_limits_1 ?_
  refine lv_aload_n hx hb dX7_limits_4 rfl (lv_at hl 0 rfl) ?_
  refine z_get (C := RX7) (T := TX7) (N := 6) (ci := 6) hx hb hts zin_X7 hown hK.1 hP 0 0 rfl rfl (by decide) tw188 rfl rfl dX7_limits_5 ?_
  obtain ⟨g1, hc, h⟩ := zb1_s h
  refine zG_v (w1 := (wX2 ct a g1 nx hz ++ wX5 ct a f)) (ws' := wX7 ct a f g1 nx hz sw fl sg pl pa pk pn pf pg) hP hD hS hA [5, 6, 7, 8, 9, 10, 11, 12, 13, 3, 4] [0, 1, 2, 14, 15, 16, 17, 18, 19, 20, 21] [0, 1, 2, 20, 21, 11, 12, 13, 14, 15, 16, 17, 18, 19, 3, 4, 5, 6, 7, 8, 9, 10] rfl rfl (by decide) (by decide) rfl (by decide) (zrV (C := RX2) (As := [.ref (a 3)]) (rest := []) hx hb hml hown hts tw211 mv_X2_note ⟨Nat.le_of_ble_eq_true rfl, Nat.le_of_ble_eq_true rfl⟩ rfl rfl (ct_X2_note l D ct a g nx hz f _  k g1 hc) (z_wv hK hP hD [5, 6, 7, 8, 9, 10, 11, 12, 13, 3, 4] (by decide) rfl 5 rfl rfl) hl.1 rfl rfl (Nat.le_of_ble_eq_true rfl) dX7_limits_8 ⟨Nat.le_refl _, Nat.le_refl _⟩) (fun H locs hP hD hS => ?_)
  refine lv_aload_n hx hb dX7_limits_11 rfl (lv_at hl 0 rfl) ?_
  refine z_get (C := RX7) (T := TX7) (N := 6) (ci := 6) hx hb hts zin_X7 hown hK.1 hP 0 3 rfl rfl (by decide) tw191 rfl rfl dX7_limits_12 ?_
  refine lv_aload_n hx hb dX7_limits_15 rfl (lv_at hl 0 rfl) ?_
  refine z_get (C := RX7) (T := TX7) (N := 6) (ci := 6) hx hb hts zin_X7 hown hK.1 hP 0 2 rfl rfl (by decide) tw190 rfl rfl dX7_limits_16 ?_
  refine lv_iload_n hx hb dX7_limits_19 rfl (lv_at hl 1 rfl) ?_
  refine lv_iload_n hx hb dX7_limits_20 rfl (lv_at hl 2 rfl) ?_
  refine lv_iload_n hx hb dX7_limits_21 rfl (lv_at hl 3 rfl) ?_
  refine lv_iload hx hb dX7_limits_22 (lv_at hl 4 rfl) ?_
  obtain ⟨v2, f3, hc, h⟩ := zb2_s h
  refine zG_i (w1 := wX6 ct a f3) (ws' := wX7 ct a f3 g1 nx hz sw fl sg pl pa pk pn pf pg) hP hD hS hA [1, 2, 3, 4] [0, 5, 6, 7, 8, 9, 10, 11, 12, 13, 14, 15, 16, 17, 18, 19, 20, 21] [0, 18, 19, 20, 21, 1, 2, 3, 4, 5, 6, 7, 8, 9, 10, 11, 12, 13, 14, 15, 16, 17] rfl rfl (by decide) (by decide) rfl (by decide) (zrV (C := RX6) (As := [.int p1, .int p2, .int p3, .int p4]) (rest := [.ref (a 5)]) hx hb hml hown hts tw394 mv_X6_changeLimits ⟨Nat.le_of_ble_eq_true rfl, Nat.le_of_ble_eq_true rfl⟩ rfl rfl (ct_X6_changeLimits l D ct a f _ p1 p2 p3 p4 k v2 f3 hc) (z_wv hK hP hD [1, 2, 3, 4] (by decide) rfl 1 rfl rfl) hl.1 rfl rfl (Nat.le_of_ble_eq_true rfl) dX7_limits_24 ⟨Nat.le_refl _, Nat.le_refl _⟩) (fun H locs hP hD hS => ?_)
  obtain ⟨v4, nx5, hz6, hc, h⟩ := zb3_s h
  refine zG_i (w1 := wX2 ct a g1 nx5 hz6) (ws' := wX7 ct a f3 g1 nx5 hz6 sw fl sg pl pa pk pn pf pg) hP hD hS hA [5, 6, 7, 8, 9, 10, 11, 12, 13] [0, 1, 2, 3, 4, 14, 15, 16, 17, 18, 19, 20, 21] [0, 1, 2, 3, 4, 13, 14, 15, 16, 17, 18, 19, 20, 21, 5, 6, 7, 8, 9, 10, 11, 12] rfl rfl (by decide) (by decide) rfl (by decide) (zrV (C := RX2) (As := [.int v2]) (rest := []) hx hb hml hown hts tw242 mv_X2_settle ⟨Nat.le_of_ble_eq_true rfl, Nat.le_of_ble_eq_true rfl⟩ rfl rfl (ct_X2_settle l D ct a g1 nx hz _ v2 k v4 nx5 hz6 hc) (z_wv hK hP hD [5, 6, 7, 8, 9, 10, 11, 12, 13] (by decide) rfl 5 rfl rfl) hl.1 rfl rfl (Nat.le_of_ble_eq_true rfl) dX7_limits_27 ⟨Nat.le_refl _, Nat.le_refl _⟩) (fun H locs hP hD hS => ?_)
  cases h
  exact zX_i hx hb hr hlocks hP hD hS hAe dX7_limits_30 rfl

def f_X7_load (k : Nat) (f : Nat → Int32) (g : Nat → Nat → Int32) (nx : Int32) (hz : Int32) (p1 : Int32) (p2 : Int32) (p3 : Int32) : Option (Int32 × (Nat → Int32) × (Nat → Nat → Int32) × Int32 × Int32) :=
  zb1 (f_X2_note k f g nx) fun g1 =>
  zb2 (f_X6_loadBlock k f p1 p2 p3) fun v2 f3 =>
  zb3 (f_X2_settle k nx hz v2) fun v4 nx5 hz6 =>
  some (v4, f3, g1, nx5, hz6)
set_option maxRecDepth 100000 in
set_option maxHeartbeats 4000000 in
theorem ct_X7_load (l : Launch) (D : va_G) (ct a : Nat → Nat) (f : Nat → Int32) (g : Nat → Nat → Int32) (nx : Int32) (hz : Int32) (sw : Nat → Nat → Int32) (fl : Nat → Int32) (sg : Nat → Int32) (pl : Int32) (pa : Int32) (pk : Int32) (pn : Nat → Int32) (pf : Int32) (pg : Int32) (sz : Nat) (p1 : Int32) (p2 : Int32) (p3 : Int32) (k : Nat) (r : Int32) (f' : Nat → Int32) (g' : Nat → Nat → Int32) (nx' : Int32) (hz' : Int32) (h : f_X7_load k f g nx hz p1 p2 p3 = some (r, f', g', nx', hz')) : Met l yX7_load (Cond.code yX7_load cX7_load 4 (some .int) :: zT) ({ frames := 5, cells := 0, slots := 0, locals := 115 } : Room) (va_Pc [.ref (a 0), .int p1, .int p2, .int p3] (zPW D (zTys ct) (wX7 ct a f g nx hz sw fl sg pl pa pk pn pf pg) sz)) (va_Qi (fun r' (_ : Unit) => r' = r) (zQW D (wX7 ct a f g nx hz sw fl sg pl pa pk pn pf pg) sz (wX7 ct a f' g' nx' hz' sw fl sg pl pa pk pn pf pg)) (va_A (wX7 ct a f g nx hz sw fl sg pl pa pk pn pf pg) sz)) 0 0 (va_A (wX7 ct a f g nx hz sw fl sg pl pa pk pn pf pg) sz) := by
  refine zMet (cc := cX7_load) (maxL := 4) (ret := (some .int)) (av := [.ref (a 0), .int p1, .int p2, .int p3]) (by decide) (Nat.le_of_ble_eq_true rfl) (fun p e s m below meth c ls hx hb hr hml hts hown hlocks hin hB hl => ?_)
  have hl : lv_has ls 4 [(0, .ref (a 0)), (1, .int p1), (2, .int p2), (3, .int p3)] := hl
  have hown : s.vm.findClass RX7 = some m.cls := hown
  obtain ⟨hsz, hP, hK, hD0⟩ := hB
  subst hsz
  have hD := hD0.self (sz := s.heap.size)
  obtain ⟨A, hAe⟩ : ∃ A, A = va_A (wX7 ct a f g nx hz sw fl sg pl pa pk pn pf pg) s.heap.size := ⟨_, rfl⟩
  rw [← hAe] at hD
  have hA : ∀ q : Nat, s.heap.size ≤ q → A q := fun q h => by rw [hAe]; exact Or.inr h
  have hS : va_S A s.heap s.heap [] := va_S.rf
  rw [f_X7_load] at h
  refine lv_aload_n hx hb dX7_load_0 rfl (lv_at hl 0 rfl) ?_
  refine z_get (C := RX7) (T := TX7) (N := 6) (ci := 6) hx hb hts zin_X7 hown hK.1 hP 0 3 rfl rfl (by decide) tw191 rfl rfl dX7_load_1 ?_
  refine lv_aload_n hx hb dX7_load_4 rfl (lv_at hl 0 rfl) ?_
  refine z_get (C := RX7) (T := TX7) (N := 6) (ci := 6) hx hb hts zin_X7 hown hK.1 hP 0 0 rfl rfl (by decide) tw188 rfl rfl dX7_load_5 ?_
  obtain ⟨g1, hc, h⟩ := zb1_s h
  refine zG_v (w1 := (wX2 ct a g1 nx hz ++ wX5 ct a f)) (ws' := wX7 ct a f g1 nx hz sw fl sg pl pa pk pn pf pg) hP hD hS hA [5, 6, 7, 8, 9, 10, 11, 12, 13, 3, 4] [0, 1, 2, 14, 15, 16, 17, 18, 19, 20, 21] [0, 1, 2, 20, 21, 11, 12, 13, 14, 15, 16, 17, 18, 19, 3, 4, 5, 6, 7, 8, 9, 10] rfl rfl (by decide) (by decide) rfl (by decide) (zrV (C := RX2) (As := [.ref (a 3)]) (rest := []) hx hb hml hown hts tw211 mv_X2_note ⟨Nat.le_of_ble_eq_true rfl, Nat.le_of_ble_eq_true rfl⟩ rfl rfl (ct_X2_note l D ct a g nx hz f _  k g1 hc) (z_wv hK hP hD [5, 6, 7, 8, 9, 10, 11, 12, 13, 3, 4] (by decide) rfl 5 rfl rfl) hl.1 rfl rfl (Nat.le_of_ble_eq_true rfl) dX7_load_8 ⟨Nat.le_refl _, Nat.le_refl _⟩) (fun H locs hP hD hS => ?_)
  refine lv_aload_n hx hb dX7_load_11 rfl (lv_at hl 0 rfl) ?_
  refine z_get (C := RX7) (T := TX7) (N := 6) (ci := 6) hx hb hts zin_X7 hown hK.1 hP 0 3 rfl rfl (by decide) tw191 rfl rfl dX7_load_12 ?_
  refine lv_aload_n hx hb dX7_load_15 rfl (lv_at hl 0 rfl) ?_
  refine z_get (C := RX7) (T := TX7) (N := 6) (ci := 6) hx hb hts zin_X7 hown hK.1 hP 0 2 rfl rfl (by decide) tw190 rfl rfl dX7_load_16 ?_
  refine lv_iload_n hx hb dX7_load_19 rfl (lv_at hl 1 rfl) ?_
  refine lv_iload_n hx hb dX7_load_20 rfl (lv_at hl 2 rfl) ?_
  refine lv_iload_n hx hb dX7_load_21 rfl (lv_at hl 3 rfl) ?_
  obtain ⟨v2, f3, hc, h⟩ := zb2_s h
  refine zG_i (w1 := wX6 ct a f3) (ws' := wX7 ct a f3 g1 nx hz sw fl sg pl pa pk pn pf pg) hP hD hS hA [1, 2, 3, 4] [0, 5, 6, 7, 8, 9, 10, 11, 12, 13, 14, 15, 16, 17, 18, 19, 20, 21] [0, 18, 19, 20, 21, 1, 2, 3, 4, 5, 6, 7, 8, 9, 10, 11, 12, 13, 14, 15, 16, 17] rfl rfl (by decide) (by decide) rfl (by decide) (zrV (C := RX6) (As := [.int p1, .int p2, .int p3]) (rest := [.ref (a 5)]) hx hb hml hown hts tw409 mv_X6_loadBlock ⟨Nat.le_of_ble_eq_true rfl, Nat.le_of_ble_eq_true rfl⟩ rfl rfl (ct_X6_loadBlock l D ct a f _ p1 p2 p3 k v2 f3 hc) (z_wv hK hP hD [1, 2, 3, 4] (by decide) rfl 1 rfl rfl) hl.1 rfl rfl (Nat.le_of_ble_eq_true rfl) dX7_load_22 ⟨Nat.le_refl _, Nat.le_refl _⟩) (fun H locs hP hD hS => ?_)
  obtain ⟨v4, nx5, hz6, hc, h⟩ := zb3_s h
  refine zG_i (w1 := wX2 ct a g1 nx5 hz6) (ws' := wX7 ct a f3 g1 nx5 hz6 sw fl sg pl pa pk pn pf pg) hP hD hS hA [5, 6, 7, 8, 9, 10, 11, 12, 13] [0, 1, 2, 3, 4, 14, 15, 16, 17, 18, 19, 20, 21] [0, 1, 2, 3, 4, 13, 14, 15, 16, 17, 18, 19, 20, 21, 5, 6, 7, 8, 9, 10, 11, 12] rfl rfl (by decide) (by decide) rfl (by decide) (zrV (C := RX2) (As := [.int v2]) (rest := []) hx hb hml hown hts tw242 mv_X2_settle ⟨Nat.le_of_ble_eq_true rfl, Nat.le_of_ble_eq_true rfl⟩ rfl rfl (ct_X2_settle l D ct a g1 nx hz _ v2 k v4 nx5 hz6 hc) (z_wv hK hP hD [5, 6, 7, 8, 9, 10, 11, 12, 13] (by decide) rfl 5 rfl rfl) hl.1 rfl rfl (Nat.le_of_ble_eq_true rfl) dX7_load_25 ⟨Nat.le_refl _, Nat.le_refl _⟩) (fun H locs hP hD hS => ?_)
  cases h
  exact zX_i hx hb hr hlocks hP hD hS hAe dX7_load_28 rfl

def f_X7_unload (k : Nat) (f : Nat → Int32) (g : Nat → Nat → Int32) (nx : Int32) (hz : Int32) (p1 : Int32) : Option (Int32 × (Nat → Int32) × (Nat → Nat → Int32) × Int32 × Int32) :=
  zb1 (f_X2_note k f g nx) fun g1 =>
  zb2 (f_X6_unloadBlock k f p1) fun v2 f3 =>
  zb3 (f_X2_settle k nx hz v2) fun v4 nx5 hz6 =>
  some (v4, f3, g1, nx5, hz6)
set_option maxRecDepth 100000 in
set_option maxHeartbeats 4000000 in
theorem ct_X7_unload (l : Launch) (D : va_G) (ct a : Nat → Nat) (f : Nat → Int32) (g : Nat → Nat → Int32) (nx : Int32) (hz : Int32) (sw : Nat → Nat → Int32) (fl : Nat → Int32) (sg : Nat → Int32) (pl : Int32) (pa : Int32) (pk : Int32) (pn : Nat → Int32) (pf : Int32) (pg : Int32) (sz : Nat) (p1 : Int32) (k : Nat) (r : Int32) (f' : Nat → Int32) (g' : Nat → Nat → Int32) (nx' : Int32) (hz' : Int32) (h : f_X7_unload k f g nx hz p1 = some (r, f', g', nx', hz')) : Met l yX7_unload (Cond.code yX7_unload cX7_unload 2 (some .int) :: zT) ({ frames := 5, cells := 0, slots := 0, locals := 114 } : Room) (va_Pc [.ref (a 0), .int p1] (zPW D (zTys ct) (wX7 ct a f g nx hz sw fl sg pl pa pk pn pf pg) sz)) (va_Qi (fun r' (_ : Unit) => r' = r) (zQW D (wX7 ct a f g nx hz sw fl sg pl pa pk pn pf pg) sz (wX7 ct a f' g' nx' hz' sw fl sg pl pa pk pn pf pg)) (va_A (wX7 ct a f g nx hz sw fl sg pl pa pk pn pf pg) sz)) 0 0 (va_A (wX7 ct a f g nx hz sw fl sg pl pa pk pn pf pg) sz) := by
  refine zMet (cc := cX7_unload) (maxL := 2) (ret := (some .int)) (av := [.ref (a 0), .int p1]) (by decide) (Nat.le_of_ble_eq_true rfl) (fun p e s m below meth c ls hx hb hr hml hts hown hlocks hin hB hl => ?_)
  have hl : lv_has ls 2 [(0, .ref (a 0)), (1, .int p1)] := hl
  have hown : s.vm.findClass RX7 = some m.cls := hown
  obtain ⟨hsz, hP, hK, hD0⟩ := hB
  subst hsz
  have hD := hD0.self (sz := s.heap.size)
  obtain ⟨A, hAe⟩ : ∃ A, A = va_A (wX7 ct a f g nx hz sw fl sg pl pa pk pn pf pg) s.heap.size := ⟨_, rfl⟩
  rw [← hAe] at hD
  have hA : ∀ q : Nat, s.heap.size ≤ q → A q := fun q h => by rw [hAe]; exact Or.inr h
  have hS : va_S A s.heap s.heap [] := va_S.rf
  rw [f_X7_unload] at h
  refine lv_aload_n hx hb dX7_unload_0 rfl (lv_at hl 0 rfl) ?_
  refine z_get (C := RX7) (T := TX7) (N := 6) (ci := 6) hx hb hts zin_X7 hown hK.1 hP 0 3 rfl rfl (by decide) tw191 rfl rfl dX7_unload_1 ?_
  refine lv_aload_n hx hb dX7_unload_4 rfl (lv_at hl 0 rfl) ?_
  refine z_get (C := RX7) (T := TX7) (N := 6) (ci := 6) hx hb hts zin_X7 hown hK.1 hP 0 0 rfl rfl (by decide) tw188 rfl rfl dX7_unload_5 ?_
  obtain ⟨g1, hc, h⟩ := zb1_s h
  refine zG_v (w1 := (wX2 ct a g1 nx hz ++ wX5 ct a f)) (ws' := wX7 ct a f g1 nx hz sw fl sg pl pa pk pn pf pg) hP hD hS hA [5, 6, 7, 8, 9, 10, 11, 12, 13, 3, 4] [0, 1, 2, 14, 15, 16, 17, 18, 19, 20, 21] [0, 1, 2, 20, 21, 11, 12, 13, 14, 15, 16, 17, 18, 19, 3, 4, 5, 6, 7, 8, 9, 10] rfl rfl (by decide) (by decide) rfl (by decide) (zrV (C := RX2) (As := [.ref (a 3)]) (rest := []) hx hb hml hown hts tw211 mv_X2_note ⟨Nat.le_of_ble_eq_true rfl, Nat.le_of_ble_eq_true rfl⟩ rfl rfl (ct_X2_note l D ct a g nx hz f _  k g1 hc) (z_wv hK hP hD [5, 6, 7, 8, 9, 10, 11, 12, 13, 3, 4] (by decide) rfl 5 rfl rfl) hl.1 rfl rfl (Nat.le_of_ble_eq_true rfl) dX7_unload_8 ⟨Nat.le_refl _, Nat.le_refl _⟩) (fun H locs hP hD hS => ?_)
  refine lv_aload_n hx hb dX7_unload_11 rfl (lv_at hl 0 rfl) ?_
  refine z_get (C := RX7) (T := TX7) (N := 6) (ci := 6) hx hb hts zin_X7 hown hK.1 hP 0 3 rfl rfl (by decide) tw191 rfl rfl dX7_unload_12 ?_
  refine lv_aload_n hx hb dX7_unload_15 rfl (lv_at hl 0 rfl) ?_
  refine z_get (C := RX7) (T := TX7) (N := 6) (ci := 6) hx hb hts zin_X7 hown hK.1 hP 0 2 rfl rfl (by decide) tw190 rfl rfl dX7_unload_16 ?_
  refine lv_iload_n hx hb dX7_unload_19 rfl (lv_at hl 1 rfl) ?_
  obtain ⟨v2, f3, hc, h⟩ := zb2_s h
  refine zG_i (w1 := wX6 ct a f3) (ws' := wX7 ct a f3 g1 nx hz sw fl sg pl pa pk pn pf pg) hP hD hS hA [1, 2, 3, 4] [0, 5, 6, 7, 8, 9, 10, 11, 12, 13, 14, 15, 16, 17, 18, 19, 20, 21] [0, 18, 19, 20, 21, 1, 2, 3, 4, 5, 6, 7, 8, 9, 10, 11, 12, 13, 14, 15, 16, 17] rfl rfl (by decide) (by decide) rfl (by decide) (zrV (C := RX6) (As := [.int p1]) (rest := [.ref (a 5)]) hx hb hml hown hts tw433 mv_X6_unloadBlock ⟨Nat.le_of_ble_eq_true rfl, Nat.le_of_ble_eq_true rfl⟩ rfl rfl (ct_X6_unloadBlock l D ct a f _ p1 k v2 f3 hc) (z_wv hK hP hD [1, 2, 3, 4] (by decide) rfl 1 rfl rfl) hl.1 rfl rfl (Nat.le_of_ble_eq_true rfl) dX7_unload_20 ⟨Nat.le_refl _, Nat.le_refl _⟩) (fun H locs hP hD hS => ?_)
  obtain ⟨v4, nx5, hz6, hc, h⟩ := zb3_s h
  refine zG_i (w1 := wX2 ct a g1 nx5 hz6) (ws' := wX7 ct a f3 g1 nx5 hz6 sw fl sg pl pa pk pn pf pg) hP hD hS hA [5, 6, 7, 8, 9, 10, 11, 12, 13] [0, 1, 2, 3, 4, 14, 15, 16, 17, 18, 19, 20, 21] [0, 1, 2, 3, 4, 13, 14, 15, 16, 17, 18, 19, 20, 21, 5, 6, 7, 8, 9, 10, 11, 12] rfl rfl (by decide) (by decide) rfl (by decide) (zrV (C := RX2) (As := [.int v2]) (rest := []) hx hb hml hown hts tw242 mv_X2_settle ⟨Nat.le_of_ble_eq_true rfl, Nat.le_of_ble_eq_true rfl⟩ rfl rfl (ct_X2_settle l D ct a g1 nx hz _ v2 k v4 nx5 hz6 hc) (z_wv hK hP hD [5, 6, 7, 8, 9, 10, 11, 12, 13] (by decide) rfl 5 rfl rfl) hl.1 rfl rfl (Nat.le_of_ble_eq_true rfl) dX7_unload_23 ⟨Nat.le_refl _, Nat.le_refl _⟩) (fun H locs hP hD hS => ?_)
  cases h
  exact zX_i hx hb hr hlocks hP hD hS hAe dX7_unload_26 rfl

def f_X7_leave (k : Nat) (f : Nat → Int32) (g : Nat → Nat → Int32) (nx : Int32) (hz : Int32) (p1 : Int32) : Option (Int32 × (Nat → Int32) × (Nat → Nat → Int32) × Int32 × Int32) :=
  zb1 (f_X2_note k f g nx) fun g1 =>
  zb2 (f_X6_sendLorry k f p1) fun v2 f3 =>
  zb3 (f_X2_settle k nx hz v2) fun v4 nx5 hz6 =>
  some (v4, f3, g1, nx5, hz6)
set_option maxRecDepth 100000 in
set_option maxHeartbeats 4000000 in
theorem ct_X7_leave (l : Launch) (D : va_G) (ct a : Nat → Nat) (f : Nat → Int32) (g : Nat → Nat → Int32) (nx : Int32) (hz : Int32) (sw : Nat → Nat → Int32) (fl : Nat → Int32) (sg : Nat → Int32) (pl : Int32) (pa : Int32) (pk : Int32) (pn : Nat → Int32) (pf : Int32) (pg : Int32) (sz : Nat) (p1 : Int32) (k : Nat) (r : Int32) (f' : Nat → Int32) (g' : Nat → Nat → Int32) (nx' : Int32) (hz' : Int32) (h : f_X7_leave k f g nx hz p1 = some (r, f', g', nx', hz')) : Met l yX7_leave (Cond.code yX7_leave cX7_leave 2 (some .int) :: zT) ({ frames := 5, cells := 0, slots := 0, locals := 121 } : Room) (va_Pc [.ref (a 0), .int p1] (zPW D (zTys ct) (wX7 ct a f g nx hz sw fl sg pl pa pk pn pf pg) sz)) (va_Qi (fun r' (_ : Unit) => r' = r) (zQW D (wX7 ct a f g nx hz sw fl sg pl pa pk pn pf pg) sz (wX7 ct a f' g' nx' hz' sw fl sg pl pa pk pn pf pg)) (va_A (wX7 ct a f g nx hz sw fl sg pl pa pk pn pf pg) sz)) 0 0 (va_A (wX7 ct a f g nx hz sw fl sg pl pa pk pn pf pg) sz) := by
  refine zMet (cc := cX7_leave) (maxL := 2) (ret := (some .int)) (av := [.ref (a 0), .int p1]) (by decide) (Nat.le_of_ble_eq_true rfl) (fun p e s m below meth c ls hx hb hr hml hts hown hlocks hin hB hl => ?_)
  have hl : lv_has ls 2 [(0, .ref (a 0)), (1, .int p1)] := hl
  have hown : s.vm.findClass RX7 = some m.cls := hown
  obtain ⟨hsz, hP, hK, hD0⟩ := hB
  subst hsz
  have hD := hD0.self (sz := s.heap.size)
  obtain ⟨A, hAe⟩ : ∃ A, A = va_A (wX7 ct a f g nx hz sw fl sg pl pa pk pn pf pg) s.heap.size := ⟨_, rfl⟩
  rw [← hAe] at hD
  have hA : ∀ q : Nat, s.heap.size ≤ q → A q := fun q h => by rw [hAe]; exact Or.inr h
  have hS : va_S A s.heap s.heap [] := va_S.rf
  rw [f_X7_leave] at h
  refine lv_aload_n hx hb dX7_leave_0 rfl (lv_at hl 0 rfl) ?_
  refine z_get (C := RX7) (T := TX7) (N := 6) (ci := 6) hx hb hts zin_X7 hown hK.1 hP 0 3 rfl rfl (by decide) tw191 rfl rfl dX7_leave_1 ?_
  refine lv_aload_n hx hb dX7_leave_4 rfl (lv_at hl 0 rfl) ?_
  refine z_get (C := RX7) (T := TX7) (N := 6) (ci := 6) hx hb hts zin_X7 hown hK.1 hP 0 0 rfl rfl (by decide) tw188 rfl rfl dX7_leave_5 ?_
  obtain ⟨g1, hc, h⟩ := zb1_s h
  refine zG_v (w1 := (wX2 ct a g1 nx hz ++ wX5 ct a f)) (ws' := wX7 ct a f g1 nx hz sw fl sg pl pa pk pn pf pg) hP hD hS hA [5, 6, 7, 8, 9, 10, 11, 12, 13, 3, 4] [0, 1, 2, 14, 15, 16, 17, 18, 19, 20, 21] [0, 1, 2, 20, 21, 11, 12, 13, 14, 15, 16, 17, 18, 19, 3, 4, 5, 6, 7, 8, 9, 10] rfl rfl (by decide) (by decide) rfl (by decide) (zrV (C := RX2) (As := [.ref (a 3)]) (rest := []) hx hb hml hown hts tw211 mv_X2_note ⟨Nat.le_of_ble_eq_true rfl, Nat.le_of_ble_eq_true rfl⟩ rfl rfl (ct_X2_note l D ct a g nx hz f _  k g1 hc) (z_wv hK hP hD [5, 6, 7, 8, 9, 10, 11, 12, 13, 3, 4] (by decide) rfl 5 rfl rfl) hl.1 rfl rfl (Nat.le_of_ble_eq_true rfl) dX7_leave_8 ⟨Nat.le_refl _, Nat.le_refl _⟩) (fun H locs hP hD hS => ?_)
  refine lv_aload_n hx hb dX7_leave_11 rfl (lv_at hl 0 rfl) ?_
  refine z_get (C := RX7) (T := TX7) (N := 6) (ci := 6) hx hb hts zin_X7 hown hK.1 hP 0 3 rfl rfl (by decide) tw191 rfl rfl dX7_leave_12 ?_
  refine lv_aload_n hx hb dX7_leave_15 rfl (lv_at hl 0 rfl) ?_
  refine z_get (C := RX7) (T := TX7) (N := 6) (ci := 6) hx hb hts zin_X7 hown hK.1 hP 0 2 rfl rfl (by decide) tw190 rfl rfl dX7_leave_16 ?_
  refine lv_iload_n hx hb dX7_leave_19 rfl (lv_at hl 1 rfl) ?_
  obtain ⟨v2, f3, hc, h⟩ := zb2_s h
  refine zG_i (w1 := wX6 ct a f3) (ws' := wX7 ct a f3 g1 nx hz sw fl sg pl pa pk pn pf pg) hP hD hS hA [1, 2, 3, 4] [0, 5, 6, 7, 8, 9, 10, 11, 12, 13, 14, 15, 16, 17, 18, 19, 20, 21] [0, 18, 19, 20, 21, 1, 2, 3, 4, 5, 6, 7, 8, 9, 10, 11, 12, 13, 14, 15, 16, 17] rfl rfl (by decide) (by decide) rfl (by decide) (zrV (C := RX6) (As := [.int p1]) (rest := [.ref (a 5)]) hx hb hml hown hts tw441 mv_X6_sendLorry ⟨Nat.le_of_ble_eq_true rfl, Nat.le_of_ble_eq_true rfl⟩ rfl rfl (ct_X6_sendLorry l D ct a f _ p1 k v2 f3 hc) (z_wv hK hP hD [1, 2, 3, 4] (by decide) rfl 1 rfl rfl) hl.1 rfl rfl (Nat.le_of_ble_eq_true rfl) dX7_leave_20 ⟨Nat.le_refl _, Nat.le_refl _⟩) (fun H locs hP hD hS => ?_)
  obtain ⟨v4, nx5, hz6, hc, h⟩ := zb3_s h
  refine zG_i (w1 := wX2 ct a g1 nx5 hz6) (ws' := wX7 ct a f3 g1 nx5 hz6 sw fl sg pl pa pk pn pf pg) hP hD hS hA [5, 6, 7, 8, 9, 10, 11, 12, 13] [0, 1, 2, 3, 4, 14, 15, 16, 17, 18, 19, 20, 21] [0, 1, 2, 3, 4, 13, 14, 15, 16, 17, 18, 19, 20, 21, 5, 6, 7, 8, 9, 10, 11, 12] rfl rfl (by decide) (by decide) rfl (by decide) (zrV (C := RX2) (As := [.int v2]) (rest := []) hx hb hml hown hts tw242 mv_X2_settle ⟨Nat.le_of_ble_eq_true rfl, Nat.le_of_ble_eq_true rfl⟩ rfl rfl (ct_X2_settle l D ct a g1 nx hz _ v2 k v4 nx5 hz6 hc) (z_wv hK hP hD [5, 6, 7, 8, 9, 10, 11, 12, 13] (by decide) rfl 5 rfl rfl) hl.1 rfl rfl (Nat.le_of_ble_eq_true rfl) dX7_leave_23 ⟨Nat.le_refl _, Nat.le_refl _⟩) (fun H locs hP hD hS => ?_)
  cases h
  exact zX_i hx hb hr hlocks hP hD hS hAe dX7_leave_26 rfl

def f_X7_night (k : Nat) (f : Nat → Int32) (g : Nat → Nat → Int32) (nx : Int32) (hz : Int32) (p1 : Int32) : Option (Int32 × (Nat → Int32) × (Nat → Nat → Int32) × Int32 × Int32) :=
  zb1 (f_X2_note k f g nx) fun g1 =>
  zb2 (f_X6_passNight k f p1) fun v2 f3 =>
  zb3 (f_X2_settle k nx hz v2) fun v4 nx5 hz6 =>
  some (v4, f3, g1, nx5, hz6)
set_option maxRecDepth 100000 in
set_option maxHeartbeats 4000000 in
theorem ct_X7_night (l : Launch) (D : va_G) (ct a : Nat → Nat) (f : Nat → Int32) (g : Nat → Nat → Int32) (nx : Int32) (hz : Int32) (sw : Nat → Nat → Int32) (fl : Nat → Int32) (sg : Nat → Int32) (pl : Int32) (pa : Int32) (pk : Int32) (pn : Nat → Int32) (pf : Int32) (pg : Int32) (sz : Nat) (p1 : Int32) (k : Nat) (r : Int32) (f' : Nat → Int32) (g' : Nat → Nat → Int32) (nx' : Int32) (hz' : Int32) (h : f_X7_night k f g nx hz p1 = some (r, f', g', nx', hz')) : Met l yX7_night (Cond.code yX7_night cX7_night 2 (some .int) :: zT) ({ frames := 5, cells := 0, slots := 0, locals := 114 } : Room) (va_Pc [.ref (a 0), .int p1] (zPW D (zTys ct) (wX7 ct a f g nx hz sw fl sg pl pa pk pn pf pg) sz)) (va_Qi (fun r' (_ : Unit) => r' = r) (zQW D (wX7 ct a f g nx hz sw fl sg pl pa pk pn pf pg) sz (wX7 ct a f' g' nx' hz' sw fl sg pl pa pk pn pf pg)) (va_A (wX7 ct a f g nx hz sw fl sg pl pa pk pn pf pg) sz)) 0 0 (va_A (wX7 ct a f g nx hz sw fl sg pl pa pk pn pf pg) sz) := by
  refine zMet (cc := cX7_night) (maxL := 2) (ret := (some .int)) (av := [.ref (a 0), .int p1]) (by decide) (Nat.le_of_ble_eq_true rfl) (fun p e s m below meth c ls hx hb hr hml hts hown hlocks hin hB hl => ?_)
  have hl : lv_has ls 2 [(0, .ref (a 0)), (1, .int p1)] := hl
  have hown : s.vm.findClass RX7 = some m.cls := hown
  obtain ⟨hsz, hP, hK, hD0⟩ := hB
  subst hsz
  have hD := hD0.self (sz := s.heap.size)
  obtain ⟨A, hAe⟩ : ∃ A, A = va_A (wX7 ct a f g nx hz sw fl sg pl pa pk pn pf pg) s.heap.size := ⟨_, rfl⟩
  rw [← hAe] at hD
  have hA : ∀ q : Nat, s.heap.size ≤ q → A q := fun q h => by rw [hAe]; exact Or.inr h
  have hS : va_S A s.heap s.heap [] := va_S.rf
  rw [f_X7_night] at h
  refine lv_aload_n hx hb dX7_night_0 rfl (lv_at hl 0 rfl) ?_
  refine z_get (C := RX7) (T := TX7) (N := 6) (ci := 6) hx hb hts zin_X7 hown hK.1 hP 0 3 rfl rfl (by decide) tw191 rfl rfl dX7_night_1 ?_
  refine lv_aload_n hx hb dX7_night_4 rfl (lv_at hl 0 rfl) ?_
  refine z_get (C := RX7) (T := TX7) (N := 6) (ci := 6) hx hb hts zin_X7 hown hK.1 hP 0 0 rfl rfl (by decide) tw188 rfl rfl dX7_night_5 ?_
  obtain ⟨g1, hc, h⟩ := zb1_s h
  refine zG_v (w1 := (wX2 ct a g1 nx hz ++ wX5 ct a f)) (ws' := wX7 ct a f g1 nx hz sw fl sg pl pa pk pn pf pg) hP hD hS hA [5, 6, 7, 8, 9, 10, 11, 12, 13, 3, 4] [0, 1, 2, 14, 15, 16, 17, 18, 19, 20, 21] [0, 1, 2, 20, 21, 11, 12, 13, 14, 15, 16, 17, 18, 19, 3, 4, 5, 6, 7, 8, 9, 10] rfl rfl (by decide) (by decide) rfl (by decide) (zrV (C := RX2) (As := [.ref (a 3)]) (rest := []) hx hb hml hown hts tw211 mv_X2_note ⟨Nat.le_of_ble_eq_true rfl, Nat.le_of_ble_eq_true rfl⟩ rfl rfl (ct_X2_note l D ct a g nx hz f _  k g1 hc) (z_wv hK hP hD [5, 6, 7, 8, 9, 10, 11, 12, 13, 3, 4] (by decide) rfl 5 rfl rfl) hl.1 rfl rfl (Nat.le_of_ble_eq_true rfl) dX7_night_8 ⟨Nat.le_refl _, Nat.le_refl _⟩) (fun H locs hP hD hS => ?_)
  refine lv_aload_n hx hb dX7_night_11 rfl (lv_at hl 0 rfl) ?_
  refine z_get (C := RX7) (T := TX7) (N := 6) (ci := 6) hx hb hts zin_X7 hown hK.1 hP 0 3 rfl rfl (by decide) tw191 rfl rfl dX7_night_12 ?_
  refine lv_aload_n hx hb dX7_night_15 rfl (lv_at hl 0 rfl) ?_
  refine z_get (C := RX7) (T := TX7) (N := 6) (ci := 6) hx hb hts zin_X7 hown hK.1 hP 0 2 rfl rfl (by decide) tw190 rfl rfl dX7_night_16 ?_
  refine lv_iload_n hx hb dX7_night_19 rfl (lv_at hl 1 rfl) ?_
  obtain ⟨v2, f3, hc, h⟩ := zb2_s h
  refine zG_i (w1 := wX6 ct a f3) (ws' := wX7 ct a f3 g1 nx hz sw fl sg pl pa pk pn pf pg) hP hD hS hA [1, 2, 3, 4] [0, 5, 6, 7, 8, 9, 10, 11, 12, 13, 14, 15, 16, 17, 18, 19, 20, 21] [0, 18, 19, 20, 21, 1, 2, 3, 4, 5, 6, 7, 8, 9, 10, 11, 12, 13, 14, 15, 16, 17] rfl rfl (by decide) (by decide) rfl (by decide) (zrV (C := RX6) (As := [.int p1]) (rest := [.ref (a 5)]) hx hb hml hown hts tw476 mv_X6_passNight ⟨Nat.le_of_ble_eq_true rfl, Nat.le_of_ble_eq_true rfl⟩ rfl rfl (ct_X6_passNight l D ct a f _ p1 k v2 f3 hc) (z_wv hK hP hD [1, 2, 3, 4] (by decide) rfl 1 rfl rfl) hl.1 rfl rfl (Nat.le_of_ble_eq_true rfl) dX7_night_20 ⟨Nat.le_refl _, Nat.le_refl _⟩) (fun H locs hP hD hS => ?_)
  obtain ⟨v4, nx5, hz6, hc, h⟩ := zb3_s h
  refine zG_i (w1 := wX2 ct a g1 nx5 hz6) (ws' := wX7 ct a f3 g1 nx5 hz6 sw fl sg pl pa pk pn pf pg) hP hD hS hA [5, 6, 7, 8, 9, 10, 11, 12, 13] [0, 1, 2, 3, 4, 14, 15, 16, 17, 18, 19, 20, 21] [0, 1, 2, 3, 4, 13, 14, 15, 16, 17, 18, 19, 20, 21, 5, 6, 7, 8, 9, 10, 11, 12] rfl rfl (by decide) (by decide) rfl (by decide) (zrV (C := RX2) (As := [.int v2]) (rest := []) hx hb hml hown hts tw242 mv_X2_settle ⟨Nat.le_of_ble_eq_true rfl, Nat.le_of_ble_eq_true rfl⟩ rfl rfl (ct_X2_settle l D ct a g1 nx hz _ v2 k v4 nx5 hz6 hc) (z_wv hK hP hD [5, 6, 7, 8, 9, 10, 11, 12, 13] (by decide) rfl 5 rfl rfl) hl.1 rfl rfl (Nat.le_of_ble_eq_true rfl) dX7_night_23 ⟨Nat.le_refl _, Nat.le_refl _⟩) (fun H locs hP hD hS => ?_)
  cases h
  exact zX_i hx hb hr hlocks hP hD hS hAe dX7_night_26 rfl

def f_X3_findFault_b6 (k : Nat) (sg : Nat → Int32) (pl : Int32)  : Nat → Int32 → Int32 → (Nat → Int32) → Int32 → Int32 → Int32 → Option (Int32 × Int32 × Int32 × (Nat → Int32) × Int32 × Int32)
  | 0, _, _, _, _, _, _ => none
  | n + 1, pa_, pk_, pn_, pf_, pg_, x1 =>
    if (80 : Int32) ≤ x1 then
      some (pa_, pa_, pk_, pn_, pf_, pg_)
    else
      zb6 (f_X3_readOrder k sg pl pa_ pk_ pn_ pf_ pg_) fun v2 pa3 pk4 pn5 pf6 pg7 =>
      if v2 = 0 then
        some (pa3, pa3, pk4, pn5, pf6, pg7)
      else
        if pa3 = pl then
          some ((-6 : Int32), pa3, pk4, pn5, pf6, pg7)
        else
          zl (x1 + (1 : Int32)) fun v8 =>
          f_X3_findFault_b6 k sg pl n pa3 pk4 pn5 pf6 pg7 v8
def f_X3_findFault (k : Nat) (sg : Nat → Int32) (pl : Int32) (pa : Int32) (pk : Int32) (pn : Nat → Int32) (pf : Int32) (pg : Int32) : Option (Int32 × Int32 × Int32 × (Nat → Int32) × Int32 × Int32) :=
  zb1 (f_X3_rewind k pa) fun pa1 =>
  f_X3_findFault_b6 k sg pl k pa1 pk pn pf pg (0 : Int32)
set_option maxRecDepth 100000 in
set_option maxHeartbeats 4000000 in
theorem ct_X3_findFault (l : Launch) (D : va_G) (ct a st : Nat → Nat) (sg : Nat → Int32) (pl : Int32) (pa : Int32) (pk : Int32) (pn : Nat → Int32) (pf : Int32) (pg : Int32) (sz : Nat) (k : Nat) (r : Int32) (pa' : Int32) (pk' : Int32) (pn' : Nat → Int32) (pf' : Int32) (pg' : Int32) (h : f_X3_findFault k sg pl pa pk pn pf pg = some (r, pa', pk', pn', pf', pg')) : Met l yX3_findFault (Cond.code yX3_findFault cX3_findFault 2 (some .int) :: zT) ({ frames := 5, cells := 0, slots := 0, locals := 110 } : Room) (va_Pc [.ref (a 10)] (zPZ D (zTys ct) st (wX3 ct a sg pl pa pk pn pf pg) sz)) (va_Qi (fun r' (_ : Unit) => r' = r) (zQW D (wX3 ct a sg pl pa pk pn pf pg) sz (wX3 ct a sg pl pa' pk' pn' pf' pg')) (va_A (wX3 ct a sg pl pa pk pn pf pg) sz)) 0 0 (va_A (wX3 ct a sg pl pa pk pn pf pg) sz) := by
  refine zMet (cc := cX3_findFault) (maxL := 2) (ret := (some .int)) (av := [.ref (a 10)]) (by decide) (Nat.le_of_ble_eq_true rfl) (fun p e s m below meth c ls hx hb hr hml hts hown hlocks hin hB hl => ?_)
  have hl : lv_has ls 2 [(0, .ref (a 10))] := hl
  have hown : s.vm.findClass RX3 = some m.cls := hown
  obtain ⟨⟨hsz, hP, hK, hD0⟩, hZ⟩ := hB
  subst hsz
  have hD := hD0.self (sz := s.heap.size)
  obtain ⟨A, hAe⟩ : ∃ A, A = va_A (wX3 ct a sg pl pa pk pn pf pg) s.heap.size := ⟨_, rfl⟩
  rw [← hAe] at hD hZ
  have hA : ∀ q : Nat, s.heap.size ≤ q → A q := fun q h => by rw [hAe]; exact Or.inr h
  have hS : va_S A s.heap s.heap [] := va_S.rf
  have B6 : ∀ (n : Nat), ∀ (pa_ : Int32) (pk_ : Int32) (pn_ : Nat → Int32) (pf_ : Int32) (pg_ : Int32) (x1 : Int32), f_X3_findFault_b6 k sg pl n pa_ pk_ pn_ pf_ pg_ x1 = some (r, pa', pk', pn', pf', pg') → ∀ (H : Heap) (locs : List Loc), va_P D vwCl (wX3 ct a sg pl pa_ pk_ pn_ pf_ pg_) H → va_D A (wX3 ct a sg pl pa_ pk_ pn_ pf_ pg_) → va_S A s.heap H locs → ∀ (ls : Array Slot), lv_has ls 2 [(0, .ref (a 10)), (1, .int x1)] → W p l e ({ frames := 5, cells := 0, slots := 0, locals := 110 } : Room) s m ([.ref (a 10)] : List Value).toArray below meth c H locs 0 0 (MQ below (va_Qi (fun r' (_ : Unit) => r' = r) (zQW D (wX3 ct a sg pl pa pk pn pf pg) s.heap.size (wX3 ct a sg pl pa' pk' pn' pf' pg')) (va_A (wX3 ct a sg pl pa pk pn pf pg) s.heap.size)) ([.ref (a 10)] : List Value).toArray s 0 0 (va_A (wX3 ct a sg pl pa pk pn pf pg) s.heap.size)) (F0 m 6 ls []) := by
    intro n
    induction n with
    | zero => intro pa_ pk_ pn_ pf_ pg_ x1 h; exact absurd h (by rw [f_X3_findFault_b6]; exact fun q => nomatch q)
    | succ n ih6 =>
      intro pa_ pk_ pn_ pf_ pg_ x1 h H locs hP hD hS ls hl
      rw [f_X3_findFault_b6] at h
      refine lv_iload_n hx hb dX3_findFault_6 rfl (lv_at hl 1 rfl) ?_
      refine lv_bipush (v := (80 : Int32)) hx hb dX3_findFault_7 (by decide) ?_
      refine zc_ge (tgt := 39) hx hb dX3_findFault_9 (by decide) h (fun h => ?_) (fun h => ?_)
      · refine lv_aload_n hx hb dX3_findFault_39 rfl (lv_at hl 0 rfl) ?_
        refine z_get (C := RX3) (T := TX3) (N := 7) (ci := 2) hx hb hts zin_X3 hown hK.1 hP 0 2 rfl rfl (by decide) tw167 rfl rfl dX3_findFault_40 ?_
        cases h
        exact zX_i hx hb hr hlocks hP hD hS hAe dX3_findFault_43 rfl
      · refine lv_aload_n hx hb dX3_findFault_12 rfl (lv_at hl 0 rfl) ?_
        obtain ⟨v2, pa3, pk4, pn5, pf6, pg7, hc, h⟩ := zb6_s h
        refine zG_i (w1 := wX3 ct a sg pl pa3 pk4 pn5 pf6 pg7) (ws' := wX3 ct a sg pl pa3 pk4 pn5 pf6 pg7) hP hD hS hA [0, 1, 2] [] [0, 1, 2] rfl rfl (by decide) (by decide) rfl (by decide) (zrV (C := RX3) (As := []) (rest := []) hx hb hml hown hts tw650 mv_X3_readOrder ⟨Nat.le_of_ble_eq_true rfl, Nat.le_of_ble_eq_true rfl⟩ rfl rfl (ct_X3_readOrder l D ct a st sg pl pa_ pk_ pn_ pf_ pg_ _  k v2 pa3 pk4 pn5 pf6 pg7 hc) (z_zv hZ hK hP hD hS hA [0, 1, 2] (by decide) rfl 0 rfl rfl) hl.1 rfl rfl (Nat.le_of_ble_eq_true rfl) dX3_findFault_13 ⟨Nat.le_refl _, Nat.le_refl _⟩) (fun H locs hP hD hS => ?_)
        refine zi_eq (tgt := 39) hx hb dX3_findFault_16 (by decide) h (fun h => ?_) (fun h => ?_)
        · refine lv_aload_n hx hb dX3_findFault_39 rfl (lv_at hl 0 rfl) ?_
          refine z_get (C := RX3) (T := TX3) (N := 7) (ci := 2) hx hb hts zin_X3 hown hK.1 hP 0 2 rfl rfl (by decide) tw167 rfl rfl dX3_findFault_40 ?_
          cases h
          exact zX_i hx hb hr hlocks hP hD hS hAe dX3_findFault_43 rfl
        · refine lv_aload_n hx hb dX3_findFault_19 rfl (lv_at hl 0 rfl) ?_
          refine z_get (C := RX3) (T := TX3) (N := 7) (ci := 2) hx hb hts zin_X3 hown hK.1 hP 0 2 rfl rfl (by decide) tw167 rfl rfl dX3_findFault_20 ?_
          refine lv_aload_n hx hb dX3_findFault_23 rfl (lv_at hl 0 rfl) ?_
          refine z_get (C := RX3) (T := TX3) (N := 7) (ci := 2) hx hb hts zin_X3 hown hK.1 hP 0 1 rfl rfl (by decide) tw166 rfl rfl dX3_findFault_24 ?_
          refine zc_ne (tgt := 33) hx hb dX3_findFault_27 (by decide) h (fun h => ?_) (fun h => ?_)
          · refine o_nm h (fun v8 ey h => ?_)
            refine lv_iinc (v := v8) (lv' := [(1, .int v8), (0, .ref (a 10))]) hx hb dX3_findFault_33 hl (k := 1) rfl (Eq.trans rfl ey) (by decide) rfl (fun ls hl => ?_)
            refine lv_goto (tgt := 6) hx hb dX3_findFault_36 (by decide) ?_
            exact ih6 pa3 pk4 pn5 pf6 pg7 v8 h _ _ hP hD hS ls (lv_sub hl [1, 0] rfl)
          · refine lv_bipush (v := (-6 : Int32)) hx hb dX3_findFault_30 (by decide) ?_
            cases h
            exact zX_i hx hb hr hlocks hP hD hS hAe dX3_findFault_32 rfl
  rw [f_X3_findFault] at h
  refine lv_aload_n hx hb dX3_findFault_0 rfl (lv_at hl 0 rfl) ?_
  obtain ⟨pa1, hc, h⟩ := zb1_s h
  refine zG_v (w1 := wX3 ct a sg pl pa1 pk pn pf pg) (ws' := wX3 ct a sg pl pa1 pk pn pf pg) hP hD hS hA [0, 1, 2] [] [0, 1, 2] rfl rfl (by decide) (by decide) rfl (by decide) (zrV (C := RX3) (As := []) (rest := []) hx hb hml hown hts tw646 mv_X3_rewind ⟨Nat.le_of_ble_eq_true rfl, Nat.le_of_ble_eq_true rfl⟩ rfl rfl (ct_X3_rewind l D ct a sg pl pa pk pn pf pg _  k pa1 hc) (z_wv hK hP hD [0, 1, 2] (by decide) rfl 0 rfl rfl) hl.1 rfl rfl (Nat.le_of_ble_eq_true rfl) dX3_findFault_1 ⟨Nat.le_refl _, Nat.le_refl _⟩) (fun H locs hP hD hS => ?_)
  refine lv_iconst (v := (0 : Int32)) hx hb dX3_findFault_4 (by decide) ?_
  refine lv_istore_n (lv' := [(1, .int (0 : Int32)), (0, .ref (a 10))]) hx hb dX3_findFault_5 rfl hl (by decide) rfl (fun ls hl => ?_)
  exact B6 k pa1 pk pn pf pg (0 : Int32) h _ _ hP hD hS ls (lv_sub hl [1, 0] rfl)

def f_X7_fault (k : Nat) (sg : Nat → Int32) (pl : Int32) (pa : Int32) (pk : Int32) (pn : Nat → Int32) (pf : Int32) (pg : Int32) : Option (Int32 × Int32 × Int32 × (Nat → Int32) × Int32 × Int32) :=
  zb6 (f_X3_findFault k sg pl pa pk pn pf pg) fun v1 pa2 pk3 pn4 pf5 pg6 =>
  some (v1, pa2, pk3, pn4, pf5, pg6)
set_option maxRecDepth 100000 in
set_option maxHeartbeats 4000000 in
theorem ct_X7_fault (l : Launch) (D : va_G) (ct a st : Nat → Nat) (f : Nat → Int32) (g : Nat → Nat → Int32) (nx : Int32) (hz : Int32) (sw : Nat → Nat → Int32) (fl : Nat → Int32) (sg : Nat → Int32) (pl : Int32) (pa : Int32) (pk : Int32) (pn : Nat → Int32) (pf : Int32) (pg : Int32) (sz : Nat) (k : Nat) (r : Int32) (pa' : Int32) (pk' : Int32) (pn' : Nat → Int32) (pf' : Int32) (pg' : Int32) (h : f_X7_fault k sg pl pa pk pn pf pg = some (r, pa', pk', pn', pf', pg')) : Met l yX7_fault (Cond.code yX7_fault cX7_fault 1 (some .int) :: zT) ({ frames := 6, cells := 0, slots := 0, locals := 131 } : Room) (va_Pc [.ref (a 0)] (zPZ D (zTys ct) st (wX7 ct a f g nx hz sw fl sg pl pa pk pn pf pg) sz)) (va_Qi (fun r' (_ : Unit) => r' = r) (zQW D (wX7 ct a f g nx hz sw fl sg pl pa pk pn pf pg) sz (wX7 ct a f g nx hz sw fl sg pl pa' pk' pn' pf' pg')) (va_A (wX7 ct a f g nx hz sw fl sg pl pa pk pn pf pg) sz)) 0 0 (va_A (wX7 ct a f g nx hz sw fl sg pl pa pk pn pf pg) sz) := by
  refine zMet (cc := cX7_fault) (maxL := 1) (ret := (some .int)) (av := [.ref (a 0)]) (by decide) (Nat.le_of_ble_eq_true rfl) (fun p e s m below meth c ls hx hb hr hml hts hown hlocks hin hB hl => ?_)
  have hl : lv_has ls 1 [(0, .ref (a 0))] := hl
  have hown : s.vm.findClass RX7 = some m.cls := hown
  obtain ⟨⟨hsz, hP, hK, hD0⟩, hZ⟩ := hB
  subst hsz
  have hD := hD0.self (sz := s.heap.size)
  obtain ⟨A, hAe⟩ : ∃ A, A = va_A (wX7 ct a f g nx hz sw fl sg pl pa pk pn pf pg) s.heap.size := ⟨_, rfl⟩
  rw [← hAe] at hD hZ
  have hA : ∀ q : Nat, s.heap.size ≤ q → A q := fun q h => by rw [hAe]; exact Or.inr h
  have hS : va_S A s.heap s.heap [] := va_S.rf
  rw [f_X7_fault] at h
  refine lv_aload_n hx hb dX7_fault_0 rfl (lv_at hl 0 rfl) ?_
  refine z_get (C := RX7) (T := TX7) (N := 6) (ci := 6) hx hb hts zin_X7 hown hK.1 hP 0 5 rfl rfl (by decide) tw193 rfl rfl dX7_fault_1 ?_
  obtain ⟨v1, pa2, pk3, pn4, pf5, pg6, hc, h⟩ := zb6_s h
  refine zG_i (w1 := wX3 ct a sg pl pa2 pk3 pn4 pf5 pg6) (ws' := wX7 ct a f g nx hz sw fl sg pl pa2 pk3 pn4 pf5 pg6) hP hD hS hA [19, 20, 21] [0, 1, 2, 3, 4, 5, 6, 7, 8, 9, 10, 11, 12, 13, 14, 15, 16, 17, 18] [0, 1, 2, 3, 4, 5, 6, 7, 8, 9, 10, 11, 12, 13, 14, 15, 16, 17, 18, 19, 20, 21] rfl rfl (by decide) (by decide) rfl (by decide) (zrV (C := RX3) (As := []) (rest := []) hx hb hml hown hts tw642 mv_X3_findFault ⟨Nat.le_of_ble_eq_true rfl, Nat.le_of_ble_eq_true rfl⟩ rfl rfl (ct_X3_findFault l D ct a st sg pl pa pk pn pf pg _  k v1 pa2 pk3 pn4 pf5 pg6 hc) (z_zv hZ hK hP hD hS hA [19, 20, 21] (by decide) rfl 19 rfl rfl) hl.1 rfl rfl (Nat.le_of_ble_eq_true rfl) dX7_fault_4 ⟨Nat.le_refl _, Nat.le_refl _⟩) (fun H locs hP hD hS => ?_)
  cases h
  exact zX_i hx hb hr hlocks hP hD hS hAe dX7_fault_7 rfl

def f_X7_carryOut_b64 (k : Nat) (sg : Nat → Int32)  (f_ : Nat → Int32) (g_ : Nat → Nat → Int32) (nx_ : Int32) (hz_ : Int32) (pl_ : Int32) (pa_ : Int32) (pk_ : Int32) (pn_ : Nat → Int32) (pf_ : Int32) (pg_ : Int32) (x1 : Int32) : Option (Int32 × (Nat → Int32) × (Nat → Nat → Int32) × Int32 × Int32 × Int32 × Int32 × Int32 × (Nat → Int32) × Int32 × Int32) :=
  zb2 (f_X3_clear k pl_) fun v9 pl10 =>
  zb3 (f_X2_settle k nx_ hz_ x1) fun v11 nx12 hz13 =>
  some (v11, f_, g_, nx12, hz13, pl10, pa_, pk_, pn_, pf_, pg_)
def f_X7_carryOut_b35 (k : Nat) (sg : Nat → Int32)  : Nat → (Nat → Int32) → (Nat → Nat → Int32) → Int32 → Int32 → Int32 → Int32 → Int32 → (Nat → Int32) → Int32 → Int32 → Int32 → Option (Int32 × (Nat → Int32) × (Nat → Nat → Int32) × Int32 × Int32 × Int32 × Int32 × Int32 × (Nat → Int32) × Int32 × Int32)
  | 0, _, _, _, _, _, _, _, _, _, _, _ => none
  | n + 1, f_, g_, nx_, hz_, pl_, pa_, pk_, pn_, pf_, pg_, x1 =>
    if (80 : Int32) ≤ x1 then
      f_X7_carryOut_b64 k sg f_ g_ nx_ hz_ pl_ pa_ pk_ pn_ pf_ pg_ x1
    else
      zb6 (f_X3_readOrder k sg pl_ pa_ pk_ pn_ pf_ pg_) fun v14 pa15 pk16 pn17 pf18 pg19 =>
      if v14 = 0 then
        f_X7_carryOut_b64 k sg f_ g_ nx_ hz_ pl_ pa15 pk16 pn17 pf18 pg19 x1
      else
        zb2 (f_X7_carryOrder k f_ pk16 pn17 pf18) fun v20 f21 =>
        if v20 < 0 then
          f_X7_carryOut_b64 k sg f21 g_ nx_ hz_ pl_ pa15 pk16 pn17 pf18 pg19 x1
        else
          zl (x1 + (1 : Int32)) fun v22 =>
          f_X7_carryOut_b35 k sg n f21 g_ nx_ hz_ pl_ pa15 pk16 pn17 pf18 pg19 v22
def f_X7_carryOut (k : Nat) (f : Nat → Int32) (g : Nat → Nat → Int32) (nx : Int32) (hz : Int32) (sg : Nat → Int32) (pl : Int32) (pa : Int32) (pk : Int32) (pn : Nat → Int32) (pf : Int32) (pg : Int32) : Option (Int32 × (Nat → Int32) × (Nat → Nat → Int32) × Int32 × Int32 × Int32 × Int32 × Int32 × (Nat → Int32) × Int32 × Int32) :=
  zb6 (f_X3_findFault k sg pl pa pk pn pf pg) fun v1 pa2 pk3 pn4 pf5 pg6 =>
  if v1 = (-6 : Int32) then
    zb1 (f_X2_note k f g nx) fun g7 =>
    zb1 (f_X3_rewind k pa2) fun pa8 =>
    f_X7_carryOut_b35 k sg k f g7 nx hz pl pa8 pk3 pn4 pf5 pg6 (0 : Int32)
  else
    some ((-3 : Int32), f, g, nx, hz, pl, pa2, pk3, pn4, pf5, pg6)
set_option maxRecDepth 100000 in
set_option maxHeartbeats 4000000 in
theorem ct_X7_carryOut (l : Launch) (D : va_G) (ct a st : Nat → Nat) (f : Nat → Int32) (g : Nat → Nat → Int32) (nx : Int32) (hz : Int32) (sw : Nat → Nat → Int32) (fl : Nat → Int32) (sg : Nat → Int32) (pl : Int32) (pa : Int32) (pk : Int32) (pn : Nat → Int32) (pf : Int32) (pg : Int32) (sz : Nat) (k : Nat) (r : Int32) (f' : Nat → Int32) (g' : Nat → Nat → Int32) (nx' : Int32) (hz' : Int32) (pl' : Int32) (pa' : Int32) (pk' : Int32) (pn' : Nat → Int32) (pf' : Int32) (pg' : Int32) (h : f_X7_carryOut k f g nx hz sg pl pa pk pn pf pg = some (r, f', g', nx', hz', pl', pa', pk', pn', pf', pg')) : Met l yX7_carryOut (Cond.code yX7_carryOut cX7_carryOut 2 (some .int) :: zT) ({ frames := 7, cells := 0, slots := 0, locals := 159 } : Room) (va_Pc [.ref (a 0)] (zPZ D (zTys ct) st (wX7 ct a f g nx hz sw fl sg pl pa pk pn pf pg) sz)) (va_Qi (fun r' (_ : Unit) => r' = r) (zQW D (wX7 ct a f g nx hz sw fl sg pl pa pk pn pf pg) sz (wX7 ct a f' g' nx' hz' sw fl sg pl' pa' pk' pn' pf' pg')) (va_A (wX7 ct a f g nx hz sw fl sg pl pa pk pn pf pg) sz)) 0 0 (va_A (wX7 ct a f g nx hz sw fl sg pl pa pk pn pf pg) sz) := by
  refine zMet (cc := cX7_carryOut) (maxL := 2) (ret := (some .int)) (av := [.ref (a 0)]) (by decide) (Nat.le_of_ble_eq_true rfl) (fun p e s m below meth c ls hx hb hr hml hts hown hlocks hin hB hl => ?_)
  have hl : lv_has ls 2 [(0, .ref (a 0))] := hl
  have hown : s.vm.findClass RX7 = some m.cls := hown
  obtain ⟨⟨hsz, hP, hK, hD0⟩, hZ⟩ := hB
  subst hsz
  have hD := hD0.self (sz := s.heap.size)
  obtain ⟨A, hAe⟩ : ∃ A, A = va_A (wX7 ct a f g nx hz sw fl sg pl pa pk pn pf pg) s.heap.size := ⟨_, rfl⟩
  rw [← hAe] at hD hZ
  have hA : ∀ q : Nat, s.heap.size ≤ q → A q := fun q h => by rw [hAe]; exact Or.inr h
  have hS : va_S A s.heap s.heap [] := va_S.rf
  have B64 : ∀ (f_ : Nat → Int32) (g_ : Nat → Nat → Int32) (nx_ : Int32) (hz_ : Int32) (pl_ : Int32) (pa_ : Int32) (pk_ : Int32) (pn_ : Nat → Int32) (pf_ : Int32) (pg_ : Int32) (x1 : Int32), f_X7_carryOut_b64 k sg f_ g_ nx_ hz_ pl_ pa_ pk_ pn_ pf_ pg_ x1 = some (r, f', g', nx', hz', pl', pa', pk', pn', pf', pg') → ∀ (H : Heap) (locs : List Loc), va_P D vwCl (wX7 ct a f_ g_ nx_ hz_ sw fl sg pl_ pa_ pk_ pn_ pf_ pg_) H → va_D A (wX7 ct a f_ g_ nx_ hz_ sw fl sg pl_ pa_ pk_ pn_ pf_ pg_) → va_S A s.heap H locs → ∀ (ls : Array Slot), lv_has ls 2 [(0, .ref (a 0)), (1, .int x1)] → W p l e ({ frames := 7, cells := 0, slots := 0, locals := 159 } : Room) s m ([.ref (a 0)] : List Value).toArray below meth c H locs 0 0 (MQ below (va_Qi (fun r' (_ : Unit) => r' = r) (zQW D (wX7 ct a f g nx hz sw fl sg pl pa pk pn pf pg) s.heap.size (wX7 ct a f' g' nx' hz' sw fl sg pl' pa' pk' pn' pf' pg')) (va_A (wX7 ct a f g nx hz sw fl sg pl pa pk pn pf pg) s.heap.size)) ([.ref (a 0)] : List Value).toArray s 0 0 (va_A (wX7 ct a f g nx hz sw fl sg pl pa pk pn pf pg) s.heap.size)) (F0 m 64 ls []) := by
    intro f_ g_ nx_ hz_ pl_ pa_ pk_ pn_ pf_ pg_ x1 h H locs hP hD hS ls hl
    rw [f_X7_carryOut_b64] at h
    refine lv_aload_n hx hb dX7_carryOut_64 rfl (lv_at hl 0 rfl) ?_
    refine z_get (C := RX7) (T := TX7) (N := 6) (ci := 6) hx hb hts zin_X7 hown hK.1 hP 0 5 rfl rfl (by decide) tw193 rfl rfl dX7_carryOut_65 ?_
    obtain ⟨v9, pl10, hc, h⟩ := zb2_s h
    refine zG_i (w1 := wX3 ct a sg pl10 pa_ pk_ pn_ pf_ pg_) (ws' := wX7 ct a f_ g_ nx_ hz_ sw fl sg pl10 pa_ pk_ pn_ pf_ pg_) hP hD hS hA [19, 20, 21] [0, 1, 2, 3, 4, 5, 6, 7, 8, 9, 10, 11, 12, 13, 14, 15, 16, 17, 18] [0, 1, 2, 3, 4, 5, 6, 7, 8, 9, 10, 11, 12, 13, 14, 15, 16, 17, 18, 19, 20, 21] rfl rfl (by decide) (by decide) rfl (by decide) (zrV (C := RX3) (As := []) (rest := []) hx hb hml hown hts tw634 mv_X3_clear ⟨Nat.le_of_ble_eq_true rfl, Nat.le_of_ble_eq_true rfl⟩ rfl rfl (ct_X3_clear l D ct a sg pl_ pa_ pk_ pn_ pf_ pg_ _  k v9 pl10 hc) (z_wv hK hP hD [19, 20, 21] (by decide) rfl 19 rfl rfl) hl.1 rfl rfl (Nat.le_of_ble_eq_true rfl) dX7_carryOut_68 ⟨Nat.le_refl _, Nat.le_refl _⟩) (fun H locs hP hD hS => ?_)
    refine lv_pop hx hb dX7_carryOut_71 rfl ?_
    refine lv_aload_n hx hb dX7_carryOut_72 rfl (lv_at hl 0 rfl) ?_
    refine z_get (C := RX7) (T := TX7) (N := 6) (ci := 6) hx hb hts zin_X7 hown hK.1 hP 0 3 rfl rfl (by decide) tw191 rfl rfl dX7_carryOut_73 ?_
    refine lv_iload_n hx hb dX7_carryOut_76 rfl (lv_at hl 1 rfl) ?_
    obtain ⟨v11, nx12, hz13, hc, h⟩ := zb3_s h
    refine zG_i (w1 := wX2 ct a g_ nx12 hz13) (ws' := wX7 ct a f_ g_ nx12 hz13 sw fl sg pl10 pa_ pk_ pn_ pf_ pg_) hP hD hS hA [5, 6, 7, 8, 9, 10, 11, 12, 13] [0, 1, 2, 3, 4, 14, 15, 16, 17, 18, 19, 20, 21] [0, 1, 2, 3, 4, 13, 14, 15, 16, 17, 18, 19, 20, 21, 5, 6, 7, 8, 9, 10, 11, 12] rfl rfl (by decide) (by decide) rfl (by decide) (zrV (C := RX2) (As := [.int x1]) (rest := []) hx hb hml hown hts tw242 mv_X2_settle ⟨Nat.le_of_ble_eq_true rfl, Nat.le_of_ble_eq_true rfl⟩ rfl rfl (ct_X2_settle l D ct a g_ nx_ hz_ _ x1 k v11 nx12 hz13 hc) (z_wv hK hP hD [5, 6, 7, 8, 9, 10, 11, 12, 13] (by decide) rfl 5 rfl rfl) hl.1 rfl rfl (Nat.le_of_ble_eq_true rfl) dX7_carryOut_77 ⟨Nat.le_refl _, Nat.le_refl _⟩) (fun H locs hP hD hS => ?_)
    cases h
    exact zX_i hx hb hr hlocks hP hD hS hAe dX7_carryOut_80 rfl
  have B35 : ∀ (n : Nat), ∀ (f_ : Nat → Int32) (g_ : Nat → Nat → Int32) (nx_ : Int32) (hz_ : Int32) (pl_ : Int32) (pa_ : Int32) (pk_ : Int32) (pn_ : Nat → Int32) (pf_ : Int32) (pg_ : Int32) (x1 : Int32), f_X7_carryOut_b35 k sg n f_ g_ nx_ hz_ pl_ pa_ pk_ pn_ pf_ pg_ x1 = some (r, f', g', nx', hz', pl', pa', pk', pn', pf', pg') → ∀ (H : Heap) (locs : List Loc), va_P D vwCl (wX7 ct a f_ g_ nx_ hz_ sw fl sg pl_ pa_ pk_ pn_ pf_ pg_) H → va_D A (wX7 ct a f_ g_ nx_ hz_ sw fl sg pl_ pa_ pk_ pn_ pf_ pg_) → va_S A s.heap H locs → ∀ (ls : Array Slot), lv_has ls 2 [(0, .ref (a 0)), (1, .int x1)] → W p l e ({ frames := 7, cells := 0, slots := 0, locals := 159 } : Room) s m ([.ref (a 0)] : List Value).toArray below meth c H locs 0 0 (MQ below (va_Qi (fun r' (_ : Unit) => r' = r) (zQW D (wX7 ct a f g nx hz sw fl sg pl pa pk pn pf pg) s.heap.size (wX7 ct a f' g' nx' hz' sw fl sg pl' pa' pk' pn' pf' pg')) (va_A (wX7 ct a f g nx hz sw fl sg pl pa pk pn pf pg) s.heap.size)) ([.ref (a 0)] : List Value).toArray s 0 0 (va_A (wX7 ct a f g nx hz sw fl sg pl pa pk pn pf pg) s.heap.size)) (F0 m 35 ls []) := by
    intro n
    induction n with
    | zero => intro f_ g_ nx_ hz_ pl_ pa_ pk_ pn_ pf_ pg_ x1 h; exact absurd h (by rw [f_X7_carryOut_b35]; exact fun q => nomatch q)
    | succ n ih35 =>
      intro f_ g_ nx_ hz_ pl_ pa_ pk_ pn_ pf_ pg_ x1 h H locs hP hD hS ls hl
      rw [f_X7_carryOut_b35] at h
      refine lv_iload_n hx hb dX7_carryOut_35 rfl (lv_at hl 1 rfl) ?_
      refine lv_bipush (v := (80 : Int32)) hx hb dX7_carryOut_36 (by decide) ?_
      refine zc_ge (tgt := 64) hx hb dX7_carryOut_38 (by decide) h (fun h => ?_) (fun h => ?_)
      · exact B64 f_ g_ nx_ hz_ pl_ pa_ pk_ pn_ pf_ pg_ x1 h _ _ hP hD hS ls (lv_sub hl [0, 1] rfl)
      · refine lv_aload_n hx hb dX7_carryOut_41 rfl (lv_at hl 0 rfl) ?_
        refine z_get (C := RX7) (T := TX7) (N := 6) (ci := 6) hx hb hts zin_X7 hown hK.1 hP 0 5 rfl rfl (by decide) tw193 rfl rfl dX7_carryOut_42 ?_
        obtain ⟨v14, pa15, pk16, pn17, pf18, pg19, hc, h⟩ := zb6_s h
        refine zG_i (w1 := wX3 ct a sg pl_ pa15 pk16 pn17 pf18 pg19) (ws' := wX7 ct a f_ g_ nx_ hz_ sw fl sg pl_ pa15 pk16 pn17 pf18 pg19) hP hD hS hA [19, 20, 21] [0, 1, 2, 3, 4, 5, 6, 7, 8, 9, 10, 11, 12, 13, 14, 15, 16, 17, 18] [0, 1, 2, 3, 4, 5, 6, 7, 8, 9, 10, 11, 12, 13, 14, 15, 16, 17, 18, 19, 20, 21] rfl rfl (by decide) (by decide) rfl (by decide) (zrV (C := RX3) (As := []) (rest := []) hx hb hml hown hts tw739 mv_X3_readOrder ⟨Nat.le_of_ble_eq_true rfl, Nat.le_of_ble_eq_true rfl⟩ rfl rfl (ct_X3_readOrder l D ct a st sg pl_ pa_ pk_ pn_ pf_ pg_ _  k v14 pa15 pk16 pn17 pf18 pg19 hc) (z_zv hZ hK hP hD hS hA [19, 20, 21] (by decide) rfl 19 rfl rfl) hl.1 rfl rfl (Nat.le_of_ble_eq_true rfl) dX7_carryOut_45 ⟨Nat.le_refl _, Nat.le_refl _⟩) (fun H locs hP hD hS => ?_)
        refine zi_eq (tgt := 64) hx hb dX7_carryOut_48 (by decide) h (fun h => ?_) (fun h => ?_)
        · exact B64 f_ g_ nx_ hz_ pl_ pa15 pk16 pn17 pf18 pg19 x1 h _ _ hP hD hS ls (lv_sub hl [0, 1] rfl)
        · refine lv_aload_n hx hb dX7_carryOut_51 rfl (lv_at hl 0 rfl) ?_
          obtain ⟨v20, f21, hc, h⟩ := zb2_s h
          refine zG_i (w1 := wX7 ct a f21 g_ nx_ hz_ sw fl sg pl_ pa15 pk16 pn17 pf18 pg19) (ws' := wX7 ct a f21 g_ nx_ hz_ sw fl sg pl_ pa15 pk16 pn17 pf18 pg19) hP hD hS hA [0, 1, 2, 3, 4, 5, 6, 7, 8, 9, 10, 11, 12, 13, 14, 15, 16, 17, 18, 19, 20, 21] [] [0, 1, 2, 3, 4, 5, 6, 7, 8, 9, 10, 11, 12, 13, 14, 15, 16, 17, 18, 19, 20, 21] rfl rfl (by decide) (by decide) rfl (by decide) (zrV (C := RX7) (As := []) (rest := []) hx hb hml hown hts tw740 mv_X7_carryOrder ⟨Nat.le_of_ble_eq_true rfl, Nat.le_of_ble_eq_true rfl⟩ rfl rfl (ct_X7_carryOrder l D ct a f_ g_ nx_ hz_ sw fl sg pl_ pa15 pk16 pn17 pf18 pg19 _  k v20 f21 hc) (z_wv hK hP hD [0, 1, 2, 3, 4, 5, 6, 7, 8, 9, 10, 11, 12, 13, 14, 15, 16, 17, 18, 19, 20, 21] (by decide) rfl 0 rfl rfl) hl.1 rfl rfl (Nat.le_of_ble_eq_true rfl) dX7_carryOut_52 ⟨Nat.le_refl _, Nat.le_refl _⟩) (fun H locs hP hD hS => ?_)
          refine zi_lt (tgt := 64) hx hb dX7_carryOut_55 (by decide) h (fun h => ?_) (fun h => ?_)
          · exact B64 f21 g_ nx_ hz_ pl_ pa15 pk16 pn17 pf18 pg19 x1 h _ _ hP hD hS ls (lv_sub hl [0, 1] rfl)
          · refine o_nm h (fun v22 ey h => ?_)
            refine lv_iinc (v := v22) (lv' := [(1, .int v22), (0, .ref (a 0))]) hx hb dX7_carryOut_58 hl (k := 1) rfl (Eq.trans rfl ey) (by decide) rfl (fun ls hl => ?_)
            refine lv_goto (tgt := 35) hx hb dX7_carryOut_61 (by decide) ?_
            exact ih35 f21 g_ nx_ hz_ pl_ pa15 pk16 pn17 pf18 pg19 v22 h _ _ hP hD hS ls (lv_sub hl [1, 0] rfl)
  rw [f_X7_carryOut] at h
  refine lv_aload_n hx hb dX7_carryOut_0 rfl (lv_at hl 0 rfl) ?_
  refine z_get (C := RX7) (T := TX7) (N := 6) (ci := 6) hx hb hts zin_X7 hown hK.1 hP 0 5 rfl rfl (by decide) tw193 rfl rfl dX7_carryOut_1 ?_
  obtain ⟨v1, pa2, pk3, pn4, pf5, pg6, hc, h⟩ := zb6_s h
  refine zG_i (w1 := wX3 ct a sg pl pa2 pk3 pn4 pf5 pg6) (ws' := wX7 ct a f g nx hz sw fl sg pl pa2 pk3 pn4 pf5 pg6) hP hD hS hA [19, 20, 21] [0, 1, 2, 3, 4, 5, 6, 7, 8, 9, 10, 11, 12, 13, 14, 15, 16, 17, 18] [0, 1, 2, 3, 4, 5, 6, 7, 8, 9, 10, 11, 12, 13, 14, 15, 16, 17, 18, 19, 20, 21] rfl rfl (by decide) (by decide) rfl (by decide) (zrV (C := RX3) (As := []) (rest := []) hx hb hml hown hts tw642 mv_X3_findFault ⟨Nat.le_of_ble_eq_true rfl, Nat.le_of_ble_eq_true rfl⟩ rfl rfl (ct_X3_findFault l D ct a st sg pl pa pk pn pf pg _  k v1 pa2 pk3 pn4 pf5 pg6 hc) (z_zv hZ hK hP hD hS hA [19, 20, 21] (by decide) rfl 19 rfl rfl) hl.1 rfl rfl (Nat.le_of_ble_eq_true rfl) dX7_carryOut_4 ⟨Nat.le_refl _, Nat.le_refl _⟩) (fun H locs hP hD hS => ?_)
  refine lv_bipush (v := (-6 : Int32)) hx hb dX7_carryOut_7 (by decide) ?_
  refine zc_eq (tgt := 15) hx hb dX7_carryOut_9 (by decide) h (fun h => ?_) (fun h => ?_)
  · refine lv_aload_n hx hb dX7_carryOut_15 rfl (lv_at hl 0 rfl) ?_
    refine z_get (C := RX7) (T := TX7) (N := 6) (ci := 6) hx hb hts zin_X7 hown hK.1 hP 0 3 rfl rfl (by decide) tw191 rfl rfl dX7_carryOut_16 ?_
    refine lv_aload_n hx hb dX7_carryOut_19 rfl (lv_at hl 0 rfl) ?_
    refine z_get (C := RX7) (T := TX7) (N := 6) (ci := 6) hx hb hts zin_X7 hown hK.1 hP 0 0 rfl rfl (by decide) tw188 rfl rfl dX7_carryOut_20 ?_
    obtain ⟨g7, hc, h⟩ := zb1_s h
    refine zG_v (w1 := (wX2 ct a g7 nx hz ++ wX5 ct a f)) (ws' := wX7 ct a f g7 nx hz sw fl sg pl pa2 pk3 pn4 pf5 pg6) hP hD hS hA [5, 6, 7, 8, 9, 10, 11, 12, 13, 3, 4] [0, 1, 2, 14, 15, 16, 17, 18, 19, 20, 21] [0, 1, 2, 20, 21, 11, 12, 13, 14, 15, 16, 17, 18, 19, 3, 4, 5, 6, 7, 8, 9, 10] rfl rfl (by decide) (by decide) rfl (by decide) (zrV (C := RX2) (As := [.ref (a 3)]) (rest := []) hx hb hml hown hts tw211 mv_X2_note ⟨Nat.le_of_ble_eq_true rfl, Nat.le_of_ble_eq_true rfl⟩ rfl rfl (ct_X2_note l D ct a g nx hz f _  k g7 hc) (z_wv hK hP hD [5, 6, 7, 8, 9, 10, 11, 12, 13, 3, 4] (by decide) rfl 5 rfl rfl) hl.1 rfl rfl (Nat.le_of_ble_eq_true rfl) dX7_carryOut_23 ⟨Nat.le_refl _, Nat.le_refl _⟩) (fun H locs hP hD hS => ?_)
    refine lv_aload_n hx hb dX7_carryOut_26 rfl (lv_at hl 0 rfl) ?_
    refine z_get (C := RX7) (T := TX7) (N := 6) (ci := 6) hx hb hts zin_X7 hown hK.1 hP 0 5 rfl rfl (by decide) tw193 rfl rfl dX7_carryOut_27 ?_
    obtain ⟨pa8, hc, h⟩ := zb1_s h
    refine zG_v (w1 := wX3 ct a sg pl pa8 pk3 pn4 pf5 pg6) (ws' := wX7 ct a f g7 nx hz sw fl sg pl pa8 pk3 pn4 pf5 pg6) hP hD hS hA [19, 20, 21] [0, 1, 2, 3, 4, 5, 6, 7, 8, 9, 10, 11, 12, 13, 14, 15, 16, 17, 18] [0, 1, 2, 3, 4, 5, 6, 7, 8, 9, 10, 11, 12, 13, 14, 15, 16, 17, 18, 19, 20, 21] rfl rfl (by decide) (by decide) rfl (by decide) (zrV (C := RX3) (As := []) (rest := []) hx hb hml hown hts tw738 mv_X3_rewind ⟨Nat.le_of_ble_eq_true rfl, Nat.le_of_ble_eq_true rfl⟩ rfl rfl (ct_X3_rewind l D ct a sg pl pa2 pk3 pn4 pf5 pg6 _  k pa8 hc) (z_wv hK hP hD [19, 20, 21] (by decide) rfl 19 rfl rfl) hl.1 rfl rfl (Nat.le_of_ble_eq_true rfl) dX7_carryOut_30 ⟨Nat.le_refl _, Nat.le_refl _⟩) (fun H locs hP hD hS => ?_)
    refine lv_iconst (v := (0 : Int32)) hx hb dX7_carryOut_33 (by decide) ?_
    refine lv_istore_n (lv' := [(1, .int (0 : Int32)), (0, .ref (a 0))]) hx hb dX7_carryOut_34 rfl hl (by decide) rfl (fun ls hl => ?_)
    exact B35 k f g7 nx hz pl pa8 pk3 pn4 pf5 pg6 (0 : Int32) h _ _ hP hD hS ls (lv_sub hl [1, 0] rfl)
  · refine lv_bipush (v := (-3 : Int32)) hx hb dX7_carryOut_12 (by decide) ?_
    cases h
    exact zX_i hx hb hr hlocks hP hD hS hAe dX7_carryOut_14 rfl

def f_X7_undo (k : Nat) (f : Nat → Int32) (g : Nat → Nat → Int32) (nx : Int32) (hz : Int32) : Option (Int32 × (Nat → Int32) × Int32 × Int32) :=
  zb4 (f_X2_goBack k f g nx hz) fun v1 f2 nx3 hz4 =>
  some (v1, f2, nx3, hz4)
set_option maxRecDepth 100000 in
set_option maxHeartbeats 4000000 in
theorem ct_X7_undo (l : Launch) (D : va_G) (ct a : Nat → Nat) (f : Nat → Int32) (g : Nat → Nat → Int32) (nx : Int32) (hz : Int32) (sw : Nat → Nat → Int32) (fl : Nat → Int32) (sg : Nat → Int32) (pl : Int32) (pa : Int32) (pk : Int32) (pn : Nat → Int32) (pf : Int32) (pg : Int32) (sz : Nat) (k : Nat) (r : Int32) (f' : Nat → Int32) (nx' : Int32) (hz' : Int32) (h : f_X7_undo k f g nx hz = some (r, f', nx', hz')) : Met l yX7_undo (Cond.code yX7_undo cX7_undo 1 (some .int) :: zT) ({ frames := 4, cells := 0, slots := 0, locals := 103 } : Room) (va_Pc [.ref (a 0)] (zPW D (zTys ct) (wX7 ct a f g nx hz sw fl sg pl pa pk pn pf pg) sz)) (va_Qi (fun r' (_ : Unit) => r' = r) (zQW D (wX7 ct a f g nx hz sw fl sg pl pa pk pn pf pg) sz (wX7 ct a f' g nx' hz' sw fl sg pl pa pk pn pf pg)) (va_A (wX7 ct a f g nx hz sw fl sg pl pa pk pn pf pg) sz)) 0 0 (va_A (wX7 ct a f g nx hz sw fl sg pl pa pk pn pf pg) sz) := by
  refine zMet (cc := cX7_undo) (maxL := 1) (ret := (some .int)) (av := [.ref (a 0)]) (by decide) (Nat.le_of_ble_eq_true rfl) (fun p e s m below meth c ls hx hb hr hml hts hown hlocks hin hB hl => ?_)
  have hl : lv_has ls 1 [(0, .ref (a 0))] := hl
  have hown : s.vm.findClass RX7 = some m.cls := hown
  obtain ⟨hsz, hP, hK, hD0⟩ := hB
  subst hsz
  have hD := hD0.self (sz := s.heap.size)
  obtain ⟨A, hAe⟩ : ∃ A, A = va_A (wX7 ct a f g nx hz sw fl sg pl pa pk pn pf pg) s.heap.size := ⟨_, rfl⟩
  rw [← hAe] at hD
  have hA : ∀ q : Nat, s.heap.size ≤ q → A q := fun q h => by rw [hAe]; exact Or.inr h
  have hS : va_S A s.heap s.heap [] := va_S.rf
  rw [f_X7_undo] at h
  refine lv_aload_n hx hb dX7_undo_0 rfl (lv_at hl 0 rfl) ?_
  refine z_get (C := RX7) (T := TX7) (N := 6) (ci := 6) hx hb hts zin_X7 hown hK.1 hP 0 3 rfl rfl (by decide) tw191 rfl rfl dX7_undo_1 ?_
  refine lv_aload_n hx hb dX7_undo_4 rfl (lv_at hl 0 rfl) ?_
  refine z_get (C := RX7) (T := TX7) (N := 6) (ci := 6) hx hb hts zin_X7 hown hK.1 hP 0 0 rfl rfl (by decide) tw188 rfl rfl dX7_undo_5 ?_
  obtain ⟨v1, f2, nx3, hz4, hc, h⟩ := zb4_s h
  refine zG_i (w1 := (wX2 ct a g nx3 hz4 ++ wX5 ct a f2)) (ws' := wX7 ct a f2 g nx3 hz4 sw fl sg pl pa pk pn pf pg) hP hD hS hA [5, 6, 7, 8, 9, 10, 11, 12, 13, 3, 4] [0, 1, 2, 14, 15, 16, 17, 18, 19, 20, 21] [0, 1, 2, 20, 21, 11, 12, 13, 14, 15, 16, 17, 18, 19, 3, 4, 5, 6, 7, 8, 9, 10] rfl rfl (by decide) (by decide) rfl (by decide) (zrV (C := RX2) (As := [.ref (a 3)]) (rest := []) hx hb hml hown hts tw756 mv_X2_goBack ⟨Nat.le_of_ble_eq_true rfl, Nat.le_of_ble_eq_true rfl⟩ rfl rfl (ct_X2_goBack l D ct a g nx hz f _  k v1 f2 nx3 hz4 hc) (z_wv hK hP hD [5, 6, 7, 8, 9, 10, 11, 12, 13, 3, 4] (by decide) rfl 5 rfl rfl) hl.1 rfl rfl (Nat.le_of_ble_eq_true rfl) dX7_undo_8 ⟨Nat.le_refl _, Nat.le_refl _⟩) (fun H locs hP hD hS => ?_)
  cases h
  exact zX_i hx hb hr hlocks hP hD hS hAe dX7_undo_11 rfl

def f_X7_save (k : Nat) (f : Nat → Int32) (sw : Nat → Nat → Int32) (fl : Nat → Int32) (p1 : Int32) : Option (Int32 × (Nat → Nat → Int32) × (Nat → Int32)) :=
  zb1 (f_X7_isSlot k p1) fun v1 =>
  if v1 = 0 then
    some ((-2 : Int32), sw, fl)
  else
    zb3 (f_X4_keep k f sw fl p1) fun v2 sw3 fl4 =>
    some (v2, sw3, fl4)
set_option maxRecDepth 100000 in
set_option maxHeartbeats 4000000 in
theorem ct_X7_save (l : Launch) (D : va_G) (ct a : Nat → Nat) (f : Nat → Int32) (g : Nat → Nat → Int32) (nx : Int32) (hz : Int32) (sw : Nat → Nat → Int32) (fl : Nat → Int32) (sg : Nat → Int32) (pl : Int32) (pa : Int32) (pk : Int32) (pn : Nat → Int32) (pf : Int32) (pg : Int32) (sz : Nat) (p1 : Int32) (k : Nat) (r : Int32) (sw' : Nat → Nat → Int32) (fl' : Nat → Int32) (h : f_X7_save k f sw fl p1 = some (r, sw', fl')) : Met l yX7_save (Cond.code yX7_save cX7_save 2 (some .int) :: zT) ({ frames := 4, cells := 0, slots := 0, locals := 104 } : Room) (va_Pc [.ref (a 0), .int p1] (zPW D (zTys ct) (wX7 ct a f g nx hz sw fl sg pl pa pk pn pf pg) sz)) (va_Qi (fun r' (_ : Unit) => r' = r) (zQW D (wX7 ct a f g nx hz sw fl sg pl pa pk pn pf pg) sz (wX7 ct a f g nx hz sw' fl' sg pl pa pk pn pf pg)) (va_A (wX7 ct a f g nx hz sw fl sg pl pa pk pn pf pg) sz)) 0 0 (va_A (wX7 ct a f g nx hz sw fl sg pl pa pk pn pf pg) sz) := by
  refine zMet (cc := cX7_save) (maxL := 2) (ret := (some .int)) (av := [.ref (a 0), .int p1]) (by decide) (Nat.le_of_ble_eq_true rfl) (fun p e s m below meth c ls hx hb hr hml hts hown hlocks hin hB hl => ?_)
  have hl : lv_has ls 2 [(0, .ref (a 0)), (1, .int p1)] := hl
  have hown : s.vm.findClass RX7 = some m.cls := hown
  obtain ⟨hsz, hP, hK, hD0⟩ := hB
  subst hsz
  have hD := hD0.self (sz := s.heap.size)
  obtain ⟨A, hAe⟩ : ∃ A, A = va_A (wX7 ct a f g nx hz sw fl sg pl pa pk pn pf pg) s.heap.size := ⟨_, rfl⟩
  rw [← hAe] at hD
  have hA : ∀ q : Nat, s.heap.size ≤ q → A q := fun q h => by rw [hAe]; exact Or.inr h
  have hS : va_S A s.heap s.heap [] := va_S.rf
  rw [f_X7_save] at h
  refine lv_iload_n hx hb dX7_save_0 rfl (lv_at hl 1 rfl) ?_
  obtain ⟨v1, hc, h⟩ := zb1_s h
  refine zE_i (zrS (As := [.int p1]) (rest := []) hx hb hml hown hts tw768 ms_X7_isSlot ⟨Nat.le_of_ble_eq_true rfl, Nat.le_of_ble_eq_true rfl⟩ rfl rfl (ct_X7_isSlot l p1 k v1 hc) z_p0 hl.1 rfl rfl (Nat.le_of_ble_eq_true rfl) dX7_save_1 ⟨Nat.le_refl _, Nat.le_refl _⟩) ?_
  refine zi_eq (tgt := 22) hx hb dX7_save_4 (by decide) h (fun h => ?_) (fun h => ?_)
  · refine lv_bipush (v := (-2 : Int32)) hx hb dX7_save_22 (by decide) ?_
    cases h
    exact zX_i hx hb hr hlocks hP hD hS hAe dX7_save_24 rfl
  · refine lv_aload_n hx hb dX7_save_7 rfl (lv_at hl 0 rfl) ?_
    refine z_get (C := RX7) (T := TX7) (N := 6) (ci := 6) hx hb hts zin_X7 hown hK.1 hP 0 4 rfl rfl (by decide) tw192 rfl rfl dX7_save_8 ?_
    refine lv_iload_n hx hb dX7_save_11 rfl (lv_at hl 1 rfl) ?_
    refine lv_aload_n hx hb dX7_save_12 rfl (lv_at hl 0 rfl) ?_
    refine z_get (C := RX7) (T := TX7) (N := 6) (ci := 6) hx hb hts zin_X7 hown hK.1 hP 0 0 rfl rfl (by decide) tw188 rfl rfl dX7_save_13 ?_
    obtain ⟨v2, sw3, fl4, hc, h⟩ := zb3_s h
    refine zG_i (w1 := (wX4 ct a sw3 fl4 ++ wX5 ct a f)) (ws' := wX7 ct a f g nx hz sw3 fl4 sg pl pa pk pn pf pg) hP hD hS hA [14, 15, 16, 17, 18, 3, 4] [0, 1, 2, 5, 6, 7, 8, 9, 10, 11, 12, 13, 19, 20, 21] [0, 1, 2, 20, 21, 3, 4, 5, 6, 7, 8, 9, 10, 11, 15, 16, 17, 18, 19, 12, 13, 14] rfl rfl (by decide) (by decide) rfl (by decide) (zrV (C := RX4) (As := [.int p1, .ref (a 3)]) (rest := []) hx hb hml hown hts tw771 mv_X4_keep ⟨Nat.le_of_ble_eq_true rfl, Nat.le_of_ble_eq_true rfl⟩ rfl rfl (ct_X4_keep l D ct a sw fl f _ p1 k v2 sw3 fl4 hc) (z_wv hK hP hD [14, 15, 16, 17, 18, 3, 4] (by decide) rfl 14 rfl rfl) hl.1 rfl rfl (Nat.le_of_ble_eq_true rfl) dX7_save_16 ⟨Nat.le_refl _, Nat.le_refl _⟩) (fun H locs hP hD hS => ?_)
    refine lv_goto (tgt := 24) hx hb dX7_save_19 (by decide) ?_
    cases h
    exact zX_i hx hb hr hlocks hP hD hS hAe dX7_save_24 rfl

def f_X7_restore (k : Nat) (f : Nat → Int32) (g : Nat → Nat → Int32) (nx : Int32) (hz : Int32) (sw : Nat → Nat → Int32) (fl : Nat → Int32) (p1 : Int32) : Option (Int32 × (Nat → Int32) × (Nat → Nat → Int32) × Int32 × Int32) :=
  zb1 (f_X7_isSlot k p1) fun v1 =>
  if v1 = 0 then
    some ((-2 : Int32), f, g, nx, hz)
  else
    zb1 (f_X2_note k f g nx) fun g2 =>
    zb2 (f_X4_bring k f sw fl p1) fun v3 f4 =>
    zb3 (f_X2_settle k nx hz v3) fun v5 nx6 hz7 =>
    some (v5, f4, g2, nx6, hz7)
set_option maxRecDepth 100000 in
set_option maxHeartbeats 4000000 in
theorem ct_X7_restore (l : Launch) (D : va_G) (ct a : Nat → Nat) (f : Nat → Int32) (g : Nat → Nat → Int32) (nx : Int32) (hz : Int32) (sw : Nat → Nat → Int32) (fl : Nat → Int32) (sg : Nat → Int32) (pl : Int32) (pa : Int32) (pk : Int32) (pn : Nat → Int32) (pf : Int32) (pg : Int32) (sz : Nat) (p1 : Int32) (k : Nat) (r : Int32) (f' : Nat → Int32) (g' : Nat → Nat → Int32) (nx' : Int32) (hz' : Int32) (h : f_X7_restore k f g nx hz sw fl p1 = some (r, f', g', nx', hz')) : Met l yX7_restore (Cond.code yX7_restore cX7_restore 2 (some .int) :: zT) ({ frames := 4, cells := 0, slots := 0, locals := 104 } : Room) (va_Pc [.ref (a 0), .int p1] (zPW D (zTys ct) (wX7 ct a f g nx hz sw fl sg pl pa pk pn pf pg) sz)) (va_Qi (fun r' (_ : Unit) => r' = r) (zQW D (wX7 ct a f g nx hz sw fl sg pl pa pk pn pf pg) sz (wX7 ct a f' g' nx' hz' sw fl sg pl pa pk pn pf pg)) (va_A (wX7 ct a f g nx hz sw fl sg pl pa pk pn pf pg) sz)) 0 0 (va_A (wX7 ct a f g nx hz sw fl sg pl pa pk pn pf pg) sz) := by
  refine zMet (cc := cX7_restore) (maxL := 2) (ret := (some .int)) (av := [.ref (a 0), .int p1]) (by decide) (Nat.le_of_ble_eq_true rfl) (fun p e s m below meth c ls hx hb hr hml hts hown hlocks hin hB hl => ?_)
  have hl : lv_has ls 2 [(0, .ref (a 0)), (1, .int p1)] := hl
  have hown : s.vm.findClass RX7 = some m.cls := hown
  obtain ⟨hsz, hP, hK, hD0⟩ := hB
  subst hsz
  have hD := hD0.self (sz := s.heap.size)
  obtain ⟨A, hAe⟩ : ∃ A, A = va_A (wX7 ct a f g nx hz sw fl sg pl pa pk pn pf pg) s.heap.size := ⟨_, rfl⟩
  rw [← hAe] at hD
  have hA : ∀ q : Nat, s.heap.size ≤ q → A q := fun q h => by rw [hAe]; exact Or.inr h
  have hS : va_S A s.heap s.heap [] := va_S.rf
  rw [f_X7_restore] at h
  refine lv_iload_n hx hb dX7_restore_0 rfl (lv_at hl 1 rfl) ?_
  obtain ⟨v1, hc, h⟩ := zb1_s h
  refine zE_i (zrS (As := [.int p1]) (rest := []) hx hb hml hown hts tw768 ms_X7_isSlot ⟨Nat.le_of_ble_eq_true rfl, Nat.le_of_ble_eq_true rfl⟩ rfl rfl (ct_X7_isSlot l p1 k v1 hc) z_p0 hl.1 rfl rfl (Nat.le_of_ble_eq_true rfl) dX7_restore_1 ⟨Nat.le_refl _, Nat.le_refl _⟩) ?_
  refine zi_ne (tgt := 10) hx hb dX7_restore_4 (by decide) h (fun h => ?_) (fun h => ?_)
  · refine lv_aload_n hx hb dX7_restore_10 rfl (lv_at hl 0 rfl) ?_
    refine z_get (C := RX7) (T := TX7) (N := 6) (ci := 6) hx hb hts zin_X7 hown hK.1 hP 0 3 rfl rfl (by decide) tw191 rfl rfl dX7_restore_11 ?_
    refine lv_aload_n hx hb dX7_restore_14 rfl (lv_at hl 0 rfl) ?_
    refine z_get (C := RX7) (T := TX7) (N := 6) (ci := 6) hx hb hts zin_X7 hown hK.1 hP 0 0 rfl rfl (by decide) tw188 rfl rfl dX7_restore_15 ?_
    obtain ⟨g2, hc, h⟩ := zb1_s h
    refine zG_v (w1 := (wX2 ct a g2 nx hz ++ wX5 ct a f)) (ws' := wX7 ct a f g2 nx hz sw fl sg pl pa pk pn pf pg) hP hD hS hA [5, 6, 7, 8, 9, 10, 11, 12, 13, 3, 4] [0, 1, 2, 14, 15, 16, 17, 18, 19, 20, 21] [0, 1, 2, 20, 21, 11, 12, 13, 14, 15, 16, 17, 18, 19, 3, 4, 5, 6, 7, 8, 9, 10] rfl rfl (by decide) (by decide) rfl (by decide) (zrV (C := RX2) (As := [.ref (a 3)]) (rest := []) hx hb hml hown hts tw211 mv_X2_note ⟨Nat.le_of_ble_eq_true rfl, Nat.le_of_ble_eq_true rfl⟩ rfl rfl (ct_X2_note l D ct a g nx hz f _  k g2 hc) (z_wv hK hP hD [5, 6, 7, 8, 9, 10, 11, 12, 13, 3, 4] (by decide) rfl 5 rfl rfl) hl.1 rfl rfl (Nat.le_of_ble_eq_true rfl) dX7_restore_18 ⟨Nat.le_refl _, Nat.le_refl _⟩) (fun H locs hP hD hS => ?_)
    refine lv_aload_n hx hb dX7_restore_21 rfl (lv_at hl 0 rfl) ?_
    refine z_get (C := RX7) (T := TX7) (N := 6) (ci := 6) hx hb hts zin_X7 hown hK.1 hP 0 3 rfl rfl (by decide) tw191 rfl rfl dX7_restore_22 ?_
    refine lv_aload_n hx hb dX7_restore_25 rfl (lv_at hl 0 rfl) ?_
    refine z_get (C := RX7) (T := TX7) (N := 6) (ci := 6) hx hb hts zin_X7 hown hK.1 hP 0 4 rfl rfl (by decide) tw192 rfl rfl dX7_restore_26 ?_
    refine lv_iload_n hx hb dX7_restore_29 rfl (lv_at hl 1 rfl) ?_
    refine lv_aload_n hx hb dX7_restore_30 rfl (lv_at hl 0 rfl) ?_
    refine z_get (C := RX7) (T := TX7) (N := 6) (ci := 6) hx hb hts zin_X7 hown hK.1 hP 0 0 rfl rfl (by decide) tw188 rfl rfl dX7_restore_31 ?_
    obtain ⟨v3, f4, hc, h⟩ := zb2_s h
    refine zG_i (w1 := (wX4 ct a sw fl ++ wX5 ct a f4)) (ws' := wX7 ct a f4 g2 nx hz sw fl sg pl pa pk pn pf pg) hP hD hS hA [14, 15, 16, 17, 18, 3, 4] [0, 1, 2, 5, 6, 7, 8, 9, 10, 11, 12, 13, 19, 20, 21] [0, 1, 2, 20, 21, 3, 4, 5, 6, 7, 8, 9, 10, 11, 15, 16, 17, 18, 19, 12, 13, 14] rfl rfl (by decide) (by decide) rfl (by decide) (zrV (C := RX4) (As := [.int p1, .ref (a 3)]) (rest := [.ref (a 5)]) hx hb hml hown hts tw781 mv_X4_bring ⟨Nat.le_of_ble_eq_true rfl, Nat.le_of_ble_eq_true rfl⟩ rfl rfl (ct_X4_bring l D ct a sw fl f _ p1 k v3 f4 hc) (z_wv hK hP hD [14, 15, 16, 17, 18, 3, 4] (by decide) rfl 14 rfl rfl) hl.1 rfl rfl (Nat.le_of_ble_eq_true rfl) dX7_restore_34 ⟨Nat.le_refl _, Nat.le_refl _⟩) (fun H locs hP hD hS => ?_)
    obtain ⟨v5, nx6, hz7, hc, h⟩ := zb3_s h
    refine zG_i (w1 := wX2 ct a g2 nx6 hz7) (ws' := wX7 ct a f4 g2 nx6 hz7 sw fl sg pl pa pk pn pf pg) hP hD hS hA [5, 6, 7, 8, 9, 10, 11, 12, 13] [0, 1, 2, 3, 4, 14, 15, 16, 17, 18, 19, 20, 21] [0, 1, 2, 3, 4, 13, 14, 15, 16, 17, 18, 19, 20, 21, 5, 6, 7, 8, 9, 10, 11, 12] rfl rfl (by decide) (by decide) rfl (by decide) (zrV (C := RX2) (As := [.int v3]) (rest := []) hx hb hml hown hts tw242 mv_X2_settle ⟨Nat.le_of_ble_eq_true rfl, Nat.le_of_ble_eq_true rfl⟩ rfl rfl (ct_X2_settle l D ct a g2 nx hz _ v3 k v5 nx6 hz7 hc) (z_wv hK hP hD [5, 6, 7, 8, 9, 10, 11, 12, 13] (by decide) rfl 5 rfl rfl) hl.1 rfl rfl (Nat.le_of_ble_eq_true rfl) dX7_restore_37 ⟨Nat.le_refl _, Nat.le_refl _⟩) (fun H locs hP hD hS => ?_)
    cases h
    exact zX_i hx hb hr hlocks hP hD hS hAe dX7_restore_40 rfl
  · refine lv_bipush (v := (-2 : Int32)) hx hb dX7_restore_7 (by decide) ?_
    cases h
    exact zX_i hx hb hr hlocks hP hD hS hAe dX7_restore_9 rfl

