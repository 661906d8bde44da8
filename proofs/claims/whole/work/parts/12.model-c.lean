/-! written by wip/whole/gen.py: each method as a function, and its contract -/
def f_X8_tries (k : Nat) (ms : Nat → Int32) (ah : Nat → Int32) (hi : Nat → Int32) (kp : Int32) (so : Nat → Int32) (p1 : Int32) (p2 : Int32) (p3 : Int32) (p4 : Int32) (p5 : Int32) : Option (Int32 × (Nat → Int32) × (Nat → Int32) × (Nat → Int32) × Int32 × (Nat → Int32)) :=
  zb1 (f_X8_looks k ms ah) fun ah1 =>
  zb3 (f_X8_does k ms so p1 p2 p3 p4 p5) fun v2 ms3 so4 =>
  if v2 < 0 then
    some (v2, ms3, ah1, hi, kp, so4)
  else
    zb2 (f_X8_records k ah1 hi kp) fun hi5 kp6 =>
    some (v2, ms3, ah1, hi5, kp6, so4)
set_option maxRecDepth 100000 in
set_option maxHeartbeats 4000000 in
theorem ct_X8_tries (l : Launch) (D : va_G) (ct a : Nat → Nat) (ms : Nat → Int32) (ah : Nat → Int32) (hi : Nat → Int32) (kp : Int32) (sl : Nat → Int32) (sv : Nat → Int32) (pd : Nat → Int32) (ln : Int32) (so : Nat → Int32) (po : Int32) (wr : Int32) (to : Nat → Int32) (sz : Nat) (p1 : Int32) (p2 : Int32) (p3 : Int32) (p4 : Int32) (p5 : Int32) (k : Nat) (r : Int32) (ms' : Nat → Int32) (ah' : Nat → Int32) (hi' : Nat → Int32) (kp' : Int32) (so' : Nat → Int32) (h : f_X8_tries k ms ah hi kp so p1 p2 p3 p4 p5 = some (r, ms', ah', hi', kp', so')) : Met l yX8_tries (Cond.code yX8_tries cX8_tries 7 (some .int) :: zT) ({ frames := 7, cells := 0, slots := 0, locals := 164 } : Room) (va_Pc [.ref (a 30), .int p1, .int p2, .int p3, .int p4, .int p5] (zPW D (zTys ct) (wX8 ct a ms ah hi kp sl sv pd ln so po wr to) sz)) (va_Qi (fun r' (_ : Unit) => r' = r) (zQW D (wX8 ct a ms ah hi kp sl sv pd ln so po wr to) sz (wX8 ct a ms' ah' hi' kp' sl sv pd ln so' po wr to)) (va_A (wX8 ct a ms ah hi kp sl sv pd ln so po wr to) sz)) 0 0 (va_A (wX8 ct a ms ah hi kp sl sv pd ln so po wr to) sz) := by
  refine zMet (cc := cX8_tries) (maxL := 7) (ret := (some .int)) (av := [.ref (a 30), .int p1, .int p2, .int p3, .int p4, .int p5]) (by decide) (Nat.le_of_ble_eq_true rfl) (fun p e s m below meth c ls hx hb hr hml hts hown hlocks hin hB hl => ?_)
  have hl : lv_has ls 7 [(0, .ref (a 30)), (1, .int p1), (2, .int p2), (3, .int p3), (4, .int p4), (5, .int p5)] := hl
  have hown : s.vm.findClass RX8 = some m.cls := hown
  obtain ⟨hsz, hP, hK, hD0⟩ := hB
  subst hsz
  have hD := hD0.self (sz := s.heap.size)
  obtain ⟨A, hAe⟩ : ∃ A, A = va_A (wX8 ct a ms ah hi kp sl sv pd ln so po wr to) s.heap.size := ⟨_, rfl⟩
  rw [← hAe] at hD
  have hA : ∀ q : Nat, s.heap.size ≤ q → A q := fun q h => by rw [hAe]; exact Or.inr h
  have hS : va_S A s.heap s.heap [] := va_S.rf
  rw [f_X8_tries] at h
  refine lv_aload_n hx hb dX8_tries_0 rfl (lv_at hl 0 rfl) ?_
  obtain ⟨ah1, hc, h⟩ := zb1_s h
  refine zG_v (w1 := wX8 ct a ms ah1 hi kp sl sv pd ln so po wr to) (ws' := wX8 ct a ms ah1 hi kp sl sv pd ln so po wr to) hP hD hS hA [0, 1, 2, 3, 4, 5, 6, 7, 8] [] [0, 1, 2, 3, 4, 5, 6, 7, 8] rfl rfl (by decide) (by decide) rfl (by decide) (zrV (C := RX8) (As := []) (rest := []) hx hb hml hown hts tw843 mv_X8_looks ⟨Nat.le_of_ble_eq_true rfl, Nat.le_of_ble_eq_true rfl⟩ rfl rfl (ct_X8_looks l D ct a ms ah hi kp sl sv pd ln so po wr to _  k ah1 hc) (z_wv hK hP hD [0, 1, 2, 3, 4, 5, 6, 7, 8] (by decide) rfl 0 rfl rfl) hl.1 rfl rfl (Nat.le_of_ble_eq_true rfl) dX8_tries_1 ⟨Nat.le_refl _, Nat.le_refl _⟩) (fun H locs hP hD hS => ?_)
  refine lv_aload_n hx hb dX8_tries_4 rfl (lv_at hl 0 rfl) ?_
  refine lv_iload_n hx hb dX8_tries_5 rfl (lv_at hl 1 rfl) ?_
  refine lv_iload_n hx hb dX8_tries_6 rfl (lv_at hl 2 rfl) ?_
  refine lv_iload_n hx hb dX8_tries_7 rfl (lv_at hl 3 rfl) ?_
  refine lv_iload hx hb dX8_tries_8 (lv_at hl 4 rfl) ?_
  refine lv_iload hx hb dX8_tries_10 (lv_at hl 5 rfl) ?_
  obtain ⟨v2, ms3, so4, hc, h⟩ := zb3_s h
  refine zG_i (w1 := wX8 ct a ms3 ah1 hi kp sl sv pd ln so4 po wr to) (ws' := wX8 ct a ms3 ah1 hi kp sl sv pd ln so4 po wr to) hP hD hS hA [0, 1, 2, 3, 4, 5, 6, 7, 8] [] [0, 1, 2, 3, 4, 5, 6, 7, 8] rfl rfl (by decide) (by decide) rfl (by decide) (zrV (C := RX8) (As := [.int p1, .int p2, .int p3, .int p4, .int p5]) (rest := []) hx hb hml hown hts tw859 mv_X8_does ⟨Nat.le_of_ble_eq_true rfl, Nat.le_of_ble_eq_true rfl⟩ rfl rfl (ct_X8_does l D ct a ms ah1 hi kp sl sv pd ln so po wr to _ p1 p2 p3 p4 p5 k v2 ms3 so4 hc) (z_wv hK hP hD [0, 1, 2, 3, 4, 5, 6, 7, 8] (by decide) rfl 0 rfl rfl) hl.1 rfl rfl (Nat.le_of_ble_eq_true rfl) dX8_tries_12 ⟨Nat.le_refl _, Nat.le_refl _⟩) (fun H locs hP hD hS => ?_)
  refine lv_istore (lv' := [(6, .int v2), (0, .ref (a 30)), (1, .int p1), (2, .int p2), (3, .int p3), (4, .int p4), (5, .int p5)]) hx hb dX8_tries_15 hl (by decide) rfl (fun ls hl => ?_)
  refine lv_iload hx hb dX8_tries_17 (lv_at hl 0 rfl) ?_
  refine zi_lt (tgt := 26) hx hb dX8_tries_19 (by decide) h (fun h => ?_) (fun h => ?_)
  · refine lv_iload hx hb dX8_tries_26 (lv_at hl 0 rfl) ?_
    cases h
    exact zX_i hx hb hr hlocks hP hD hS hAe dX8_tries_28 rfl
  · refine lv_aload_n hx hb dX8_tries_22 rfl (lv_at hl 1 rfl) ?_
    obtain ⟨hi5, kp6, hc, h⟩ := zb2_s h
    refine zG_v (w1 := wX8 ct a ms3 ah1 hi5 kp6 sl sv pd ln so4 po wr to) (ws' := wX8 ct a ms3 ah1 hi5 kp6 sl sv pd ln so4 po wr to) hP hD hS hA [0, 1, 2, 3, 4, 5, 6, 7, 8] [] [0, 1, 2, 3, 4, 5, 6, 7, 8] rfl rfl (by decide) (by decide) rfl (by decide) (zrV (C := RX8) (As := []) (rest := []) hx hb hml hown hts tw847 mv_X8_records ⟨Nat.le_of_ble_eq_true rfl, Nat.le_of_ble_eq_true rfl⟩ rfl rfl (ct_X8_records l D ct a ms3 ah1 hi kp sl sv pd ln so4 po wr to _  k hi5 kp6 hc) (z_wv hK hP hD [0, 1, 2, 3, 4, 5, 6, 7, 8] (by decide) rfl 0 rfl rfl) hl.1 rfl rfl (Nat.le_of_ble_eq_true rfl) dX8_tries_23 ⟨Nat.le_refl _, Nat.le_refl _⟩) (fun H locs hP hD hS => ?_)
    refine lv_iload hx hb dX8_tries_26 (lv_at hl 0 rfl) ?_
    cases h
    exact zX_i hx hb hr hlocks hP hD hS hAe dX8_tries_28 rfl

def f_X8_quarry (k : Nat) (ms : Nat → Int32) (ah : Nat → Int32) (hi : Nat → Int32) (kp : Int32) (so : Nat → Int32) (p1 : Int32) (p2 : Int32) (p3 : Int32) (p4 : Int32) : Option (Int32 × (Nat → Int32) × (Nat → Int32) × (Nat → Int32) × Int32 × (Nat → Int32)) :=
  zb6 (f_X8_tries k ms ah hi kp so (113 : Int32) p1 p2 p3 p4) fun v1 ms2 ah3 hi4 kp5 so6 =>
  some (v1, ms2, ah3, hi4, kp5, so6)
set_option maxRecDepth 100000 in
set_option maxHeartbeats 4000000 in
theorem ct_X8_quarry (l : Launch) (D : va_G) (ct a : Nat → Nat) (ms : Nat → Int32) (ah : Nat → Int32) (hi : Nat → Int32) (kp : Int32) (sl : Nat → Int32) (sv : Nat → Int32) (pd : Nat → Int32) (ln : Int32) (so : Nat → Int32) (po : Int32) (wr : Int32) (to : Nat → Int32) (sz : Nat) (p1 : Int32) (p2 : Int32) (p3 : Int32) (p4 : Int32) (k : Nat) (r : Int32) (ms' : Nat → Int32) (ah' : Nat → Int32) (hi' : Nat → Int32) (kp' : Int32) (so' : Nat → Int32) (h : f_X8_quarry k ms ah hi kp so p1 p2 p3 p4 = some (r, ms', ah', hi', kp', so')) : Met l yX8_quarry (Cond.code yX8_quarry cX8_quarry 5 (some .int) :: zT) ({ frames := 8, cells := 0, slots := 0, locals := 190 } : Room) (va_Pc [.ref (a 30), .int p1, .int p2, .int p3, .int p4] (zPW D (zTys ct) (wX8 ct a ms ah hi kp sl sv pd ln so po wr to) sz)) (va_Qi (fun r' (_ : Unit) => r' = r) (zQW D (wX8 ct a ms ah hi kp sl sv pd ln so po wr to) sz (wX8 ct a ms' ah' hi' kp' sl sv pd ln so' po wr to)) (va_A (wX8 ct a ms ah hi kp sl sv pd ln so po wr to) sz)) 0 0 (va_A (wX8 ct a ms ah hi kp sl sv pd ln so po wr to) sz) := by
  refine zMet (cc := cX8_quarry) (maxL := 5) (ret := (some .int)) (av := [.ref (a 30), .int p1, .int p2, .int p3, .int p4]) (by decide) (Nat.le_of_ble_eq_true rfl) (fun p e s m below meth c ls hx hb hr hml hts hown hlocks hin hB hl => ?_)
  have hl : lv_has ls 5 [(0, .ref (a 30)), (1, .int p1), (2, .int p2), (3, .int p3), (4, .int p4)] := hl
  have hown : s.vm.findClass RX8 = some m.cls := hown
  obtain ⟨hsz, hP, hK, hD0⟩ := hB
  subst hsz
  have hD := hD0.self (sz := s.heap.size)
  obtain ⟨A, hAe⟩ : ∃ A, A = va_A (wX8 ct a ms ah hi kp sl sv pd ln so po wr to) s.heap.size := ⟨_, rfl⟩
  rw [← hAe] at hD
  have hA : ∀ q : Nat, s.heap.size ≤ q → A q := fun q h => by rw [hAe]; exact Or.inr h
  have hS : va_S A s.heap s.heap [] := va_S.rf
  rw [f_X8_quarry] at h
  refine lv_aload_n hx hb dX8_quarry_0 rfl (lv_at hl 0 rfl) ?_
  refine lv_bipush (v := (113 : Int32)) hx hb dX8_quarry_1 (by decide) ?_
  refine lv_iload_n hx hb dX8_quarry_3 rfl (lv_at hl 1 rfl) ?_
  refine lv_iload_n hx hb dX8_quarry_4 rfl (lv_at hl 2 rfl) ?_
  refine lv_iload_n hx hb dX8_quarry_5 rfl (lv_at hl 3 rfl) ?_
  refine lv_iload hx hb dX8_quarry_6 (lv_at hl 4 rfl) ?_
  obtain ⟨v1, ms2, ah3, hi4, kp5, so6, hc, h⟩ := zb6_s h
  refine zG_i (w1 := wX8 ct a ms2 ah3 hi4 kp5 sl sv pd ln so6 po wr to) (ws' := wX8 ct a ms2 ah3 hi4 kp5 sl sv pd ln so6 po wr to) hP hD hS hA [0, 1, 2, 3, 4, 5, 6, 7, 8] [] [0, 1, 2, 3, 4, 5, 6, 7, 8] rfl rfl (by decide) (by decide) rfl (by decide) (zrV (C := RX8) (As := [.int (113 : Int32), .int p1, .int p2, .int p3, .int p4]) (rest := []) hx hb hml hown hts tw855 mv_X8_tries ⟨Nat.le_of_ble_eq_true rfl, Nat.le_of_ble_eq_true rfl⟩ rfl rfl (ct_X8_tries l D ct a ms ah hi kp sl sv pd ln so po wr to _ (113 : Int32) p1 p2 p3 p4 k v1 ms2 ah3 hi4 kp5 so6 hc) (z_wv hK hP hD [0, 1, 2, 3, 4, 5, 6, 7, 8] (by decide) rfl 0 rfl rfl) hl.1 rfl rfl (Nat.le_of_ble_eq_true rfl) dX8_quarry_8 ⟨Nat.le_refl _, Nat.le_refl _⟩) (fun H locs hP hD hS => ?_)
  cases h
  exact zX_i hx hb hr hlocks hP hD hS hAe dX8_quarry_11 rfl

def f_X8_cut (k : Nat) (ms : Nat → Int32) (ah : Nat → Int32) (hi : Nat → Int32) (kp : Int32) (so : Nat → Int32) (p1 : Int32) (p2 : Int32) (p3 : Int32) : Option (Int32 × (Nat → Int32) × (Nat → Int32) × (Nat → Int32) × Int32 × (Nat → Int32)) :=
  zb6 (f_X8_tries k ms ah hi kp so (99 : Int32) p1 p2 p3 (0 : Int32)) fun v1 ms2 ah3 hi4 kp5 so6 =>
  some (v1, ms2, ah3, hi4, kp5, so6)
set_option maxRecDepth 100000 in
set_option maxHeartbeats 4000000 in
theorem ct_X8_cut (l : Launch) (D : va_G) (ct a : Nat → Nat) (ms : Nat → Int32) (ah : Nat → Int32) (hi : Nat → Int32) (kp : Int32) (sl : Nat → Int32) (sv : Nat → Int32) (pd : Nat → Int32) (ln : Int32) (so : Nat → Int32) (po : Int32) (wr : Int32) (to : Nat → Int32) (sz : Nat) (p1 : Int32) (p2 : Int32) (p3 : Int32) (k : Nat) (r : Int32) (ms' : Nat → Int32) (ah' : Nat → Int32) (hi' : Nat → Int32) (kp' : Int32) (so' : Nat → Int32) (h : f_X8_cut k ms ah hi kp so p1 p2 p3 = some (r, ms', ah', hi', kp', so')) : Met l yX8_cut (Cond.code yX8_cut cX8_cut 4 (some .int) :: zT) ({ frames := 8, cells := 0, slots := 0, locals := 190 } : Room) (va_Pc [.ref (a 30), .int p1, .int p2, .int p3] (zPW D (zTys ct) (wX8 ct a ms ah hi kp sl sv pd ln so po wr to) sz)) (va_Qi (fun r' (_ : Unit) => r' = r) (zQW D (wX8 ct a ms ah hi kp sl sv pd ln so po wr to) sz (wX8 ct a ms' ah' hi' kp' sl sv pd ln so' po wr to)) (va_A (wX8 ct a ms ah hi kp sl sv pd ln so po wr to) sz)) 0 0 (va_A (wX8 ct a ms ah hi kp sl sv pd ln so po wr to) sz) := by
  refine zMet (cc := cX8_cut) (maxL := 4) (ret := (some .int)) (av := [.ref (a 30), .int p1, .int p2, .int p3]) (by decide) (Nat.le_of_ble_eq_true rfl) (fun p e s m below meth c ls hx hb hr hml hts hown hlocks hin hB hl => ?_)
  have hl : lv_has ls 4 [(0, .ref (a 30)), (1, .int p1), (2, .int p2), (3, .int p3)] := hl
  have hown : s.vm.findClass RX8 = some m.cls := hown
  obtain ⟨hsz, hP, hK, hD0⟩ := hB
  subst hsz
  have hD := hD0.self (sz := s.heap.size)
  obtain ⟨A, hAe⟩ : ∃ A, A = va_A (wX8 ct a ms ah hi kp sl sv pd ln so po wr to) s.heap.size := ⟨_, rfl⟩
  rw [← hAe] at hD
  have hA : ∀ q : Nat, s.heap.size ≤ q → A q := fun q h => by rw [hAe]; exact Or.inr h
  have hS : va_S A s.heap s.heap [] := va_S.rf
  rw [f_X8_cut] at h
  refine lv_aload_n hx hb dX8_cut_0 rfl (lv_at hl 0 rfl) ?_
  refine lv_bipush (v := (99 : Int32)) hx hb dX8_cut_1 (by decide) ?_
  refine lv_iload_n hx hb dX8_cut_3 rfl (lv_at hl 1 rfl) ?_
  refine lv_iload_n hx hb dX8_cut_4 rfl (lv_at hl 2 rfl) ?_
  refine lv_iload_n hx hb dX8_cut_5 rfl (lv_at hl 3 rfl) ?_
  refine lv_iconst (v := (0 : Int32)) hx hb dX8_cut_6 (by decide) ?_
  obtain ⟨v1, ms2, ah3, hi4, kp5, so6, hc, h⟩ := zb6_s h
  refine zG_i (w1 := wX8 ct a ms2 ah3 hi4 kp5 sl sv pd ln so6 po wr to) (ws' := wX8 ct a ms2 ah3 hi4 kp5 sl sv pd ln so6 po wr to) hP hD hS hA [0, 1, 2, 3, 4, 5, 6, 7, 8] [] [0, 1, 2, 3, 4, 5, 6, 7, 8] rfl rfl (by decide) (by decide) rfl (by decide) (zrV (C := RX8) (As := [.int (99 : Int32), .int p1, .int p2, .int p3, .int (0 : Int32)]) (rest := []) hx hb hml hown hts tw855 mv_X8_tries ⟨Nat.le_of_ble_eq_true rfl, Nat.le_of_ble_eq_true rfl⟩ rfl rfl (ct_X8_tries l D ct a ms ah hi kp sl sv pd ln so po wr to _ (99 : Int32) p1 p2 p3 (0 : Int32) k v1 ms2 ah3 hi4 kp5 so6 hc) (z_wv hK hP hD [0, 1, 2, 3, 4, 5, 6, 7, 8] (by decide) rfl 0 rfl rfl) hl.1 rfl rfl (Nat.le_of_ble_eq_true rfl) dX8_cut_7 ⟨Nat.le_refl _, Nat.le_refl _⟩) (fun H locs hP hD hS => ?_)
  cases h
  exact zX_i hx hb hr hlocks hP hD hS hAe dX8_cut_10 rfl

def f_X8_shelter_b58 (k : Nat) (p1 : Int32)  (ms_ : Nat → Int32) (ah_ : Nat → Int32) (hi_ : Nat → Int32) (kp_ : Int32) (x2 : Int32) (y0 : Int32) (y1 : Int32) : Option (Int32 × (Nat → Int32) × (Nat → Int32) × (Nat → Int32) × Int32) :=
  zb5 (f_X8_lays k ms_ ah_ hi_ kp_ y1 y0) fun v5 ms6 ah7 hi8 kp9 =>
  if x2 = 0 then
    some ((1 : Int32), ms6, ah7, hi8, kp9)
  else
    some ((0 : Int32), ms6, ah7, hi8, kp9)
def f_X8_shelter_b43 (k : Nat) (p1 : Int32)  (ms_ : Nat → Int32) (ah_ : Nat → Int32) (hi_ : Nat → Int32) (kp_ : Int32) (x2 : Int32) : Option (Int32 × (Nat → Int32) × (Nat → Int32) × (Nat → Int32) × Int32) :=
  zb1 (f_X8_at k p1 (4 : Int32)) fun v4 =>
  if x2 = 0 then
    f_X8_shelter_b58 k p1 ms_ ah_ hi_ kp_ x2 (1 : Int32) v4
  else
    f_X8_shelter_b58 k p1 ms_ ah_ hi_ kp_ x2 (0 : Int32) v4
def f_X8_shelter (k : Nat) (ms : Nat → Int32) (ah : Nat → Int32) (hi : Nat → Int32) (kp : Int32) (p1 : Int32) : Option (Int32 × (Nat → Int32) × (Nat → Int32) × (Nat → Int32) × Int32) :=
  zb1 (f_X8_isBlock k ms p1) fun v1 =>
  if v1 = 0 then
    some ((-1 : Int32), ms, ah, hi, kp)
  else
    zb1 (f_X8_isHere k ms p1) fun v2 =>
    if v2 = 0 then
      some ((-5 : Int32), ms, ah, hi, kp)
    else
      zb1 (f_X8_isAt k ms p1 (1 : Int32)) fun v3 =>
      if v3 = 0 then
        zb1 (f_X8_underRoof k ms) fun v10 =>
        if v10 = (4 : Int32) then
          some ((-4 : Int32), ms, ah, hi, kp)
        else
          f_X8_shelter_b43 k p1 ms ah hi kp v3
      else
        f_X8_shelter_b43 k p1 ms ah hi kp v3
set_option maxRecDepth 100000 in
set_option maxHeartbeats 4000000 in
theorem ct_X8_shelter (l : Launch) (D : va_G) (ct a : Nat → Nat) (ms : Nat → Int32) (ah : Nat → Int32) (hi : Nat → Int32) (kp : Int32) (sl : Nat → Int32) (sv : Nat → Int32) (pd : Nat → Int32) (ln : Int32) (so : Nat → Int32) (po : Int32) (wr : Int32) (to : Nat → Int32) (sz : Nat) (p1 : Int32) (k : Nat) (r : Int32) (ms' : Nat → Int32) (ah' : Nat → Int32) (hi' : Nat → Int32) (kp' : Int32) (h : f_X8_shelter k ms ah hi kp p1 = some (r, ms', ah', hi', kp')) : Met l yX8_shelter (Cond.code yX8_shelter cX8_shelter 4 (some .int) :: zT) ({ frames := 3, cells := 0, slots := 0, locals := 65 } : Room) (va_Pc [.ref (a 30), .int p1] (zPW D (zTys ct) (wX8 ct a ms ah hi kp sl sv pd ln so po wr to) sz)) (va_Qi (fun r' (_ : Unit) => r' = r) (zQW D (wX8 ct a ms ah hi kp sl sv pd ln so po wr to) sz (wX8 ct a ms' ah' hi' kp' sl sv pd ln so po wr to)) (va_A (wX8 ct a ms ah hi kp sl sv pd ln so po wr to) sz)) 0 0 (va_A (wX8 ct a ms ah hi kp sl sv pd ln so po wr to) sz) := by
  refine zMet (cc := cX8_shelter) (maxL := 4) (ret := (some .int)) (av := [.ref (a 30), .int p1]) (by decide) (Nat.le_of_ble_eq_true rfl) (fun p e s m below meth c ls hx hb hr hml hts hown hlocks hin hB hl => ?_)
  have hl : lv_has ls 4 [(0, .ref (a 30)), (1, .int p1)] := hl
  have hown : s.vm.findClass RX8 = some m.cls := hown
  obtain ⟨hsz, hP, hK, hD0⟩ := hB
  subst hsz
  have hD := hD0.self (sz := s.heap.size)
  obtain ⟨A, hAe⟩ : ∃ A, A = va_A (wX8 ct a ms ah hi kp sl sv pd ln so po wr to) s.heap.size := ⟨_, rfl⟩
  rw [← hAe] at hD
  have hA : ∀ q : Nat, s.heap.size ≤ q → A q := fun q h => by rw [hAe]; exact Or.inr h
  have hS : va_S A s.heap s.heap [] := va_S.rf
  have B58 : ∀ (ms_ : Nat → Int32) (ah_ : Nat → Int32) (hi_ : Nat → Int32) (kp_ : Int32) (x2 : Int32) (y0 : Int32) (y1 : Int32), f_X8_shelter_b58 k p1 ms_ ah_ hi_ kp_ x2 y0 y1 = some (r, ms', ah', hi', kp') → ∀ (H : Heap) (locs : List Loc), va_P D vwCl (wX8 ct a ms_ ah_ hi_ kp_ sl sv pd ln so po wr to) H → va_D A (wX8 ct a ms_ ah_ hi_ kp_ sl sv pd ln so po wr to) → va_S A s.heap H locs → ∀ (ls : Array Slot), lv_has ls 4 [(2, .int x2)] → W p l e ({ frames := 3, cells := 0, slots := 0, locals := 65 } : Room) s m ([.ref (a 30), .int p1] : List Value).toArray below meth c H locs 0 0 (MQ below (va_Qi (fun r' (_ : Unit) => r' = r) (zQW D (wX8 ct a ms ah hi kp sl sv pd ln so po wr to) s.heap.size (wX8 ct a ms' ah' hi' kp' sl sv pd ln so po wr to)) (va_A (wX8 ct a ms ah hi kp sl sv pd ln so po wr to) s.heap.size)) ([.ref (a 30), .int p1] : List Value).toArray s 0 0 (va_A (wX8 ct a ms ah hi kp sl sv pd ln so po wr to) s.heap.size)) (F0 m 58 ls [.int y0, .int y1, .ref (a 30)]) := by
    intro ms_ ah_ hi_ kp_ x2 y0 y1 h H locs hP hD hS ls hl
    rw [f_X8_shelter_b58] at h
    obtain ⟨v5, ms6, ah7, hi8, kp9, hc, h⟩ := zb5_s h
    refine zG_i (w1 := wX8 ct a ms6 ah7 hi8 kp9 sl sv pd ln so po wr to) (ws' := wX8 ct a ms6 ah7 hi8 kp9 sl sv pd ln so po wr to) hP hD hS hA [0, 1, 2, 3, 4, 5, 6, 7, 8] [] [0, 1, 2, 3, 4, 5, 6, 7, 8] rfl rfl (by decide) (by decide) rfl (by decide) (zrV (C := RX8) (As := [.int y1, .int y0]) (rest := []) hx hb hml hown hts tw839 mv_X8_lays ⟨Nat.le_of_ble_eq_true rfl, Nat.le_of_ble_eq_true rfl⟩ rfl rfl (ct_X8_lays l D ct a ms_ ah_ hi_ kp_ sl sv pd ln so po wr to _ y1 y0 k v5 ms6 ah7 hi8 kp9 hc) (z_wv hK hP hD [0, 1, 2, 3, 4, 5, 6, 7, 8] (by decide) rfl 0 rfl rfl) hl.1 rfl rfl (Nat.le_of_ble_eq_true rfl) dX8_shelter_58 ⟨Nat.le_refl _, Nat.le_refl _⟩) (fun H locs hP hD hS => ?_)
    refine lv_istore_n (lv' := [(3, .int v5), (2, .int x2)]) hx hb dX8_shelter_61 rfl hl (by decide) rfl (fun ls hl => ?_)
    refine lv_iload_n hx hb dX8_shelter_62 rfl (lv_at hl 1 rfl) ?_
    refine zi_eq (tgt := 70) hx hb dX8_shelter_63 (by decide) h (fun h => ?_) (fun h => ?_)
    · refine lv_iconst (v := (1 : Int32)) hx hb dX8_shelter_70 (by decide) ?_
      cases h
      exact zX_i hx hb hr hlocks hP hD hS hAe dX8_shelter_71 rfl
    · refine lv_iconst (v := (0 : Int32)) hx hb dX8_shelter_66 (by decide) ?_
      refine lv_goto (tgt := 71) hx hb dX8_shelter_67 (by decide) ?_
      cases h
      exact zX_i hx hb hr hlocks hP hD hS hAe dX8_shelter_71 rfl
  have B43 : ∀ (ms_ : Nat → Int32) (ah_ : Nat → Int32) (hi_ : Nat → Int32) (kp_ : Int32) (x2 : Int32), f_X8_shelter_b43 k p1 ms_ ah_ hi_ kp_ x2 = some (r, ms', ah', hi', kp') → ∀ (H : Heap) (locs : List Loc), va_P D vwCl (wX8 ct a ms_ ah_ hi_ kp_ sl sv pd ln so po wr to) H → va_D A (wX8 ct a ms_ ah_ hi_ kp_ sl sv pd ln so po wr to) → va_S A s.heap H locs → ∀ (ls : Array Slot), lv_has ls 4 [(0, .ref (a 30)), (1, .int p1), (2, .int x2)] → W p l e ({ frames := 3, cells := 0, slots := 0, locals := 65 } : Room) s m ([.ref (a 30), .int p1] : List Value).toArray below meth c H locs 0 0 (MQ below (va_Qi (fun r' (_ : Unit) => r' = r) (zQW D (wX8 ct a ms ah hi kp sl sv pd ln so po wr to) s.heap.size (wX8 ct a ms' ah' hi' kp' sl sv pd ln so po wr to)) (va_A (wX8 ct a ms ah hi kp sl sv pd ln so po wr to) s.heap.size)) ([.ref (a 30), .int p1] : List Value).toArray s 0 0 (va_A (wX8 ct a ms ah hi kp sl sv pd ln so po wr to) s.heap.size)) (F0 m 43 ls []) := by
    intro ms_ ah_ hi_ kp_ x2 h H locs hP hD hS ls hl
    rw [f_X8_shelter_b43] at h
    refine lv_aload_n hx hb dX8_shelter_43 rfl (lv_at hl 0 rfl) ?_
    refine lv_iload_n hx hb dX8_shelter_44 rfl (lv_at hl 1 rfl) ?_
    refine lv_iconst (v := (4 : Int32)) hx hb dX8_shelter_45 (by decide) ?_
    obtain ⟨v4, hc, h⟩ := zb1_s h
    refine zE_i (zrS (As := [.int p1, .int (4 : Int32)]) (rest := [.ref (a 30)]) hx hb hml hown hts tw874 ms_X8_at ⟨Nat.le_of_ble_eq_true rfl, Nat.le_of_ble_eq_true rfl⟩ rfl rfl (ct_X8_at l p1 (4 : Int32) k v4 hc) z_p0 hl.1 rfl rfl (Nat.le_of_ble_eq_true rfl) dX8_shelter_46 ⟨Nat.le_refl _, Nat.le_refl _⟩) ?_
    refine lv_iload_n hx hb dX8_shelter_49 rfl (lv_at hl 2 rfl) ?_
    refine zi_eq (tgt := 57) hx hb dX8_shelter_50 (by decide) h (fun h => ?_) (fun h => ?_)
    · refine lv_iconst (v := (1 : Int32)) hx hb dX8_shelter_57 (by decide) ?_
      exact B58 ms_ ah_ hi_ kp_ x2 (1 : Int32) v4 h _ _ hP hD hS ls (lv_sub hl [2] rfl)
    · refine lv_iconst (v := (0 : Int32)) hx hb dX8_shelter_53 (by decide) ?_
      refine lv_goto (tgt := 58) hx hb dX8_shelter_54 (by decide) ?_
      exact B58 ms_ ah_ hi_ kp_ x2 (0 : Int32) v4 h _ _ hP hD hS ls (lv_sub hl [2] rfl)
  rw [f_X8_shelter] at h
  refine lv_aload_n hx hb dX8_shelter_0 rfl (lv_at hl 0 rfl) ?_
  refine lv_iload_n hx hb dX8_shelter_1 rfl (lv_at hl 1 rfl) ?_
  obtain ⟨v1, hc, h⟩ := zb1_s h
  refine zE_i (zrV (C := RX8) (As := [.int p1]) (rest := []) hx hb hml hown hts tw885 mv_X8_isBlock ⟨Nat.le_of_ble_eq_true rfl, Nat.le_of_ble_eq_true rfl⟩ rfl rfl (ct_X8_isBlock l D ct a ms ah hi kp sl sv pd ln so po wr to p1 k v1 hc) (z_pv hK hP [0, 1, 2, 3, 4, 5, 6, 7, 8] rfl 0 rfl rfl) hl.1 rfl rfl (Nat.le_of_ble_eq_true rfl) dX8_shelter_2 ⟨Nat.le_refl _, Nat.le_refl _⟩) ?_
  refine zi_ne (tgt := 10) hx hb dX8_shelter_5 (by decide) h (fun h => ?_) (fun h => ?_)
  · refine lv_aload_n hx hb dX8_shelter_10 rfl (lv_at hl 0 rfl) ?_
    refine lv_iload_n hx hb dX8_shelter_11 rfl (lv_at hl 1 rfl) ?_
    obtain ⟨v2, hc, h⟩ := zb1_s h
    refine zE_i (zrV (C := RX8) (As := [.int p1]) (rest := []) hx hb hml hown hts tw893 mv_X8_isHere ⟨Nat.le_of_ble_eq_true rfl, Nat.le_of_ble_eq_true rfl⟩ rfl rfl (ct_X8_isHere l D ct a ms ah hi kp sl sv pd ln so po wr to p1 k v2 hc) (z_pv hK hP [0, 1, 2, 3, 4, 5, 6, 7, 8] rfl 0 rfl rfl) hl.1 rfl rfl (Nat.le_of_ble_eq_true rfl) dX8_shelter_12 ⟨Nat.le_refl _, Nat.le_refl _⟩) ?_
    refine zi_ne (tgt := 21) hx hb dX8_shelter_15 (by decide) h (fun h => ?_) (fun h => ?_)
    · refine lv_aload_n hx hb dX8_shelter_21 rfl (lv_at hl 0 rfl) ?_
      refine lv_iload_n hx hb dX8_shelter_22 rfl (lv_at hl 1 rfl) ?_
      refine lv_iconst (v := (1 : Int32)) hx hb dX8_shelter_23 (by decide) ?_
      obtain ⟨v3, hc, h⟩ := zb1_s h
      refine zE_i (zrV (C := RX8) (As := [.int p1, .int (1 : Int32)]) (rest := []) hx hb hml hown hts tw897 mv_X8_isAt ⟨Nat.le_of_ble_eq_true rfl, Nat.le_of_ble_eq_true rfl⟩ rfl rfl (ct_X8_isAt l D ct a ms ah hi kp sl sv pd ln so po wr to p1 (1 : Int32) k v3 hc) (z_pv hK hP [0, 1, 2, 3, 4, 5, 6, 7, 8] rfl 0 rfl rfl) hl.1 rfl rfl (Nat.le_of_ble_eq_true rfl) dX8_shelter_24 ⟨Nat.le_refl _, Nat.le_refl _⟩) ?_
      refine lv_istore_n (lv' := [(2, .int v3), (0, .ref (a 30)), (1, .int p1)]) hx hb dX8_shelter_27 rfl hl (by decide) rfl (fun ls hl => ?_)
      refine lv_iload_n hx hb dX8_shelter_28 rfl (lv_at hl 0 rfl) ?_
      refine zi_ne (tgt := 43) hx hb dX8_shelter_29 (by decide) h (fun h => ?_) (fun h => ?_)
      · exact B43 ms ah hi kp v3 h _ _ hP hD hS ls (lv_sub hl [1, 2, 0] rfl)
      · refine lv_aload_n hx hb dX8_shelter_32 rfl (lv_at hl 1 rfl) ?_
        obtain ⟨v10, hc, h⟩ := zb1_s h
        refine zE_i (zrV (C := RX8) (As := []) (rest := []) hx hb hml hown hts tw905 mv_X8_underRoof ⟨Nat.le_of_ble_eq_true rfl, Nat.le_of_ble_eq_true rfl⟩ rfl rfl (ct_X8_underRoof l D ct a ms ah hi kp sl sv pd ln so po wr to k v10 hc) (z_pv hK hP [0, 1, 2, 3, 4, 5, 6, 7, 8] rfl 0 rfl rfl) hl.1 rfl rfl (Nat.le_of_ble_eq_true rfl) dX8_shelter_33 ⟨Nat.le_refl _, Nat.le_refl _⟩) ?_
        refine lv_iconst (v := (4 : Int32)) hx hb dX8_shelter_36 (by decide) ?_
        refine zc_ne (tgt := 43) hx hb dX8_shelter_37 (by decide) h (fun h => ?_) (fun h => ?_)
        · exact B43 ms ah hi kp v3 h _ _ hP hD hS ls (lv_sub hl [1, 2, 0] rfl)
        · refine lv_bipush (v := (-4 : Int32)) hx hb dX8_shelter_40 (by decide) ?_
          cases h
          exact zX_i hx hb hr hlocks hP hD hS hAe dX8_shelter_42 rfl
    · refine lv_bipush (v := (-5 : Int32)) hx hb dX8_shelter_18 (by decide) ?_
      cases h
      exact zX_i hx hb hr hlocks hP hD hS hAe dX8_shelter_20 rfl
  · refine lv_iconst (v := (-1 : Int32)) hx hb dX8_shelter_8 (by decide) ?_
    cases h
    exact zX_i hx hb hr hlocks hP hD hS hAe dX8_shelter_9 rfl

def f_X8_order (k : Nat) (ms : Nat → Int32) (ah : Nat → Int32) (hi : Nat → Int32) (kp : Int32) (so : Nat → Int32) (p1 : Int32) (p2 : Int32) (p3 : Int32) : Option (Int32 × (Nat → Int32) × (Nat → Int32) × (Nat → Int32) × Int32 × (Nat → Int32)) :=
  zb6 (f_X8_tries k ms ah hi kp so (111 : Int32) p1 p2 p3 (0 : Int32)) fun v1 ms2 ah3 hi4 kp5 so6 =>
  some (v1, ms2, ah3, hi4, kp5, so6)
set_option maxRecDepth 100000 in
set_option maxHeartbeats 4000000 in
theorem ct_X8_order (l : Launch) (D : va_G) (ct a : Nat → Nat) (ms : Nat → Int32) (ah : Nat → Int32) (hi : Nat → Int32) (kp : Int32) (sl : Nat → Int32) (sv : Nat → Int32) (pd : Nat → Int32) (ln : Int32) (so : Nat → Int32) (po : Int32) (wr : Int32) (to : Nat → Int32) (sz : Nat) (p1 : Int32) (p2 : Int32) (p3 : Int32) (k : Nat) (r : Int32) (ms' : Nat → Int32) (ah' : Nat → Int32) (hi' : Nat → Int32) (kp' : Int32) (so' : Nat → Int32) (h : f_X8_order k ms ah hi kp so p1 p2 p3 = some (r, ms', ah', hi', kp', so')) : Met l yX8_order (Cond.code yX8_order cX8_order 4 (some .int) :: zT) ({ frames := 8, cells := 0, slots := 0, locals := 190 } : Room) (va_Pc [.ref (a 30), .int p1, .int p2, .int p3] (zPW D (zTys ct) (wX8 ct a ms ah hi kp sl sv pd ln so po wr to) sz)) (va_Qi (fun r' (_ : Unit) => r' = r) (zQW D (wX8 ct a ms ah hi kp sl sv pd ln so po wr to) sz (wX8 ct a ms' ah' hi' kp' sl sv pd ln so' po wr to)) (va_A (wX8 ct a ms ah hi kp sl sv pd ln so po wr to) sz)) 0 0 (va_A (wX8 ct a ms ah hi kp sl sv pd ln so po wr to) sz) := by
  refine zMet (cc := cX8_order) (maxL := 4) (ret := (some .int)) (av := [.ref (a 30), .int p1, .int p2, .int p3]) (by decide) (Nat.le_of_ble_eq_true rfl) (fun p e s m below meth c ls hx hb hr hml hts hown hlocks hin hB hl => ?_)
  have hl : lv_has ls 4 [(0, .ref (a 30)), (1, .int p1), (2, .int p2), (3, .int p3)] := hl
  have hown : s.vm.findClass RX8 = some m.cls := hown
  obtain ⟨hsz, hP, hK, hD0⟩ := hB
  subst hsz
  have hD := hD0.self (sz := s.heap.size)
  obtain ⟨A, hAe⟩ : ∃ A, A = va_A (wX8 ct a ms ah hi kp sl sv pd ln so po wr to) s.heap.size := ⟨_, rfl⟩
  rw [← hAe] at hD
  have hA : ∀ q : Nat, s.heap.size ≤ q → A q := fun q h => by rw [hAe]; exact Or.inr h
  have hS : va_S A s.heap s.heap [] := va_S.rf
  rw [f_X8_order] at h
  refine lv_aload_n hx hb dX8_order_0 rfl (lv_at hl 0 rfl) ?_
  refine lv_bipush (v := (111 : Int32)) hx hb dX8_order_1 (by decide) ?_
  refine lv_iload_n hx hb dX8_order_3 rfl (lv_at hl 1 rfl) ?_
  refine lv_iload_n hx hb dX8_order_4 rfl (lv_at hl 2 rfl) ?_
  refine lv_iload_n hx hb dX8_order_5 rfl (lv_at hl 3 rfl) ?_
  refine lv_iconst (v := (0 : Int32)) hx hb dX8_order_6 (by decide) ?_
  obtain ⟨v1, ms2, ah3, hi4, kp5, so6, hc, h⟩ := zb6_s h
  refine zG_i (w1 := wX8 ct a ms2 ah3 hi4 kp5 sl sv pd ln so6 po wr to) (ws' := wX8 ct a ms2 ah3 hi4 kp5 sl sv pd ln so6 po wr to) hP hD hS hA [0, 1, 2, 3, 4, 5, 6, 7, 8] [] [0, 1, 2, 3, 4, 5, 6, 7, 8] rfl rfl (by decide) (by decide) rfl (by decide) (zrV (C := RX8) (As := [.int (111 : Int32), .int p1, .int p2, .int p3, .int (0 : Int32)]) (rest := []) hx hb hml hown hts tw855 mv_X8_tries ⟨Nat.le_of_ble_eq_true rfl, Nat.le_of_ble_eq_true rfl⟩ rfl rfl (ct_X8_tries l D ct a ms ah hi kp sl sv pd ln so po wr to _ (111 : Int32) p1 p2 p3 (0 : Int32) k v1 ms2 ah3 hi4 kp5 so6 hc) (z_wv hK hP hD [0, 1, 2, 3, 4, 5, 6, 7, 8] (by decide) rfl 0 rfl rfl) hl.1 rfl rfl (Nat.le_of_ble_eq_true rfl) dX8_order_7 ⟨Nat.le_refl _, Nat.le_refl _⟩) (fun H locs hP hD hS => ?_)
  cases h
  exact zX_i hx hb hr hlocks hP hD hS hAe dX8_order_10 rfl

def f_X8_give (k : Nat) (ms : Nat → Int32) (ah : Nat → Int32) (hi : Nat → Int32) (kp : Int32) (so : Nat → Int32) (p1 : Int32) (p2 : Int32) : Option (Int32 × (Nat → Int32) × (Nat → Int32) × (Nat → Int32) × Int32 × (Nat → Int32)) :=
  zb6 (f_X8_tries k ms ah hi kp so (103 : Int32) p1 p2 (0 : Int32) (0 : Int32)) fun v1 ms2 ah3 hi4 kp5 so6 =>
  some (v1, ms2, ah3, hi4, kp5, so6)
set_option maxRecDepth 100000 in
set_option maxHeartbeats 4000000 in
theorem ct_X8_give (l : Launch) (D : va_G) (ct a : Nat → Nat) (ms : Nat → Int32) (ah : Nat → Int32) (hi : Nat → Int32) (kp : Int32) (sl : Nat → Int32) (sv : Nat → Int32) (pd : Nat → Int32) (ln : Int32) (so : Nat → Int32) (po : Int32) (wr : Int32) (to : Nat → Int32) (sz : Nat) (p1 : Int32) (p2 : Int32) (k : Nat) (r : Int32) (ms' : Nat → Int32) (ah' : Nat → Int32) (hi' : Nat → Int32) (kp' : Int32) (so' : Nat → Int32) (h : f_X8_give k ms ah hi kp so p1 p2 = some (r, ms', ah', hi', kp', so')) : Met l yX8_give (Cond.code yX8_give cX8_give 3 (some .int) :: zT) ({ frames := 8, cells := 0, slots := 0, locals := 190 } : Room) (va_Pc [.ref (a 30), .int p1, .int p2] (zPW D (zTys ct) (wX8 ct a ms ah hi kp sl sv pd ln so po wr to) sz)) (va_Qi (fun r' (_ : Unit) => r' = r) (zQW D (wX8 ct a ms ah hi kp sl sv pd ln so po wr to) sz (wX8 ct a ms' ah' hi' kp' sl sv pd ln so' po wr to)) (va_A (wX8 ct a ms ah hi kp sl sv pd ln so po wr to) sz)) 0 0 (va_A (wX8 ct a ms ah hi kp sl sv pd ln so po wr to) sz) := by
  refine zMet (cc := cX8_give) (maxL := 3) (ret := (some .int)) (av := [.ref (a 30), .int p1, .int p2]) (by decide) (Nat.le_of_ble_eq_true rfl) (fun p e s m below meth c ls hx hb hr hml hts hown hlocks hin hB hl => ?_)
  have hl : lv_has ls 3 [(0, .ref (a 30)), (1, .int p1), (2, .int p2)] := hl
  have hown : s.vm.findClass RX8 = some m.cls := hown
  obtain ⟨hsz, hP, hK, hD0⟩ := hB
  subst hsz
  have hD := hD0.self (sz := s.heap.size)
  obtain ⟨A, hAe⟩ : ∃ A, A = va_A (wX8 ct a ms ah hi kp sl sv pd ln so po wr to) s.heap.size := ⟨_, rfl⟩
  rw [← hAe] at hD
  have hA : ∀ q : Nat, s.heap.size ≤ q → A q := fun q h => by rw [hAe]; exact Or.inr h
  have hS : va_S A s.heap s.heap [] := va_S.rf
  rw [f_X8_give] at h
  refine lv_aload_n hx hb dX8_give_0 rfl (lv_at hl 0 rfl) ?_
  refine lv_bipush (v := (103 : Int32)) hx hb dX8_give_1 (by decide) ?_
  refine lv_iload_n hx hb dX8_give_3 rfl (lv_at hl 1 rfl) ?_
  refine lv_iload_n hx hb dX8_give_4 rfl (lv_at hl 2 rfl) ?_
  refine lv_iconst (v := (0 : Int32)) hx hb dX8_give_5 (by decide) ?_
  refine lv_iconst (v := (0 : Int32)) hx hb dX8_give_6 (by decide) ?_
  obtain ⟨v1, ms2, ah3, hi4, kp5, so6, hc, h⟩ := zb6_s h
  refine zG_i (w1 := wX8 ct a ms2 ah3 hi4 kp5 sl sv pd ln so6 po wr to) (ws' := wX8 ct a ms2 ah3 hi4 kp5 sl sv pd ln so6 po wr to) hP hD hS hA [0, 1, 2, 3, 4, 5, 6, 7, 8] [] [0, 1, 2, 3, 4, 5, 6, 7, 8] rfl rfl (by decide) (by decide) rfl (by decide) (zrV (C := RX8) (As := [.int (103 : Int32), .int p1, .int p2, .int (0 : Int32), .int (0 : Int32)]) (rest := []) hx hb hml hown hts tw855 mv_X8_tries ⟨Nat.le_of_ble_eq_true rfl, Nat.le_of_ble_eq_true rfl⟩ rfl rfl (ct_X8_tries l D ct a ms ah hi kp sl sv pd ln so po wr to _ (103 : Int32) p1 p2 (0 : Int32) (0 : Int32) k v1 ms2 ah3 hi4 kp5 so6 hc) (z_wv hK hP hD [0, 1, 2, 3, 4, 5, 6, 7, 8] (by decide) rfl 0 rfl rfl) hl.1 rfl rfl (Nat.le_of_ble_eq_true rfl) dX8_give_7 ⟨Nat.le_refl _, Nat.le_refl _⟩) (fun H locs hP hD hS => ?_)
  cases h
  exact zX_i hx hb hr hlocks hP hD hS hAe dX8_give_10 rfl

def f_X8_takeBack (k : Nat) (ms : Nat → Int32) (ah : Nat → Int32) (hi : Nat → Int32) (kp : Int32) (p1 : Int32) : Option (Int32 × (Nat → Int32) × (Nat → Int32) × (Nat → Int32) × Int32) :=
  zb1 (f_X8_isOrder k ms p1) fun v1 =>
  if v1 = 0 then
    some ((-1 : Int32), ms, ah, hi, kp)
  else
    zb1 (f_X8_ofOrderAt k p1 (3 : Int32)) fun v2 =>
    zg (zin v2 324) (zl (ms v2.toNatClampNeg) fun v3 =>
    if v3 = (1 : Int32) then
      zb1 (f_X8_ofOrderAt k p1 (3 : Int32)) fun v4 =>
      zb5 (f_X8_lays k ms ah hi kp v4 (0 : Int32)) fun v5 ms6 ah7 hi8 kp9 =>
      zb1 (f_X8_ofOrderAt k p1 (4 : Int32)) fun v10 =>
      zg (zin v10 324) (zl (ms6 v10.toNatClampNeg) fun v11 =>
      zb1 (f_X8_ofOrderAt k p1 (4 : Int32)) fun v12 =>
      zg (zin v12 324) (zl (upd ms6 v12.toNatClampNeg (-6 : Int32)) fun ms13 =>
      zb1 (f_X8_at k v11 (7 : Int32)) fun v14 =>
      zg (zin v14 324) (zl (upd ms13 v14.toNatClampNeg (-6 : Int32)) fun ms15 =>
      some (v11, ms15, ah7, hi8, kp9))))
    else
      some ((-5 : Int32), ms, ah, hi, kp))
set_option maxRecDepth 100000 in
set_option maxHeartbeats 4000000 in
theorem ct_X8_takeBack (l : Launch) (D : va_G) (ct a : Nat → Nat) (ms : Nat → Int32) (ah : Nat → Int32) (hi : Nat → Int32) (kp : Int32) (sl : Nat → Int32) (sv : Nat → Int32) (pd : Nat → Int32) (ln : Int32) (so : Nat → Int32) (po : Int32) (wr : Int32) (to : Nat → Int32) (sz : Nat) (p1 : Int32) (k : Nat) (r : Int32) (ms' : Nat → Int32) (ah' : Nat → Int32) (hi' : Nat → Int32) (kp' : Int32) (h : f_X8_takeBack k ms ah hi kp p1 = some (r, ms', ah', hi', kp')) : Met l yX8_takeBack (Cond.code yX8_takeBack cX8_takeBack 4 (some .int) :: zT) ({ frames := 2, cells := 0, slots := 0, locals := 44 } : Room) (va_Pc [.ref (a 30), .int p1] (zPW D (zTys ct) (wX8 ct a ms ah hi kp sl sv pd ln so po wr to) sz)) (va_Qi (fun r' (_ : Unit) => r' = r) (zQW D (wX8 ct a ms ah hi kp sl sv pd ln so po wr to) sz (wX8 ct a ms' ah' hi' kp' sl sv pd ln so po wr to)) (va_A (wX8 ct a ms ah hi kp sl sv pd ln so po wr to) sz)) 0 0 (va_A (wX8 ct a ms ah hi kp sl sv pd ln so po wr to) sz) := by
  refine zMet (cc := cX8_takeBack) (maxL := 4) (ret := (some .int)) (av := [.ref (a 30), .int p1]) (by decide) (Nat.le_of_ble_eq_true rfl) (fun p e s m below meth c ls hx hb hr hml hts hown hlocks hin hB hl => ?_)
  have hl : lv_has ls 4 [(0, .ref (a 30)), (1, .int p1)] := hl
  have hown : s.vm.findClass RX8 = some m.cls := hown
  obtain ⟨hsz, hP, hK, hD0⟩ := hB
  subst hsz
  have hD := hD0.self (sz := s.heap.size)
  obtain ⟨A, hAe⟩ : ∃ A, A = va_A (wX8 ct a ms ah hi kp sl sv pd ln so po wr to) s.heap.size := ⟨_, rfl⟩
  rw [← hAe] at hD
  have hA : ∀ q : Nat, s.heap.size ≤ q → A q := fun q h => by rw [hAe]; exact Or.inr h
  have hS : va_S A s.heap s.heap [] := va_S.rf
  rw [f_X8_takeBack] at h
  refine lv_aload_n hx hb dX8_takeBack_0 rfl (lv_at hl 0 rfl) ?_
  refine lv_iload_n hx hb dX8_takeBack_1 rfl (lv_at hl 1 rfl) ?_
  obtain ⟨v1, hc, h⟩ := zb1_s h
  refine zE_i (zrV (C := RX8) (As := [.int p1]) (rest := []) hx hb hml hown hts tw924 mv_X8_isOrder ⟨Nat.le_of_ble_eq_true rfl, Nat.le_of_ble_eq_true rfl⟩ rfl rfl (ct_X8_isOrder l D ct a ms ah hi kp sl sv pd ln so po wr to p1 k v1 hc) (z_pv hK hP [0, 1, 2, 3, 4, 5, 6, 7, 8] rfl 0 rfl rfl) hl.1 rfl rfl (Nat.le_of_ble_eq_true rfl) dX8_takeBack_2 ⟨Nat.le_refl _, Nat.le_refl _⟩) ?_
  refine zi_ne (tgt := 10) hx hb dX8_takeBack_5 (by decide) h (fun h => ?_) (fun h => ?_)
  · refine lv_aload_n hx hb dX8_takeBack_10 rfl (lv_at hl 0 rfl) ?_
    refine z_get (C := RX8) (T := TX8) (N := 12) (ci := 7) hx hb hts zin_X8 hown hK.1 hP 0 0 rfl rfl (by decide) tw795 rfl rfl dX8_takeBack_11 ?_
    refine lv_iload_n hx hb dX8_takeBack_14 rfl (lv_at hl 1 rfl) ?_
    refine lv_iconst (v := (3 : Int32)) hx hb dX8_takeBack_15 (by decide) ?_
    obtain ⟨v2, hc, h⟩ := zb1_s h
    refine zE_i (zrS (As := [.int p1, .int (3 : Int32)]) (rest := [.ref (a 31)]) hx hb hml hown hts tw917 ms_X8_ofOrderAt ⟨Nat.le_of_ble_eq_true rfl, Nat.le_of_ble_eq_true rfl⟩ rfl rfl (ct_X8_ofOrderAt l p1 (3 : Int32) k v2 hc) z_p0 hl.1 rfl rfl (Nat.le_of_ble_eq_true rfl) dX8_takeBack_16 ⟨Nat.le_refl _, Nat.le_refl _⟩) ?_
    refine y_iald hx hb hK hP 1 0 rfl rfl h dX8_takeBack_19 (fun v3 h => ?_)
    refine lv_iconst (v := (1 : Int32)) hx hb dX8_takeBack_20 (by decide) ?_
    refine zc_eq (tgt := 27) hx hb dX8_takeBack_21 (by decide) h (fun h => ?_) (fun h => ?_)
    · refine lv_aload_n hx hb dX8_takeBack_27 rfl (lv_at hl 0 rfl) ?_
      refine lv_iload_n hx hb dX8_takeBack_28 rfl (lv_at hl 1 rfl) ?_
      refine lv_iconst (v := (3 : Int32)) hx hb dX8_takeBack_29 (by decide) ?_
      obtain ⟨v4, hc, h⟩ := zb1_s h
      refine zE_i (zrS (As := [.int p1, .int (3 : Int32)]) (rest := [.ref (a 30)]) hx hb hml hown hts tw917 ms_X8_ofOrderAt ⟨Nat.le_of_ble_eq_true rfl, Nat.le_of_ble_eq_true rfl⟩ rfl rfl (ct_X8_ofOrderAt l p1 (3 : Int32) k v4 hc) z_p0 hl.1 rfl rfl (Nat.le_of_ble_eq_true rfl) dX8_takeBack_30 ⟨Nat.le_refl _, Nat.le_refl _⟩) ?_
      refine lv_iconst (v := (0 : Int32)) hx hb dX8_takeBack_33 (by decide) ?_
      obtain ⟨v5, ms6, ah7, hi8, kp9, hc, h⟩ := zb5_s h
      refine zG_i (w1 := wX8 ct a ms6 ah7 hi8 kp9 sl sv pd ln so po wr to) (ws' := wX8 ct a ms6 ah7 hi8 kp9 sl sv pd ln so po wr to) hP hD hS hA [0, 1, 2, 3, 4, 5, 6, 7, 8] [] [0, 1, 2, 3, 4, 5, 6, 7, 8] rfl rfl (by decide) (by decide) rfl (by decide) (zrV (C := RX8) (As := [.int v4, .int (0 : Int32)]) (rest := []) hx hb hml hown hts tw839 mv_X8_lays ⟨Nat.le_of_ble_eq_true rfl, Nat.le_of_ble_eq_true rfl⟩ rfl rfl (ct_X8_lays l D ct a ms ah hi kp sl sv pd ln so po wr to _ v4 (0 : Int32) k v5 ms6 ah7 hi8 kp9 hc) (z_wv hK hP hD [0, 1, 2, 3, 4, 5, 6, 7, 8] (by decide) rfl 0 rfl rfl) hl.1 rfl rfl (Nat.le_of_ble_eq_true rfl) dX8_takeBack_34 ⟨Nat.le_refl _, Nat.le_refl _⟩) (fun H locs hP hD hS => ?_)
      refine lv_istore_n (lv' := [(2, .int v5), (0, .ref (a 30)), (1, .int p1)]) hx hb dX8_takeBack_37 rfl hl (by decide) rfl (fun ls hl => ?_)
      refine lv_aload_n hx hb dX8_takeBack_38 rfl (lv_at hl 1 rfl) ?_
      refine z_get (C := RX8) (T := TX8) (N := 12) (ci := 7) hx hb hts zin_X8 hown hK.1 hP 0 0 rfl rfl (by decide) tw795 rfl rfl dX8_takeBack_39 ?_
      refine lv_iload_n hx hb dX8_takeBack_42 rfl (lv_at hl 2 rfl) ?_
      refine lv_iconst (v := (4 : Int32)) hx hb dX8_takeBack_43 (by decide) ?_
      obtain ⟨v10, hc, h⟩ := zb1_s h
      refine zE_i (zrS (As := [.int p1, .int (4 : Int32)]) (rest := [.ref (a 31)]) hx hb hml hown hts tw917 ms_X8_ofOrderAt ⟨Nat.le_of_ble_eq_true rfl, Nat.le_of_ble_eq_true rfl⟩ rfl rfl (ct_X8_ofOrderAt l p1 (4 : Int32) k v10 hc) z_p0 hl.1 rfl rfl (Nat.le_of_ble_eq_true rfl) dX8_takeBack_44 ⟨Nat.le_refl _, Nat.le_refl _⟩) ?_
      refine y_iald hx hb hK hP 1 0 rfl rfl h dX8_takeBack_47 (fun v11 h => ?_)
      refine lv_istore_n (lv' := [(3, .int v11), (2, .int v5), (0, .ref (a 30)), (1, .int p1)]) hx hb dX8_takeBack_48 rfl hl (by decide) rfl (fun ls hl => ?_)
      refine lv_aload_n hx hb dX8_takeBack_49 rfl (lv_at hl 2 rfl) ?_
      refine z_get (C := RX8) (T := TX8) (N := 12) (ci := 7) hx hb hts zin_X8 hown hK.1 hP 0 0 rfl rfl (by decide) tw795 rfl rfl dX8_takeBack_50 ?_
      refine lv_iload_n hx hb dX8_takeBack_53 rfl (lv_at hl 3 rfl) ?_
      refine lv_iconst (v := (4 : Int32)) hx hb dX8_takeBack_54 (by decide) ?_
      obtain ⟨v12, hc, h⟩ := zb1_s h
      refine zE_i (zrS (As := [.int p1, .int (4 : Int32)]) (rest := [.ref (a 31)]) hx hb hml hown hts tw917 ms_X8_ofOrderAt ⟨Nat.le_of_ble_eq_true rfl, Nat.le_of_ble_eq_true rfl⟩ rfl rfl (ct_X8_ofOrderAt l p1 (4 : Int32) k v12 hc) z_p0 hl.1 rfl rfl (Nat.le_of_ble_eq_true rfl) dX8_takeBack_55 ⟨Nat.le_refl _, Nat.le_refl _⟩) ?_
      refine lv_bipush (v := (-6 : Int32)) hx hb dX8_takeBack_58 (by decide) ?_
      refine z_iast hx hb hK.1 hP hD hS 1 0 rfl rfl h dX8_takeBack_60 (fun ms13 H locs h hP hD hS => ?_)
      have hP : va_P D vwCl (wX8 ct a ms13 ah7 hi8 kp9 sl sv pd ln so po wr to) H := hP
      have hD : va_D A (wX8 ct a ms13 ah7 hi8 kp9 sl sv pd ln so po wr to) := hD
      refine lv_aload_n hx hb dX8_takeBack_61 rfl (lv_at hl 2 rfl) ?_
      refine z_get (C := RX8) (T := TX8) (N := 12) (ci := 7) hx hb hts zin_X8 hown hK.1 hP 0 0 rfl rfl (by decide) tw795 rfl rfl dX8_takeBack_62 ?_
      refine lv_iload_n hx hb dX8_takeBack_65 rfl (lv_at hl 0 rfl) ?_
      refine lv_bipush (v := (7 : Int32)) hx hb dX8_takeBack_66 (by decide) ?_
      obtain ⟨v14, hc, h⟩ := zb1_s h
      refine zE_i (zrS (As := [.int v11, .int (7 : Int32)]) (rest := [.ref (a 31)]) hx hb hml hown hts tw874 ms_X8_at ⟨Nat.le_of_ble_eq_true rfl, Nat.le_of_ble_eq_true rfl⟩ rfl rfl (ct_X8_at l v11 (7 : Int32) k v14 hc) z_p0 hl.1 rfl rfl (Nat.le_of_ble_eq_true rfl) dX8_takeBack_68 ⟨Nat.le_refl _, Nat.le_refl _⟩) ?_
      refine lv_bipush (v := (-6 : Int32)) hx hb dX8_takeBack_71 (by decide) ?_
      refine z_iast hx hb hK.1 hP hD hS 1 0 rfl rfl h dX8_takeBack_73 (fun ms15 H locs h hP hD hS => ?_)
      have hP : va_P D vwCl (wX8 ct a ms15 ah7 hi8 kp9 sl sv pd ln so po wr to) H := hP
      have hD : va_D A (wX8 ct a ms15 ah7 hi8 kp9 sl sv pd ln so po wr to) := hD
      refine lv_iload_n hx hb dX8_takeBack_74 rfl (lv_at hl 0 rfl) ?_
      cases h
      exact zX_i hx hb hr hlocks hP hD hS hAe dX8_takeBack_75 rfl
    · refine lv_bipush (v := (-5 : Int32)) hx hb dX8_takeBack_24 (by decide) ?_
      cases h
      exact zX_i hx hb hr hlocks hP hD hS hAe dX8_takeBack_26 rfl
  · refine lv_iconst (v := (-1 : Int32)) hx hb dX8_takeBack_8 (by decide) ?_
    cases h
    exact zX_i hx hb hr hlocks hP hD hS hAe dX8_takeBack_9 rfl

def f_X8_limits (k : Nat) (ms : Nat → Int32) (ah : Nat → Int32) (hi : Nat → Int32) (kp : Int32) (p1 : Int32) (p2 : Int32) (p3 : Int32) (p4 : Int32) : Option (Int32 × (Nat → Int32) × (Nat → Int32) × (Nat → Int32) × Int32) :=
  zb1 (f_X8_isLorry k p1) fun v1 =>
  if v1 = 0 then
    some ((-1 : Int32), ms, ah, hi, kp)
  else
    zb1 (f_X8_in k p2 (100 : Int32) (30000 : Int32)) fun v2 =>
    if v2 = 0 then
      some ((-2 : Int32), ms, ah, hi, kp)
    else
      zb1 (f_X8_in k p3 (100 : Int32) (30000 : Int32)) fun v3 =>
      if v3 = 0 then
        some ((-2 : Int32), ms, ah, hi, kp)
      else
        zb1 (f_X8_in k p4 (100 : Int32) (30000 : Int32)) fun v4 =>
        if v4 = 0 then
          some ((-2 : Int32), ms, ah, hi, kp)
        else
          zb1 (f_X8_ofLorryAt k p1 (0 : Int32)) fun v5 =>
          zb5 (f_X8_lays k ms ah hi kp v5 p2) fun v6 ms7 ah8 hi9 kp10 =>
          zb1 (f_X8_ofLorryAt k p1 (1 : Int32)) fun v11 =>
          zg (zin v11 324) (zl (upd ms7 v11.toNatClampNeg p3) fun ms12 =>
          zb1 (f_X8_ofLorryAt k p1 (2 : Int32)) fun v13 =>
          zg (zin v13 324) (zl (upd ms12 v13.toNatClampNeg p4) fun ms14 =>
          some ((1 : Int32), ms14, ah8, hi9, kp10)))
set_option maxRecDepth 100000 in
set_option maxHeartbeats 4000000 in
theorem ct_X8_limits (l : Launch) (D : va_G) (ct a : Nat → Nat) (ms : Nat → Int32) (ah : Nat → Int32) (hi : Nat → Int32) (kp : Int32) (sl : Nat → Int32) (sv : Nat → Int32) (pd : Nat → Int32) (ln : Int32) (so : Nat → Int32) (po : Int32) (wr : Int32) (to : Nat → Int32) (sz : Nat) (p1 : Int32) (p2 : Int32) (p3 : Int32) (p4 : Int32) (k : Nat) (r : Int32) (ms' : Nat → Int32) (ah' : Nat → Int32) (hi' : Nat → Int32) (kp' : Int32) (h : f_X8_limits k ms ah hi kp p1 p2 p3 p4 = some (r, ms', ah', hi', kp')) : Met l yX8_limits (Cond.code yX8_limits cX8_limits 6 (some .int) :: zT) ({ frames := 2, cells := 0, slots := 0, locals := 44 } : Room) (va_Pc [.ref (a 30), .int p1, .int p2, .int p3, .int p4] (zPW D (zTys ct) (wX8 ct a ms ah hi kp sl sv pd ln so po wr to) sz)) (va_Qi (fun r' (_ : Unit) => r' = r) (zQW D (wX8 ct a ms ah hi kp sl sv pd ln so po wr to) sz (wX8 ct a ms' ah' hi' kp' sl sv pd ln so po wr to)) (va_A (wX8 ct a ms ah hi kp sl sv pd ln so po wr to) sz)) 0 0 (va_A (wX8 ct a ms ah hi kp sl sv pd ln so po wr to) sz) := by
  refine zMet (cc := cX8_limits) (maxL := 6) (ret := (some .int)) (av := [.ref (a 30), .int p1, .int p2, .int p3, .int p4]) (by decide) (Nat.le_of_ble_eq_true rfl) (fun p e s m below meth c ls hx hb hr hml hts hown hlocks hin hB hl => ?_)
  have hl : lv_has ls 6 [(0, .ref (a 30)), (1, .int p1), (2, .int p2), (3, .int p3), (4, .int p4)] := hl
  have hown : s.vm.findClass RX8 = some m.cls := hown
  obtain ⟨hsz, hP, hK, hD0⟩ := hB
  subst hsz
  have hD := hD0.self (sz := s.heap.size)
  obtain ⟨A, hAe⟩ : ∃ A, A = va_A (wX8 ct a ms ah hi kp sl sv pd ln so po wr to) s.heap.size := ⟨_, rfl⟩
  rw [← hAe] at hD
  have hA : ∀ q : Nat, s.heap.size ≤ q → A q := fun q h => by rw [hAe]; exact Or.inr h
  have hS : va_S A s.heap s.heap [] := va_S.rf
  rw [f_X8_limits] at h
  refine lv_iload_n hx hb dX8_limits_0 rfl (lv_at hl 1 rfl) ?_
  obtain ⟨v1, hc, h⟩ := zb1_s h
  refine zE_i (zrS (As := [.int p1]) (rest := []) hx hb hml hown hts tw944 ms_X8_isLorry ⟨Nat.le_of_ble_eq_true rfl, Nat.le_of_ble_eq_true rfl⟩ rfl rfl (ct_X8_isLorry l p1 k v1 hc) z_p0 hl.1 rfl rfl (Nat.le_of_ble_eq_true rfl) dX8_limits_1 ⟨Nat.le_refl _, Nat.le_refl _⟩) ?_
  refine zi_ne (tgt := 9) hx hb dX8_limits_4 (by decide) h (fun h => ?_) (fun h => ?_)
  · refine lv_iload_n hx hb dX8_limits_9 rfl (lv_at hl 2 rfl) ?_
    refine lv_bipush (v := (100 : Int32)) hx hb dX8_limits_10 (by decide) ?_
    refine lv_sipush (v := (30000 : Int32)) hx hb dX8_limits_12 (by decide) ?_
    obtain ⟨v2, hc, h⟩ := zb1_s h
    refine zE_i (zrS (As := [.int p2, .int (100 : Int32), .int (30000 : Int32)]) (rest := []) hx hb hml hown hts tw836 ms_X8_in ⟨Nat.le_of_ble_eq_true rfl, Nat.le_of_ble_eq_true rfl⟩ rfl rfl (ct_X8_in l p2 (100 : Int32) (30000 : Int32) k v2 hc) z_p0 hl.1 rfl rfl (Nat.le_of_ble_eq_true rfl) dX8_limits_15 ⟨Nat.le_refl _, Nat.le_refl _⟩) ?_
    refine zi_eq (tgt := 46) hx hb dX8_limits_18 (by decide) h (fun h => ?_) (fun h => ?_)
    · refine lv_bipush (v := (-2 : Int32)) hx hb dX8_limits_46 (by decide) ?_
      cases h
      exact zX_i hx hb hr hlocks hP hD hS hAe dX8_limits_48 rfl
    · refine lv_iload_n hx hb dX8_limits_21 rfl (lv_at hl 3 rfl) ?_
      refine lv_bipush (v := (100 : Int32)) hx hb dX8_limits_22 (by decide) ?_
      refine lv_sipush (v := (30000 : Int32)) hx hb dX8_limits_24 (by decide) ?_
      obtain ⟨v3, hc, h⟩ := zb1_s h
      refine zE_i (zrS (As := [.int p3, .int (100 : Int32), .int (30000 : Int32)]) (rest := []) hx hb hml hown hts tw836 ms_X8_in ⟨Nat.le_of_ble_eq_true rfl, Nat.le_of_ble_eq_true rfl⟩ rfl rfl (ct_X8_in l p3 (100 : Int32) (30000 : Int32) k v3 hc) z_p0 hl.1 rfl rfl (Nat.le_of_ble_eq_true rfl) dX8_limits_27 ⟨Nat.le_refl _, Nat.le_refl _⟩) ?_
      refine zi_eq (tgt := 46) hx hb dX8_limits_30 (by decide) h (fun h => ?_) (fun h => ?_)
      · refine lv_bipush (v := (-2 : Int32)) hx hb dX8_limits_46 (by decide) ?_
        cases h
        exact zX_i hx hb hr hlocks hP hD hS hAe dX8_limits_48 rfl
      · refine lv_iload hx hb dX8_limits_33 (lv_at hl 4 rfl) ?_
        refine lv_bipush (v := (100 : Int32)) hx hb dX8_limits_35 (by decide) ?_
        refine lv_sipush (v := (30000 : Int32)) hx hb dX8_limits_37 (by decide) ?_
        obtain ⟨v4, hc, h⟩ := zb1_s h
        refine zE_i (zrS (As := [.int p4, .int (100 : Int32), .int (30000 : Int32)]) (rest := []) hx hb hml hown hts tw836 ms_X8_in ⟨Nat.le_of_ble_eq_true rfl, Nat.le_of_ble_eq_true rfl⟩ rfl rfl (ct_X8_in l p4 (100 : Int32) (30000 : Int32) k v4 hc) z_p0 hl.1 rfl rfl (Nat.le_of_ble_eq_true rfl) dX8_limits_40 ⟨Nat.le_refl _, Nat.le_refl _⟩) ?_
        refine zi_ne (tgt := 49) hx hb dX8_limits_43 (by decide) h (fun h => ?_) (fun h => ?_)
        · refine lv_aload_n hx hb dX8_limits_49 rfl (lv_at hl 0 rfl) ?_
          refine lv_iload_n hx hb dX8_limits_50 rfl (lv_at hl 1 rfl) ?_
          refine lv_iconst (v := (0 : Int32)) hx hb dX8_limits_51 (by decide) ?_
          obtain ⟨v5, hc, h⟩ := zb1_s h
          refine zE_i (zrS (As := [.int p1, .int (0 : Int32)]) (rest := [.ref (a 30)]) hx hb hml hown hts tw792 ms_X8_ofLorryAt ⟨Nat.le_of_ble_eq_true rfl, Nat.le_of_ble_eq_true rfl⟩ rfl rfl (ct_X8_ofLorryAt l p1 (0 : Int32) k v5 hc) z_p0 hl.1 rfl rfl (Nat.le_of_ble_eq_true rfl) dX8_limits_52 ⟨Nat.le_refl _, Nat.le_refl _⟩) ?_
          refine lv_iload_n hx hb dX8_limits_55 rfl (lv_at hl 2 rfl) ?_
          obtain ⟨v6, ms7, ah8, hi9, kp10, hc, h⟩ := zb5_s h
          refine zG_i (w1 := wX8 ct a ms7 ah8 hi9 kp10 sl sv pd ln so po wr to) (ws' := wX8 ct a ms7 ah8 hi9 kp10 sl sv pd ln so po wr to) hP hD hS hA [0, 1, 2, 3, 4, 5, 6, 7, 8] [] [0, 1, 2, 3, 4, 5, 6, 7, 8] rfl rfl (by decide) (by decide) rfl (by decide) (zrV (C := RX8) (As := [.int v5, .int p2]) (rest := []) hx hb hml hown hts tw839 mv_X8_lays ⟨Nat.le_of_ble_eq_true rfl, Nat.le_of_ble_eq_true rfl⟩ rfl rfl (ct_X8_lays l D ct a ms ah hi kp sl sv pd ln so po wr to _ v5 p2 k v6 ms7 ah8 hi9 kp10 hc) (z_wv hK hP hD [0, 1, 2, 3, 4, 5, 6, 7, 8] (by decide) rfl 0 rfl rfl) hl.1 rfl rfl (Nat.le_of_ble_eq_true rfl) dX8_limits_56 ⟨Nat.le_refl _, Nat.le_refl _⟩) (fun H locs hP hD hS => ?_)
          refine lv_istore (lv' := [(5, .int v6), (0, .ref (a 30)), (1, .int p1), (2, .int p2), (3, .int p3), (4, .int p4)]) hx hb dX8_limits_59 hl (by decide) rfl (fun ls hl => ?_)
          refine lv_aload_n hx hb dX8_limits_61 rfl (lv_at hl 1 rfl) ?_
          refine z_get (C := RX8) (T := TX8) (N := 12) (ci := 7) hx hb hts zin_X8 hown hK.1 hP 0 0 rfl rfl (by decide) tw795 rfl rfl dX8_limits_62 ?_
          refine lv_iload_n hx hb dX8_limits_65 rfl (lv_at hl 2 rfl) ?_
          refine lv_iconst (v := (1 : Int32)) hx hb dX8_limits_66 (by decide) ?_
          obtain ⟨v11, hc, h⟩ := zb1_s h
          refine zE_i (zrS (As := [.int p1, .int (1 : Int32)]) (rest := [.ref (a 31)]) hx hb hml hown hts tw792 ms_X8_ofLorryAt ⟨Nat.le_of_ble_eq_true rfl, Nat.le_of_ble_eq_true rfl⟩ rfl rfl (ct_X8_ofLorryAt l p1 (1 : Int32) k v11 hc) z_p0 hl.1 rfl rfl (Nat.le_of_ble_eq_true rfl) dX8_limits_67 ⟨Nat.le_refl _, Nat.le_refl _⟩) ?_
          refine lv_iload_n hx hb dX8_limits_70 rfl (lv_at hl 4 rfl) ?_
          refine z_iast hx hb hK.1 hP hD hS 1 0 rfl rfl h dX8_limits_71 (fun ms12 H locs h hP hD hS => ?_)
          have hP : va_P D vwCl (wX8 ct a ms12 ah8 hi9 kp10 sl sv pd ln so po wr to) H := hP
          have hD : va_D A (wX8 ct a ms12 ah8 hi9 kp10 sl sv pd ln so po wr to) := hD
          refine lv_aload_n hx hb dX8_limits_72 rfl (lv_at hl 1 rfl) ?_
          refine z_get (C := RX8) (T := TX8) (N := 12) (ci := 7) hx hb hts zin_X8 hown hK.1 hP 0 0 rfl rfl (by decide) tw795 rfl rfl dX8_limits_73 ?_
          refine lv_iload_n hx hb dX8_limits_76 rfl (lv_at hl 2 rfl) ?_
          refine lv_iconst (v := (2 : Int32)) hx hb dX8_limits_77 (by decide) ?_
          obtain ⟨v13, hc, h⟩ := zb1_s h
          refine zE_i (zrS (As := [.int p1, .int (2 : Int32)]) (rest := [.ref (a 31)]) hx hb hml hown hts tw792 ms_X8_ofLorryAt ⟨Nat.le_of_ble_eq_true rfl, Nat.le_of_ble_eq_true rfl⟩ rfl rfl (ct_X8_ofLorryAt l p1 (2 : Int32) k v13 hc) z_p0 hl.1 rfl rfl (Nat.le_of_ble_eq_true rfl) dX8_limits_78 ⟨Nat.le_refl _, Nat.le_refl _⟩) ?_
          refine lv_iload hx hb dX8_limits_81 (lv_at hl 5 rfl) ?_
          refine z_iast hx hb hK.1 hP hD hS 1 0 rfl rfl h dX8_limits_83 (fun ms14 H locs h hP hD hS => ?_)
          have hP : va_P D vwCl (wX8 ct a ms14 ah8 hi9 kp10 sl sv pd ln so po wr to) H := hP
          have hD : va_D A (wX8 ct a ms14 ah8 hi9 kp10 sl sv pd ln so po wr to) := hD
          refine lv_iconst (v := (1 : Int32)) hx hb dX8_limits_84 (by decide) ?_
          cases h
          exact zX_i hx hb hr hlocks hP hD hS hAe dX8_limits_85 rfl
        · refine lv_bipush (v := (-2 : Int32)) hx hb dX8_limits_46 (by decide) ?_
          cases h
          exact zX_i hx hb hr hlocks hP hD hS hAe dX8_limits_48 rfl
  · refine lv_iconst (v := (-1 : Int32)) hx hb dX8_limits_7 (by decide) ?_
    cases h
    exact zX_i hx hb hr hlocks hP hD hS hAe dX8_limits_8 rfl

def f_X8_load (k : Nat) (ms : Nat → Int32) (ah : Nat → Int32) (hi : Nat → Int32) (kp : Int32) (so : Nat → Int32) (p1 : Int32) (p2 : Int32) (p3 : Int32) : Option (Int32 × (Nat → Int32) × (Nat → Int32) × (Nat → Int32) × Int32 × (Nat → Int32)) :=
  zb6 (f_X8_tries k ms ah hi kp so (108 : Int32) p1 p2 p3 (0 : Int32)) fun v1 ms2 ah3 hi4 kp5 so6 =>
  some (v1, ms2, ah3, hi4, kp5, so6)
set_option maxRecDepth 100000 in
set_option maxHeartbeats 4000000 in
theorem ct_X8_load (l : Launch) (D : va_G) (ct a : Nat → Nat) (ms : Nat → Int32) (ah : Nat → Int32) (hi : Nat → Int32) (kp : Int32) (sl : Nat → Int32) (sv : Nat → Int32) (pd : Nat → Int32) (ln : Int32) (so : Nat → Int32) (po : Int32) (wr : Int32) (to : Nat → Int32) (sz : Nat) (p1 : Int32) (p2 : Int32) (p3 : Int32) (k : Nat) (r : Int32) (ms' : Nat → Int32) (ah' : Nat → Int32) (hi' : Nat → Int32) (kp' : Int32) (so' : Nat → Int32) (h : f_X8_load k ms ah hi kp so p1 p2 p3 = some (r, ms', ah', hi', kp', so')) : Met l yX8_load (Cond.code yX8_load cX8_load 4 (some .int) :: zT) ({ frames := 8, cells := 0, slots := 0, locals := 190 } : Room) (va_Pc [.ref (a 30), .int p1, .int p2, .int p3] (zPW D (zTys ct) (wX8 ct a ms ah hi kp sl sv pd ln so po wr to) sz)) (va_Qi (fun r' (_ : Unit) => r' = r) (zQW D (wX8 ct a ms ah hi kp sl sv pd ln so po wr to) sz (wX8 ct a ms' ah' hi' kp' sl sv pd ln so' po wr to)) (va_A (wX8 ct a ms ah hi kp sl sv pd ln so po wr to) sz)) 0 0 (va_A (wX8 ct a ms ah hi kp sl sv pd ln so po wr to) sz) := by
  refine zMet (cc := cX8_load) (maxL := 4) (ret := (some .int)) (av := [.ref (a 30), .int p1, .int p2, .int p3]) (by decide) (Nat.le_of_ble_eq_true rfl) (fun p e s m below meth c ls hx hb hr hml hts hown hlocks hin hB hl => ?_)
  have hl : lv_has ls 4 [(0, .ref (a 30)), (1, .int p1), (2, .int p2), (3, .int p3)] := hl
  have hown : s.vm.findClass RX8 = some m.cls := hown
  obtain ⟨hsz, hP, hK, hD0⟩ := hB
  subst hsz
  have hD := hD0.self (sz := s.heap.size)
  obtain ⟨A, hAe⟩ : ∃ A, A = va_A (wX8 ct a ms ah hi kp sl sv pd ln so po wr to) s.heap.size := ⟨_, rfl⟩
  rw [← hAe] at hD
  have hA : ∀ q : Nat, s.heap.size ≤ q → A q := fun q h => by rw [hAe]; exact Or.inr h
  have hS : va_S A s.heap s.heap [] := va_S.rf
  rw [f_X8_load] at h
  refine lv_aload_n hx hb dX8_load_0 rfl (lv_at hl 0 rfl) ?_
  refine lv_bipush (v := (108 : Int32)) hx hb dX8_load_1 (by decide) ?_
  refine lv_iload_n hx hb dX8_load_3 rfl (lv_at hl 1 rfl) ?_
  refine lv_iload_n hx hb dX8_load_4 rfl (lv_at hl 2 rfl) ?_
  refine lv_iload_n hx hb dX8_load_5 rfl (lv_at hl 3 rfl) ?_
  refine lv_iconst (v := (0 : Int32)) hx hb dX8_load_6 (by decide) ?_
  obtain ⟨v1, ms2, ah3, hi4, kp5, so6, hc, h⟩ := zb6_s h
  refine zG_i (w1 := wX8 ct a ms2 ah3 hi4 kp5 sl sv pd ln so6 po wr to) (ws' := wX8 ct a ms2 ah3 hi4 kp5 sl sv pd ln so6 po wr to) hP hD hS hA [0, 1, 2, 3, 4, 5, 6, 7, 8] [] [0, 1, 2, 3, 4, 5, 6, 7, 8] rfl rfl (by decide) (by decide) rfl (by decide) (zrV (C := RX8) (As := [.int (108 : Int32), .int p1, .int p2, .int p3, .int (0 : Int32)]) (rest := []) hx hb hml hown hts tw855 mv_X8_tries ⟨Nat.le_of_ble_eq_true rfl, Nat.le_of_ble_eq_true rfl⟩ rfl rfl (ct_X8_tries l D ct a ms ah hi kp sl sv pd ln so po wr to _ (108 : Int32) p1 p2 p3 (0 : Int32) k v1 ms2 ah3 hi4 kp5 so6 hc) (z_wv hK hP hD [0, 1, 2, 3, 4, 5, 6, 7, 8] (by decide) rfl 0 rfl rfl) hl.1 rfl rfl (Nat.le_of_ble_eq_true rfl) dX8_load_7 ⟨Nat.le_refl _, Nat.le_refl _⟩) (fun H locs hP hD hS => ?_)
  cases h
  exact zX_i hx hb hr hlocks hP hD hS hAe dX8_load_10 rfl

def f_X8_unload (k : Nat) (ms : Nat → Int32) (ah : Nat → Int32) (hi : Nat → Int32) (kp : Int32) (p1 : Int32) : Option (Int32 × (Nat → Int32) × (Nat → Int32) × (Nat → Int32) × Int32) :=
  zb1 (f_X8_isBlock k ms p1) fun v1 =>
  if v1 = 0 then
    some ((-1 : Int32), ms, ah, hi, kp)
  else
    zb1 (f_X8_isAt k ms p1 (2 : Int32)) fun v2 =>
    if v2 = 0 then
      some ((-5 : Int32), ms, ah, hi, kp)
    else
      zb1 (f_X8_at k p1 (8 : Int32)) fun v3 =>
      zb5 (f_X8_lays k ms ah hi kp v3 (-6 : Int32)) fun v4 ms5 ah6 hi7 kp8 =>
      zb1 (f_X8_at k p1 (4 : Int32)) fun v9 =>
      zg (zin v9 324) (zl (upd ms5 v9.toNatClampNeg (0 : Int32)) fun ms10 =>
      zl (v4 / (5 : Int32)) fun v11 =>
      zb1 (f_X8_loadOf k ms10 v11) fun v12 =>
      some (v12, ms10, ah6, hi7, kp8))
set_option maxRecDepth 100000 in
set_option maxHeartbeats 4000000 in
theorem ct_X8_unload (l : Launch) (D : va_G) (ct a : Nat → Nat) (ms : Nat → Int32) (ah : Nat → Int32) (hi : Nat → Int32) (kp : Int32) (sl : Nat → Int32) (sv : Nat → Int32) (pd : Nat → Int32) (ln : Int32) (so : Nat → Int32) (po : Int32) (wr : Int32) (to : Nat → Int32) (sz : Nat) (p1 : Int32) (k : Nat) (r : Int32) (ms' : Nat → Int32) (ah' : Nat → Int32) (hi' : Nat → Int32) (kp' : Int32) (h : f_X8_unload k ms ah hi kp p1 = some (r, ms', ah', hi', kp')) : Met l yX8_unload (Cond.code yX8_unload cX8_unload 3 (some .int) :: zT) ({ frames := 3, cells := 0, slots := 0, locals := 68 } : Room) (va_Pc [.ref (a 30), .int p1] (zPW D (zTys ct) (wX8 ct a ms ah hi kp sl sv pd ln so po wr to) sz)) (va_Qi (fun r' (_ : Unit) => r' = r) (zQW D (wX8 ct a ms ah hi kp sl sv pd ln so po wr to) sz (wX8 ct a ms' ah' hi' kp' sl sv pd ln so po wr to)) (va_A (wX8 ct a ms ah hi kp sl sv pd ln so po wr to) sz)) 0 0 (va_A (wX8 ct a ms ah hi kp sl sv pd ln so po wr to) sz) := by
  refine zMet (cc := cX8_unload) (maxL := 3) (ret := (some .int)) (av := [.ref (a 30), .int p1]) (by decide) (Nat.le_of_ble_eq_true rfl) (fun p e s m below meth c ls hx hb hr hml hts hown hlocks hin hB hl => ?_)
  have hl : lv_has ls 3 [(0, .ref (a 30)), (1, .int p1)] := hl
  have hown : s.vm.findClass RX8 = some m.cls := hown
  obtain ⟨hsz, hP, hK, hD0⟩ := hB
  subst hsz
  have hD := hD0.self (sz := s.heap.size)
  obtain ⟨A, hAe⟩ : ∃ A, A = va_A (wX8 ct a ms ah hi kp sl sv pd ln so po wr to) s.heap.size := ⟨_, rfl⟩
  rw [← hAe] at hD
  have hA : ∀ q : Nat, s.heap.size ≤ q → A q := fun q h => by rw [hAe]; exact Or.inr h
  have hS : va_S A s.heap s.heap [] := va_S.rf
  rw [f_X8_unload] at h
  refine lv_aload_n hx hb dX8_unload_0 rfl (lv_at hl 0 rfl) ?_
  refine lv_iload_n hx hb dX8_unload_1 rfl (lv_at hl 1 rfl) ?_
  obtain ⟨v1, hc, h⟩ := zb1_s h
  refine zE_i (zrV (C := RX8) (As := [.int p1]) (rest := []) hx hb hml hown hts tw885 mv_X8_isBlock ⟨Nat.le_of_ble_eq_true rfl, Nat.le_of_ble_eq_true rfl⟩ rfl rfl (ct_X8_isBlock l D ct a ms ah hi kp sl sv pd ln so po wr to p1 k v1 hc) (z_pv hK hP [0, 1, 2, 3, 4, 5, 6, 7, 8] rfl 0 rfl rfl) hl.1 rfl rfl (Nat.le_of_ble_eq_true rfl) dX8_unload_2 ⟨Nat.le_refl _, Nat.le_refl _⟩) ?_
  refine zi_ne (tgt := 10) hx hb dX8_unload_5 (by decide) h (fun h => ?_) (fun h => ?_)
  · refine lv_aload_n hx hb dX8_unload_10 rfl (lv_at hl 0 rfl) ?_
    refine lv_iload_n hx hb dX8_unload_11 rfl (lv_at hl 1 rfl) ?_
    refine lv_iconst (v := (2 : Int32)) hx hb dX8_unload_12 (by decide) ?_
    obtain ⟨v2, hc, h⟩ := zb1_s h
    refine zE_i (zrV (C := RX8) (As := [.int p1, .int (2 : Int32)]) (rest := []) hx hb hml hown hts tw897 mv_X8_isAt ⟨Nat.le_of_ble_eq_true rfl, Nat.le_of_ble_eq_true rfl⟩ rfl rfl (ct_X8_isAt l D ct a ms ah hi kp sl sv pd ln so po wr to p1 (2 : Int32) k v2 hc) (z_pv hK hP [0, 1, 2, 3, 4, 5, 6, 7, 8] rfl 0 rfl rfl) hl.1 rfl rfl (Nat.le_of_ble_eq_true rfl) dX8_unload_13 ⟨Nat.le_refl _, Nat.le_refl _⟩) ?_
    refine zi_ne (tgt := 22) hx hb dX8_unload_16 (by decide) h (fun h => ?_) (fun h => ?_)
    · refine lv_aload_n hx hb dX8_unload_22 rfl (lv_at hl 0 rfl) ?_
      refine lv_iload_n hx hb dX8_unload_23 rfl (lv_at hl 1 rfl) ?_
      refine lv_bipush (v := (8 : Int32)) hx hb dX8_unload_24 (by decide) ?_
      obtain ⟨v3, hc, h⟩ := zb1_s h
      refine zE_i (zrS (As := [.int p1, .int (8 : Int32)]) (rest := [.ref (a 30)]) hx hb hml hown hts tw874 ms_X8_at ⟨Nat.le_of_ble_eq_true rfl, Nat.le_of_ble_eq_true rfl⟩ rfl rfl (ct_X8_at l p1 (8 : Int32) k v3 hc) z_p0 hl.1 rfl rfl (Nat.le_of_ble_eq_true rfl) dX8_unload_26 ⟨Nat.le_refl _, Nat.le_refl _⟩) ?_
      refine lv_bipush (v := (-6 : Int32)) hx hb dX8_unload_29 (by decide) ?_
      obtain ⟨v4, ms5, ah6, hi7, kp8, hc, h⟩ := zb5_s h
      refine zG_i (w1 := wX8 ct a ms5 ah6 hi7 kp8 sl sv pd ln so po wr to) (ws' := wX8 ct a ms5 ah6 hi7 kp8 sl sv pd ln so po wr to) hP hD hS hA [0, 1, 2, 3, 4, 5, 6, 7, 8] [] [0, 1, 2, 3, 4, 5, 6, 7, 8] rfl rfl (by decide) (by decide) rfl (by decide) (zrV (C := RX8) (As := [.int v3, .int (-6 : Int32)]) (rest := []) hx hb hml hown hts tw839 mv_X8_lays ⟨Nat.le_of_ble_eq_true rfl, Nat.le_of_ble_eq_true rfl⟩ rfl rfl (ct_X8_lays l D ct a ms ah hi kp sl sv pd ln so po wr to _ v3 (-6 : Int32) k v4 ms5 ah6 hi7 kp8 hc) (z_wv hK hP hD [0, 1, 2, 3, 4, 5, 6, 7, 8] (by decide) rfl 0 rfl rfl) hl.1 rfl rfl (Nat.le_of_ble_eq_true rfl) dX8_unload_31 ⟨Nat.le_refl _, Nat.le_refl _⟩) (fun H locs hP hD hS => ?_)
      refine lv_istore_n (lv' := [(2, .int v4), (0, .ref (a 30)), (1, .int p1)]) hx hb dX8_unload_34 rfl hl (by decide) rfl (fun ls hl => ?_)
      refine lv_aload_n hx hb dX8_unload_35 rfl (lv_at hl 1 rfl) ?_
      refine z_get (C := RX8) (T := TX8) (N := 12) (ci := 7) hx hb hts zin_X8 hown hK.1 hP 0 0 rfl rfl (by decide) tw795 rfl rfl dX8_unload_36 ?_
      refine lv_iload_n hx hb dX8_unload_39 rfl (lv_at hl 2 rfl) ?_
      refine lv_iconst (v := (4 : Int32)) hx hb dX8_unload_40 (by decide) ?_
      obtain ⟨v9, hc, h⟩ := zb1_s h
      refine zE_i (zrS (As := [.int p1, .int (4 : Int32)]) (rest := [.ref (a 31)]) hx hb hml hown hts tw874 ms_X8_at ⟨Nat.le_of_ble_eq_true rfl, Nat.le_of_ble_eq_true rfl⟩ rfl rfl (ct_X8_at l p1 (4 : Int32) k v9 hc) z_p0 hl.1 rfl rfl (Nat.le_of_ble_eq_true rfl) dX8_unload_41 ⟨Nat.le_refl _, Nat.le_refl _⟩) ?_
      refine lv_iconst (v := (0 : Int32)) hx hb dX8_unload_44 (by decide) ?_
      refine z_iast hx hb hK.1 hP hD hS 1 0 rfl rfl h dX8_unload_45 (fun ms10 H locs h hP hD hS => ?_)
      have hP : va_P D vwCl (wX8 ct a ms10 ah6 hi7 kp8 sl sv pd ln so po wr to) H := hP
      have hD : va_D A (wX8 ct a ms10 ah6 hi7 kp8 sl sv pd ln so po wr to) := hD
      refine lv_aload_n hx hb dX8_unload_46 rfl (lv_at hl 1 rfl) ?_
      refine lv_iload_n hx hb dX8_unload_47 rfl (lv_at hl 0 rfl) ?_
      refine lv_iconst (v := (5 : Int32)) hx hb dX8_unload_48 (by decide) ?_
      refine o_idiv hx hb dX8_unload_49 (by decide) h (fun v11 h => ?_)
      obtain ⟨v12, hc, h⟩ := zb1_s h
      refine zE_i (zrV (C := RX8) (As := [.int v11]) (rest := []) hx hb hml hown hts tw951 mv_X8_loadOf ⟨Nat.le_of_ble_eq_true rfl, Nat.le_of_ble_eq_true rfl⟩ rfl rfl (ct_X8_loadOf l D ct a ms10 ah6 hi7 kp8 sl sv pd ln so po wr to v11 k v12 hc) (z_pv hK hP [0, 1, 2, 3, 4, 5, 6, 7, 8] rfl 0 rfl rfl) hl.1 rfl rfl (Nat.le_of_ble_eq_true rfl) dX8_unload_50 ⟨Nat.le_refl _, Nat.le_refl _⟩) ?_
      cases h
      exact zX_i hx hb hr hlocks hP hD hS hAe dX8_unload_53 rfl
    · refine lv_bipush (v := (-5 : Int32)) hx hb dX8_unload_19 (by decide) ?_
      cases h
      exact zX_i hx hb hr hlocks hP hD hS hAe dX8_unload_21 rfl
  · refine lv_iconst (v := (-1 : Int32)) hx hb dX8_unload_8 (by decide) ?_
    cases h
    exact zX_i hx hb hr hlocks hP hD hS hAe dX8_unload_9 rfl

def f_X8_leave (k : Nat) (ms : Nat → Int32) (ah : Nat → Int32) (hi : Nat → Int32) (kp : Int32) (so : Nat → Int32) (p1 : Int32) : Option (Int32 × (Nat → Int32) × (Nat → Int32) × (Nat → Int32) × Int32 × (Nat → Int32)) :=
  zb6 (f_X8_tries k ms ah hi kp so (100 : Int32) p1 (0 : Int32) (0 : Int32) (0 : Int32)) fun v1 ms2 ah3 hi4 kp5 so6 =>
  some (v1, ms2, ah3, hi4, kp5, so6)
set_option maxRecDepth 100000 in
set_option maxHeartbeats 4000000 in
theorem ct_X8_leave (l : Launch) (D : va_G) (ct a : Nat → Nat) (ms : Nat → Int32) (ah : Nat → Int32) (hi : Nat → Int32) (kp : Int32) (sl : Nat → Int32) (sv : Nat → Int32) (pd : Nat → Int32) (ln : Int32) (so : Nat → Int32) (po : Int32) (wr : Int32) (to : Nat → Int32) (sz : Nat) (p1 : Int32) (k : Nat) (r : Int32) (ms' : Nat → Int32) (ah' : Nat → Int32) (hi' : Nat → Int32) (kp' : Int32) (so' : Nat → Int32) (h : f_X8_leave k ms ah hi kp so p1 = some (r, ms', ah', hi', kp', so')) : Met l yX8_leave (Cond.code yX8_leave cX8_leave 2 (some .int) :: zT) ({ frames := 8, cells := 0, slots := 0, locals := 190 } : Room) (va_Pc [.ref (a 30), .int p1] (zPW D (zTys ct) (wX8 ct a ms ah hi kp sl sv pd ln so po wr to) sz)) (va_Qi (fun r' (_ : Unit) => r' = r) (zQW D (wX8 ct a ms ah hi kp sl sv pd ln so po wr to) sz (wX8 ct a ms' ah' hi' kp' sl sv pd ln so' po wr to)) (va_A (wX8 ct a ms ah hi kp sl sv pd ln so po wr to) sz)) 0 0 (va_A (wX8 ct a ms ah hi kp sl sv pd ln so po wr to) sz) := by
  refine zMet (cc := cX8_leave) (maxL := 2) (ret := (some .int)) (av := [.ref (a 30), .int p1]) (by decide) (Nat.le_of_ble_eq_true rfl) (fun p e s m below meth c ls hx hb hr hml hts hown hlocks hin hB hl => ?_)
  have hl : lv_has ls 2 [(0, .ref (a 30)), (1, .int p1)] := hl
  have hown : s.vm.findClass RX8 = some m.cls := hown
  obtain ⟨hsz, hP, hK, hD0⟩ := hB
  subst hsz
  have hD := hD0.self (sz := s.heap.size)
  obtain ⟨A, hAe⟩ : ∃ A, A = va_A (wX8 ct a ms ah hi kp sl sv pd ln so po wr to) s.heap.size := ⟨_, rfl⟩
  rw [← hAe] at hD
  have hA : ∀ q : Nat, s.heap.size ≤ q → A q := fun q h => by rw [hAe]; exact Or.inr h
  have hS : va_S A s.heap s.heap [] := va_S.rf
  rw [f_X8_leave] at h
  refine lv_aload_n hx hb dX8_leave_0 rfl (lv_at hl 0 rfl) ?_
  refine lv_bipush (v := (100 : Int32)) hx hb dX8_leave_1 (by decide) ?_
  refine lv_iload_n hx hb dX8_leave_3 rfl (lv_at hl 1 rfl) ?_
  refine lv_iconst (v := (0 : Int32)) hx hb dX8_leave_4 (by decide) ?_
  refine lv_iconst (v := (0 : Int32)) hx hb dX8_leave_5 (by decide) ?_
  refine lv_iconst (v := (0 : Int32)) hx hb dX8_leave_6 (by decide) ?_
  obtain ⟨v1, ms2, ah3, hi4, kp5, so6, hc, h⟩ := zb6_s h
  refine zG_i (w1 := wX8 ct a ms2 ah3 hi4 kp5 sl sv pd ln so6 po wr to) (ws' := wX8 ct a ms2 ah3 hi4 kp5 sl sv pd ln so6 po wr to) hP hD hS hA [0, 1, 2, 3, 4, 5, 6, 7, 8] [] [0, 1, 2, 3, 4, 5, 6, 7, 8] rfl rfl (by decide) (by decide) rfl (by decide) (zrV (C := RX8) (As := [.int (100 : Int32), .int p1, .int (0 : Int32), .int (0 : Int32), .int (0 : Int32)]) (rest := []) hx hb hml hown hts tw855 mv_X8_tries ⟨Nat.le_of_ble_eq_true rfl, Nat.le_of_ble_eq_true rfl⟩ rfl rfl (ct_X8_tries l D ct a ms ah hi kp sl sv pd ln so po wr to _ (100 : Int32) p1 (0 : Int32) (0 : Int32) (0 : Int32) k v1 ms2 ah3 hi4 kp5 so6 hc) (z_wv hK hP hD [0, 1, 2, 3, 4, 5, 6, 7, 8] (by decide) rfl 0 rfl rfl) hl.1 rfl rfl (Nat.le_of_ble_eq_true rfl) dX8_leave_7 ⟨Nat.le_refl _, Nat.le_refl _⟩) (fun H locs hP hD hS => ?_)
  cases h
  exact zX_i hx hb hr hlocks hP hD hS hAe dX8_leave_10 rfl

def f_X8_night (k : Nat) (ms : Nat → Int32) (ah : Nat → Int32) (hi : Nat → Int32) (kp : Int32) (so : Nat → Int32) (p1 : Int32) : Option (Int32 × (Nat → Int32) × (Nat → Int32) × (Nat → Int32) × Int32 × (Nat → Int32)) :=
  zb6 (f_X8_tries k ms ah hi kp so (110 : Int32) p1 (0 : Int32) (0 : Int32) (0 : Int32)) fun v1 ms2 ah3 hi4 kp5 so6 =>
  some (v1, ms2, ah3, hi4, kp5, so6)
set_option maxRecDepth 100000 in
set_option maxHeartbeats 4000000 in
theorem ct_X8_night (l : Launch) (D : va_G) (ct a : Nat → Nat) (ms : Nat → Int32) (ah : Nat → Int32) (hi : Nat → Int32) (kp : Int32) (sl : Nat → Int32) (sv : Nat → Int32) (pd : Nat → Int32) (ln : Int32) (so : Nat → Int32) (po : Int32) (wr : Int32) (to : Nat → Int32) (sz : Nat) (p1 : Int32) (k : Nat) (r : Int32) (ms' : Nat → Int32) (ah' : Nat → Int32) (hi' : Nat → Int32) (kp' : Int32) (so' : Nat → Int32) (h : f_X8_night k ms ah hi kp so p1 = some (r, ms', ah', hi', kp', so')) : Met l yX8_night (Cond.code yX8_night cX8_night 2 (some .int) :: zT) ({ frames := 8, cells := 0, slots := 0, locals := 190 } : Room) (va_Pc [.ref (a 30), .int p1] (zPW D (zTys ct) (wX8 ct a ms ah hi kp sl sv pd ln so po wr to) sz)) (va_Qi (fun r' (_ : Unit) => r' = r) (zQW D (wX8 ct a ms ah hi kp sl sv pd ln so po wr to) sz (wX8 ct a ms' ah' hi' kp' sl sv pd ln so' po wr to)) (va_A (wX8 ct a ms ah hi kp sl sv pd ln so po wr to) sz)) 0 0 (va_A (wX8 ct a ms ah hi kp sl sv pd ln so po wr to) sz) := by
  refine zMet (cc := cX8_night) (maxL := 2) (ret := (some .int)) (av := [.ref (a 30), .int p1]) (by decide) (Nat.le_of_ble_eq_true rfl) (fun p e s m below meth c ls hx hb hr hml hts hown hlocks hin hB hl => ?_)
  have hl : lv_has ls 2 [(0, .ref (a 30)), (1, .int p1)] := hl
  have hown : s.vm.findClass RX8 = some m.cls := hown
  obtain ⟨hsz, hP, hK, hD0⟩ := hB
  subst hsz
  have hD := hD0.self (sz := s.heap.size)
  obtain ⟨A, hAe⟩ : ∃ A, A = va_A (wX8 ct a ms ah hi kp sl sv pd ln so po wr to) s.heap.size := ⟨_, rfl⟩
  rw [← hAe] at hD
  have hA : ∀ q : Nat, s.heap.size ≤ q → A q := fun q h => by rw [hAe]; exact Or.inr h
  have hS : va_S A s.heap s.heap [] := va_S.rf
  rw [f_X8_night] at h
  refine lv_aload_n hx hb dX8_night_0 rfl (lv_at hl 0 rfl) ?_
  refine lv_bipush (v := (110 : Int32)) hx hb dX8_night_1 (by decide) ?_
  refine lv_iload_n hx hb dX8_night_3 rfl (lv_at hl 1 rfl) ?_
  refine lv_iconst (v := (0 : Int32)) hx hb dX8_night_4 (by decide) ?_
  refine lv_iconst (v := (0 : Int32)) hx hb dX8_night_5 (by decide) ?_
  refine lv_iconst (v := (0 : Int32)) hx hb dX8_night_6 (by decide) ?_
  obtain ⟨v1, ms2, ah3, hi4, kp5, so6, hc, h⟩ := zb6_s h
  refine zG_i (w1 := wX8 ct a ms2 ah3 hi4 kp5 sl sv pd ln so6 po wr to) (ws' := wX8 ct a ms2 ah3 hi4 kp5 sl sv pd ln so6 po wr to) hP hD hS hA [0, 1, 2, 3, 4, 5, 6, 7, 8] [] [0, 1, 2, 3, 4, 5, 6, 7, 8] rfl rfl (by decide) (by decide) rfl (by decide) (zrV (C := RX8) (As := [.int (110 : Int32), .int p1, .int (0 : Int32), .int (0 : Int32), .int (0 : Int32)]) (rest := []) hx hb hml hown hts tw855 mv_X8_tries ⟨Nat.le_of_ble_eq_true rfl, Nat.le_of_ble_eq_true rfl⟩ rfl rfl (ct_X8_tries l D ct a ms ah hi kp sl sv pd ln so po wr to _ (110 : Int32) p1 (0 : Int32) (0 : Int32) (0 : Int32) k v1 ms2 ah3 hi4 kp5 so6 hc) (z_wv hK hP hD [0, 1, 2, 3, 4, 5, 6, 7, 8] (by decide) rfl 0 rfl rfl) hl.1 rfl rfl (Nat.le_of_ble_eq_true rfl) dX8_night_7 ⟨Nat.le_refl _, Nat.le_refl _⟩) (fun H locs hP hD hS => ?_)
  cases h
  exact zX_i hx hb hr hlocks hP hD hS hAe dX8_night_10 rfl

def f_X8_of (k : Nat) (ms : Nat → Int32) (p1 : Int32) (p2 : Int32) : Option (Int32) :=
  zb1 (f_X8_isBlock k ms p1) fun v1 =>
  if v1 = 0 then
    some (-1 : Int32)
  else
    if p2 = (4 : Int32) then
      zb1 (f_X8_weight k ms p1) fun v9 =>
      some v9
    else
      zb1 (f_X8_in k p2 (0 : Int32) (3 : Int32)) fun v2 =>
      if v2 = 0 then
        zb1 (f_X8_in k p2 (5 : Int32) (10 : Int32)) fun v3 =>
        if v3 = 0 then
          some (-2 : Int32)
        else
          zl (p2 - (1 : Int32)) fun v4 =>
          zb1 (f_X8_at k p1 v4) fun v5 =>
          zg (zin v5 324) (zl (ms v5.toNatClampNeg) fun v6 =>
          some v6)
      else
        zb1 (f_X8_at k p1 p2) fun v7 =>
        zg (zin v7 324) (zl (ms v7.toNatClampNeg) fun v8 =>
        some v8)
set_option maxRecDepth 100000 in
set_option maxHeartbeats 4000000 in
theorem ct_X8_of (l : Launch) (D : va_G) (ct a : Nat → Nat) (ms : Nat → Int32) (ah : Nat → Int32) (hi : Nat → Int32) (kp : Int32) (sl : Nat → Int32) (sv : Nat → Int32) (pd : Nat → Int32) (ln : Int32) (so : Nat → Int32) (po : Int32) (wr : Int32) (to : Nat → Int32) (p1 : Int32) (p2 : Int32) (k : Nat) (r : Int32) (h : f_X8_of k ms p1 p2 = some r) : Met l yX8_of (Cond.code yX8_of cX8_of 3 (some .int) :: zT) ({ frames := 2, cells := 0, slots := 0, locals := 43 } : Room) (va_Pc [.ref (a 30), .int p1, .int p2] (zPR D (zTys ct) (wX8 ct a ms ah hi kp sl sv pd ln so po wr to))) (vp_Si (fun r' => r' = r)) 0 0 (fun _ => False) := by
  refine zMet (cc := cX8_of) (maxL := 3) (ret := (some .int)) (av := [.ref (a 30), .int p1, .int p2]) (by decide) (Nat.le_of_ble_eq_true rfl) (fun p e s m below meth c ls hx hb hr hml hts hown hlocks hin hB hl => ?_)
  have hl : lv_has ls 3 [(0, .ref (a 30)), (1, .int p1), (2, .int p2)] := hl
  have hown : s.vm.findClass RX8 = some m.cls := hown
  obtain ⟨hP, hK⟩ := hB
  rw [f_X8_of] at h
  refine lv_aload_n hx hb dX8_of_0 rfl (lv_at hl 0 rfl) ?_
  refine lv_iload_n hx hb dX8_of_1 rfl (lv_at hl 1 rfl) ?_
  obtain ⟨v1, hc, h⟩ := zb1_s h
  refine zE_i (zrV (C := RX8) (As := [.int p1]) (rest := []) hx hb hml hown hts tw885 mv_X8_isBlock ⟨Nat.le_of_ble_eq_true rfl, Nat.le_of_ble_eq_true rfl⟩ rfl rfl (ct_X8_isBlock l D ct a ms ah hi kp sl sv pd ln so po wr to p1 k v1 hc) (z_pv hK hP [0, 1, 2, 3, 4, 5, 6, 7, 8] rfl 0 rfl rfl) hl.1 rfl rfl (Nat.le_of_ble_eq_true rfl) dX8_of_2 ⟨Nat.le_refl _, Nat.le_refl _⟩) ?_
  refine zi_ne (tgt := 10) hx hb dX8_of_5 (by decide) h (fun h => ?_) (fun h => ?_)
  · refine lv_iload_n hx hb dX8_of_10 rfl (lv_at hl 2 rfl) ?_
    refine lv_iconst (v := (4 : Int32)) hx hb dX8_of_11 (by decide) ?_
    refine zc_ne (tgt := 23) hx hb dX8_of_12 (by decide) h (fun h => ?_) (fun h => ?_)
    · refine lv_iload_n hx hb dX8_of_23 rfl (lv_at hl 2 rfl) ?_
      refine lv_iconst (v := (0 : Int32)) hx hb dX8_of_24 (by decide) ?_
      refine lv_iconst (v := (3 : Int32)) hx hb dX8_of_25 (by decide) ?_
      obtain ⟨v2, hc, h⟩ := zb1_s h
      refine zE_i (zrS (As := [.int p2, .int (0 : Int32), .int (3 : Int32)]) (rest := []) hx hb hml hown hts tw836 ms_X8_in ⟨Nat.le_of_ble_eq_true rfl, Nat.le_of_ble_eq_true rfl⟩ rfl rfl (ct_X8_in l p2 (0 : Int32) (3 : Int32) k v2 hc) z_p0 hl.1 rfl rfl (Nat.le_of_ble_eq_true rfl) dX8_of_26 ⟨Nat.le_refl _, Nat.le_refl _⟩) ?_
      refine zi_eq (tgt := 45) hx hb dX8_of_29 (by decide) h (fun h => ?_) (fun h => ?_)
      · refine lv_iload_n hx hb dX8_of_45 rfl (lv_at hl 2 rfl) ?_
        refine lv_iconst (v := (5 : Int32)) hx hb dX8_of_46 (by decide) ?_
        refine lv_bipush (v := (10 : Int32)) hx hb dX8_of_47 (by decide) ?_
        obtain ⟨v3, hc, h⟩ := zb1_s h
        refine zE_i (zrS (As := [.int p2, .int (5 : Int32), .int (10 : Int32)]) (rest := []) hx hb hml hown hts tw836 ms_X8_in ⟨Nat.le_of_ble_eq_true rfl, Nat.le_of_ble_eq_true rfl⟩ rfl rfl (ct_X8_in l p2 (5 : Int32) (10 : Int32) k v3 hc) z_p0 hl.1 rfl rfl (Nat.le_of_ble_eq_true rfl) dX8_of_49 ⟨Nat.le_refl _, Nat.le_refl _⟩) ?_
        refine zi_eq (tgt := 70) hx hb dX8_of_52 (by decide) h (fun h => ?_) (fun h => ?_)
        · refine lv_bipush (v := (-2 : Int32)) hx hb dX8_of_70 (by decide) ?_
          exact zR_i hx hb hr hlocks dX8_of_72 h
        · refine lv_aload_n hx hb dX8_of_55 rfl (lv_at hl 0 rfl) ?_
          refine z_get (C := RX8) (T := TX8) (N := 12) (ci := 7) hx hb hts zin_X8 hown hK.1 hP 0 0 rfl rfl (by decide) tw795 rfl rfl dX8_of_56 ?_
          refine lv_iload_n hx hb dX8_of_59 rfl (lv_at hl 1 rfl) ?_
          refine lv_iload_n hx hb dX8_of_60 rfl (lv_at hl 2 rfl) ?_
          refine lv_iconst (v := (1 : Int32)) hx hb dX8_of_61 (by decide) ?_
          refine o_isub hx hb dX8_of_62 h (fun v4 h => ?_)
          obtain ⟨v5, hc, h⟩ := zb1_s h
          refine zE_i (zrS (As := [.int p1, .int v4]) (rest := [.ref (a 31)]) hx hb hml hown hts tw874 ms_X8_at ⟨Nat.le_of_ble_eq_true rfl, Nat.le_of_ble_eq_true rfl⟩ rfl rfl (ct_X8_at l p1 v4 k v5 hc) z_p0 hl.1 rfl rfl (Nat.le_of_ble_eq_true rfl) dX8_of_63 ⟨Nat.le_refl _, Nat.le_refl _⟩) ?_
          refine y_iald hx hb hK hP 1 0 rfl rfl h dX8_of_66 (fun v6 h => ?_)
          refine lv_goto (tgt := 72) hx hb dX8_of_67 (by decide) ?_
          exact zR_i hx hb hr hlocks dX8_of_72 h
      · refine lv_aload_n hx hb dX8_of_32 rfl (lv_at hl 0 rfl) ?_
        refine z_get (C := RX8) (T := TX8) (N := 12) (ci := 7) hx hb hts zin_X8 hown hK.1 hP 0 0 rfl rfl (by decide) tw795 rfl rfl dX8_of_33 ?_
        refine lv_iload_n hx hb dX8_of_36 rfl (lv_at hl 1 rfl) ?_
        refine lv_iload_n hx hb dX8_of_37 rfl (lv_at hl 2 rfl) ?_
        obtain ⟨v7, hc, h⟩ := zb1_s h
        refine zE_i (zrS (As := [.int p1, .int p2]) (rest := [.ref (a 31)]) hx hb hml hown hts tw874 ms_X8_at ⟨Nat.le_of_ble_eq_true rfl, Nat.le_of_ble_eq_true rfl⟩ rfl rfl (ct_X8_at l p1 p2 k v7 hc) z_p0 hl.1 rfl rfl (Nat.le_of_ble_eq_true rfl) dX8_of_38 ⟨Nat.le_refl _, Nat.le_refl _⟩) ?_
        refine y_iald hx hb hK hP 1 0 rfl rfl h dX8_of_41 (fun v8 h => ?_)
        refine lv_goto (tgt := 72) hx hb dX8_of_42 (by decide) ?_
        exact zR_i hx hb hr hlocks dX8_of_72 h
    · refine lv_aload_n hx hb dX8_of_15 rfl (lv_at hl 0 rfl) ?_
      refine lv_iload_n hx hb dX8_of_16 rfl (lv_at hl 1 rfl) ?_
      obtain ⟨v9, hc, h⟩ := zb1_s h
      refine zE_i (zrV (C := RX8) (As := [.int p1]) (rest := []) hx hb hml hown hts tw877 mv_X8_weight ⟨Nat.le_of_ble_eq_true rfl, Nat.le_of_ble_eq_true rfl⟩ rfl rfl (ct_X8_weight l D ct a ms ah hi kp sl sv pd ln so po wr to p1 k v9 hc) (z_pv hK hP [0, 1, 2, 3, 4, 5, 6, 7, 8] rfl 0 rfl rfl) hl.1 rfl rfl (Nat.le_of_ble_eq_true rfl) dX8_of_17 ⟨Nat.le_refl _, Nat.le_refl _⟩) ?_
      refine lv_goto (tgt := 72) hx hb dX8_of_20 (by decide) ?_
      exact zR_i hx hb hr hlocks dX8_of_72 h
  · refine lv_iconst (v := (-1 : Int32)) hx hb dX8_of_8 (by decide) ?_
    exact zR_i hx hb hr hlocks dX8_of_9 h

def f_X8_couldBeGiven_b31 (k : Nat) (ms : Nat → Int32) (p1 : Int32) (k4 : (Nat → Int32) → Int32 → Int32 → Option (Int32 × (Nat → Int32))) (so_ : Nat → Int32) (x3 : Int32) (y0 : Int32) (y1 : Int32) : Option (Int32 × (Nat → Int32)) :=
  zl (y1 ||| y0) fun v4 =>
  zl (x3 + (1 : Int32)) fun v5 =>
  k4 so_ v4 v5
def f_X8_couldBeGiven_b4 (k : Nat) (ms : Nat → Int32) (p1 : Int32)  : Nat → (Nat → Int32) → Int32 → Int32 → Option (Int32 × (Nat → Int32))
  | 0, _, _, _ => none
  | n + 1, so_, x2, x3 =>
    zl (ms 5) fun v1 =>
    if v1 ≤ x3 then
      some (x2, so_)
    else
      zb2 (f_X8_canGive k ms so_ p1 x3) fun v2 so3 =>
      if v2 = 0 then
        f_X8_couldBeGiven_b31 k ms p1 (f_X8_couldBeGiven_b4 k ms p1 n) so3 x3 (0 : Int32) x2
      else
        zl ((1 : Int32) <<< (x3 &&& 31)) fun v6 =>
        f_X8_couldBeGiven_b31 k ms p1 (f_X8_couldBeGiven_b4 k ms p1 n) so3 x3 v6 x2
def f_X8_couldBeGiven (k : Nat) (ms : Nat → Int32) (so : Nat → Int32) (p1 : Int32) : Option (Int32 × (Nat → Int32)) :=
  f_X8_couldBeGiven_b4 k ms p1 k so (0 : Int32) (0 : Int32)
set_option maxRecDepth 100000 in
set_option maxHeartbeats 4000000 in
theorem ct_X8_couldBeGiven (l : Launch) (D : va_G) (ct a : Nat → Nat) (ms : Nat → Int32) (ah : Nat → Int32) (hi : Nat → Int32) (kp : Int32) (sl : Nat → Int32) (sv : Nat → Int32) (pd : Nat → Int32) (ln : Int32) (so : Nat → Int32) (po : Int32) (wr : Int32) (to : Nat → Int32) (sz : Nat) (p1 : Int32) (k : Nat) (r : Int32) (so' : Nat → Int32) (h : f_X8_couldBeGiven k ms so p1 = some (r, so')) : Met l yX8_couldBeGiven (Cond.code yX8_couldBeGiven cX8_couldBeGiven 4 (some .int) :: zT) ({ frames := 4, cells := 0, slots := 0, locals := 98 } : Room) (va_Pc [.ref (a 30), .int p1] (zPW D (zTys ct) (wX8 ct a ms ah hi kp sl sv pd ln so po wr to) sz)) (va_Qi (fun r' (_ : Unit) => r' = r) (zQW D (wX8 ct a ms ah hi kp sl sv pd ln so po wr to) sz (wX8 ct a ms ah hi kp sl sv pd ln so' po wr to)) (va_A (wX8 ct a ms ah hi kp sl sv pd ln so po wr to) sz)) 0 0 (va_A (wX8 ct a ms ah hi kp sl sv pd ln so po wr to) sz) := by
  refine zMet (cc := cX8_couldBeGiven) (maxL := 4) (ret := (some .int)) (av := [.ref (a 30), .int p1]) (by decide) (Nat.le_of_ble_eq_true rfl) (fun p e s m below meth c ls hx hb hr hml hts hown hlocks hin hB hl => ?_)
  have hl : lv_has ls 4 [(0, .ref (a 30)), (1, .int p1)] := hl
  have hown : s.vm.findClass RX8 = some m.cls := hown
  obtain ⟨hsz, hP, hK, hD0⟩ := hB
  subst hsz
  have hD := hD0.self (sz := s.heap.size)
  obtain ⟨A, hAe⟩ : ∃ A, A = va_A (wX8 ct a ms ah hi kp sl sv pd ln so po wr to) s.heap.size := ⟨_, rfl⟩
  rw [← hAe] at hD
  have hA : ∀ q : Nat, s.heap.size ≤ q → A q := fun q h => by rw [hAe]; exact Or.inr h
  have hS : va_S A s.heap s.heap [] := va_S.rf
  have B31 : ∀ (k4 : (Nat → Int32) → Int32 → Int32 → Option (Int32 × (Nat → Int32))) (hk4 : ∀ (so_ : Nat → Int32) (x2 : Int32) (x3 : Int32), k4 so_ x2 x3 = some (r, so') → ∀ (H : Heap) (locs : List Loc), va_P D vwCl (wX8 ct a ms ah hi kp sl sv pd ln so_ po wr to) H → va_D A (wX8 ct a ms ah hi kp sl sv pd ln so_ po wr to) → va_S A s.heap H locs → ∀ (ls : Array Slot), lv_has ls 4 [(0, .ref (a 30)), (1, .int p1), (2, .int x2), (3, .int x3)] → W p l e ({ frames := 4, cells := 0, slots := 0, locals := 98 } : Room) s m ([.ref (a 30), .int p1] : List Value).toArray below meth c H locs 0 0 (MQ below (va_Qi (fun r' (_ : Unit) => r' = r) (zQW D (wX8 ct a ms ah hi kp sl sv pd ln so po wr to) s.heap.size (wX8 ct a ms ah hi kp sl sv pd ln so' po wr to)) (va_A (wX8 ct a ms ah hi kp sl sv pd ln so po wr to) s.heap.size)) ([.ref (a 30), .int p1] : List Value).toArray s 0 0 (va_A (wX8 ct a ms ah hi kp sl sv pd ln so po wr to) s.heap.size)) (F0 m 4 ls [])), ∀ (so_ : Nat → Int32) (x3 : Int32) (y0 : Int32) (y1 : Int32), f_X8_couldBeGiven_b31 k ms p1 k4 so_ x3 y0 y1 = some (r, so') → ∀ (H : Heap) (locs : List Loc), va_P D vwCl (wX8 ct a ms ah hi kp sl sv pd ln so_ po wr to) H → va_D A (wX8 ct a ms ah hi kp sl sv pd ln so_ po wr to) → va_S A s.heap H locs → ∀ (ls : Array Slot), lv_has ls 4 [(0, .ref (a 30)), (1, .int p1), (3, .int x3)] → W p l e ({ frames := 4, cells := 0, slots := 0, locals := 98 } : Room) s m ([.ref (a 30), .int p1] : List Value).toArray below meth c H locs 0 0 (MQ below (va_Qi (fun r' (_ : Unit) => r' = r) (zQW D (wX8 ct a ms ah hi kp sl sv pd ln so po wr to) s.heap.size (wX8 ct a ms ah hi kp sl sv pd ln so' po wr to)) (va_A (wX8 ct a ms ah hi kp sl sv pd ln so po wr to) s.heap.size)) ([.ref (a 30), .int p1] : List Value).toArray s 0 0 (va_A (wX8 ct a ms ah hi kp sl sv pd ln so po wr to) s.heap.size)) (F0 m 31 ls [.int y0, .int y1]) := by
    intro k4 hk4
    intro so_ x3 y0 y1 h H locs hP hD hS ls hl
    rw [f_X8_couldBeGiven_b31] at h
    refine o_ior hx hb dX8_couldBeGiven_31 h (fun v4 h => ?_)
    refine lv_istore_n (lv' := [(2, .int v4), (0, .ref (a 30)), (1, .int p1), (3, .int x3)]) hx hb dX8_couldBeGiven_32 rfl hl (by decide) rfl (fun ls hl => ?_)
    refine o_nm h (fun v5 ey h => ?_)
    refine lv_iinc (v := v5) (lv' := [(3, .int v5), (2, .int v4), (0, .ref (a 30)), (1, .int p1)]) hx hb dX8_couldBeGiven_33 hl (k := 3) rfl (Eq.trans rfl ey) (by decide) rfl (fun ls hl => ?_)
    refine lv_goto (tgt := 4) hx hb dX8_couldBeGiven_36 (by decide) ?_
    exact hk4 so_ v4 v5 h _ _ hP hD hS ls (lv_sub hl [2, 3, 1, 0] rfl)
  have B4 : ∀ (n : Nat), ∀ (so_ : Nat → Int32) (x2 : Int32) (x3 : Int32), f_X8_couldBeGiven_b4 k ms p1 n so_ x2 x3 = some (r, so') → ∀ (H : Heap) (locs : List Loc), va_P D vwCl (wX8 ct a ms ah hi kp sl sv pd ln so_ po wr to) H → va_D A (wX8 ct a ms ah hi kp sl sv pd ln so_ po wr to) → va_S A s.heap H locs → ∀ (ls : Array Slot), lv_has ls 4 [(0, .ref (a 30)), (1, .int p1), (2, .int x2), (3, .int x3)] → W p l e ({ frames := 4, cells := 0, slots := 0, locals := 98 } : Room) s m ([.ref (a 30), .int p1] : List Value).toArray below meth c H locs 0 0 (MQ below (va_Qi (fun r' (_ : Unit) => r' = r) (zQW D (wX8 ct a ms ah hi kp sl sv pd ln so po wr to) s.heap.size (wX8 ct a ms ah hi kp sl sv pd ln so' po wr to)) (va_A (wX8 ct a ms ah hi kp sl sv pd ln so po wr to) s.heap.size)) ([.ref (a 30), .int p1] : List Value).toArray s 0 0 (va_A (wX8 ct a ms ah hi kp sl sv pd ln so po wr to) s.heap.size)) (F0 m 4 ls []) := by
    intro n
    induction n with
    | zero => intro so_ x2 x3 h; exact absurd h (by rw [f_X8_couldBeGiven_b4]; exact fun q => nomatch q)
    | succ n ih4 =>
      intro so_ x2 x3 h H locs hP hD hS ls hl
      rw [f_X8_couldBeGiven_b4] at h
      refine lv_iload_n hx hb dX8_couldBeGiven_4 rfl (lv_at hl 3 rfl) ?_
      refine lv_aload_n hx hb dX8_couldBeGiven_5 rfl (lv_at hl 0 rfl) ?_
      refine z_get (C := RX8) (T := TX8) (N := 12) (ci := 7) hx hb hts zin_X8 hown hK.1 hP 0 0 rfl rfl (by decide) tw795 rfl rfl dX8_couldBeGiven_6 ?_
      refine lv_iconst (v := (5 : Int32)) hx hb dX8_couldBeGiven_9 (by decide) ?_
      refine y_ialdc hx hb hK hP 1 0 5 rfl rfl (by decide) (by decide) h dX8_couldBeGiven_10 (fun v1 h => ?_)
      refine zc_ge (tgt := 39) hx hb dX8_couldBeGiven_11 (by decide) h (fun h => ?_) (fun h => ?_)
      · refine lv_iload_n hx hb dX8_couldBeGiven_39 rfl (lv_at hl 2 rfl) ?_
        cases h
        exact zX_i hx hb hr hlocks hP hD hS hAe dX8_couldBeGiven_40 rfl
      · refine lv_iload_n hx hb dX8_couldBeGiven_14 rfl (lv_at hl 2 rfl) ?_
        refine lv_aload_n hx hb dX8_couldBeGiven_15 rfl (lv_at hl 0 rfl) ?_
        refine lv_iload_n hx hb dX8_couldBeGiven_16 rfl (lv_at hl 1 rfl) ?_
        refine lv_iload_n hx hb dX8_couldBeGiven_17 rfl (lv_at hl 3 rfl) ?_
        obtain ⟨v2, so3, hc, h⟩ := zb2_s h
        refine zG_i (w1 := wX8 ct a ms ah hi kp sl sv pd ln so3 po wr to) (ws' := wX8 ct a ms ah hi kp sl sv pd ln so3 po wr to) hP hD hS hA [0, 1, 2, 3, 4, 5, 6, 7, 8] [] [0, 1, 2, 3, 4, 5, 6, 7, 8] rfl rfl (by decide) (by decide) rfl (by decide) (zrV (C := RX8) (As := [.int p1, .int x3]) (rest := [.int x2]) hx hb hml hown hts tw928 mv_X8_canGive ⟨Nat.le_of_ble_eq_true rfl, Nat.le_of_ble_eq_true rfl⟩ rfl rfl (ct_X8_canGive l D ct a ms ah hi kp sl sv pd ln so_ po wr to _ p1 x3 k v2 so3 hc) (z_wv hK hP hD [0, 1, 2, 3, 4, 5, 6, 7, 8] (by decide) rfl 0 rfl rfl) hl.1 rfl rfl (Nat.le_of_ble_eq_true rfl) dX8_couldBeGiven_18 ⟨Nat.le_refl _, Nat.le_refl _⟩) (fun H locs hP hD hS => ?_)
        refine zi_eq (tgt := 30) hx hb dX8_couldBeGiven_21 (by decide) h (fun h => ?_) (fun h => ?_)
        · refine lv_iconst (v := (0 : Int32)) hx hb dX8_couldBeGiven_30 (by decide) ?_
          exact B31 (f_X8_couldBeGiven_b4 k ms p1 n) ih4 so3 x3 (0 : Int32) x2 h _ _ hP hD hS ls (lv_sub hl [0, 1, 3] rfl)
        · refine lv_iconst (v := (1 : Int32)) hx hb dX8_couldBeGiven_24 (by decide) ?_
          refine lv_iload_n hx hb dX8_couldBeGiven_25 rfl (lv_at hl 3 rfl) ?_
          refine o_ishl hx hb dX8_couldBeGiven_26 h (fun v6 h => ?_)
          refine lv_goto (tgt := 31) hx hb dX8_couldBeGiven_27 (by decide) ?_
          exact B31 (f_X8_couldBeGiven_b4 k ms p1 n) ih4 so3 x3 v6 x2 h _ _ hP hD hS ls (lv_sub hl [0, 1, 3] rfl)
  rw [f_X8_couldBeGiven] at h
  refine lv_iconst (v := (0 : Int32)) hx hb dX8_couldBeGiven_0 (by decide) ?_
  refine lv_istore_n (lv' := [(2, .int (0 : Int32)), (0, .ref (a 30)), (1, .int p1)]) hx hb dX8_couldBeGiven_1 rfl hl (by decide) rfl (fun ls hl => ?_)
  refine lv_iconst (v := (0 : Int32)) hx hb dX8_couldBeGiven_2 (by decide) ?_
  refine lv_istore_n (lv' := [(3, .int (0 : Int32)), (2, .int (0 : Int32)), (0, .ref (a 30)), (1, .int p1)]) hx hb dX8_couldBeGiven_3 rfl hl (by decide) rfl (fun ls hl => ?_)
  exact B4 k so (0 : Int32) (0 : Int32) h _ _ hP hD hS ls (lv_sub hl [2, 3, 1, 0] rfl)

def f_X8_ofOrder (k : Nat) (ms : Nat → Int32) (so : Nat → Int32) (p1 : Int32) (p2 : Int32) : Option (Int32 × (Nat → Int32)) :=
  zb1 (f_X8_isOrder k ms p1) fun v1 =>
  if v1 = 0 then
    some ((-1 : Int32), so)
  else
    zb1 (f_X8_in k p2 (0 : Int32) (5 : Int32)) fun v2 =>
    if v2 = 0 then
      if p2 = (6 : Int32) then
        zb2 (f_X8_couldBeGiven k ms so p1) fun v3 so4 =>
        some (v3, so4)
      else
        some ((-2 : Int32), so)
    else
      zb1 (f_X8_ofOrderAt k p1 p2) fun v5 =>
      zg (zin v5 324) (zl (ms v5.toNatClampNeg) fun v6 =>
      some (v6, so))
set_option maxRecDepth 100000 in
set_option maxHeartbeats 4000000 in
theorem ct_X8_ofOrder (l : Launch) (D : va_G) (ct a : Nat → Nat) (ms : Nat → Int32) (ah : Nat → Int32) (hi : Nat → Int32) (kp : Int32) (sl : Nat → Int32) (sv : Nat → Int32) (pd : Nat → Int32) (ln : Int32) (so : Nat → Int32) (po : Int32) (wr : Int32) (to : Nat → Int32) (sz : Nat) (p1 : Int32) (p2 : Int32) (k : Nat) (r : Int32) (so' : Nat → Int32) (h : f_X8_ofOrder k ms so p1 p2 = some (r, so')) : Met l yX8_ofOrder (Cond.code yX8_ofOrder cX8_ofOrder 3 (some .int) :: zT) ({ frames := 5, cells := 0, slots := 0, locals := 121 } : Room) (va_Pc [.ref (a 30), .int p1, .int p2] (zPW D (zTys ct) (wX8 ct a ms ah hi kp sl sv pd ln so po wr to) sz)) (va_Qi (fun r' (_ : Unit) => r' = r) (zQW D (wX8 ct a ms ah hi kp sl sv pd ln so po wr to) sz (wX8 ct a ms ah hi kp sl sv pd ln so' po wr to)) (va_A (wX8 ct a ms ah hi kp sl sv pd ln so po wr to) sz)) 0 0 (va_A (wX8 ct a ms ah hi kp sl sv pd ln so po wr to) sz) := by
  refine zMet (cc := cX8_ofOrder) (maxL := 3) (ret := (some .int)) (av := [.ref (a 30), .int p1, .int p2]) (by decide) (Nat.le_of_ble_eq_true rfl) (fun p e s m below meth c ls hx hb hr hml hts hown hlocks hin hB hl => ?_)
  have hl : lv_has ls 3 [(0, .ref (a 30)), (1, .int p1), (2, .int p2)] := hl
  have hown : s.vm.findClass RX8 = some m.cls := hown
  obtain ⟨hsz, hP, hK, hD0⟩ := hB
  subst hsz
  have hD := hD0.self (sz := s.heap.size)
  obtain ⟨A, hAe⟩ : ∃ A, A = va_A (wX8 ct a ms ah hi kp sl sv pd ln so po wr to) s.heap.size := ⟨_, rfl⟩
  rw [← hAe] at hD
  have hA : ∀ q : Nat, s.heap.size ≤ q → A q := fun q h => by rw [hAe]; exact Or.inr h
  have hS : va_S A s.heap s.heap [] := va_S.rf
  rw [f_X8_ofOrder] at h
  refine lv_aload_n hx hb dX8_ofOrder_0 rfl (lv_at hl 0 rfl) ?_
  refine lv_iload_n hx hb dX8_ofOrder_1 rfl (lv_at hl 1 rfl) ?_
  obtain ⟨v1, hc, h⟩ := zb1_s h
  refine zE_i (zrV (C := RX8) (As := [.int p1]) (rest := []) hx hb hml hown hts tw924 mv_X8_isOrder ⟨Nat.le_of_ble_eq_true rfl, Nat.le_of_ble_eq_true rfl⟩ rfl rfl (ct_X8_isOrder l D ct a ms ah hi kp sl sv pd ln so po wr to p1 k v1 hc) (z_pv hK hP [0, 1, 2, 3, 4, 5, 6, 7, 8] rfl 0 rfl rfl) hl.1 rfl rfl (Nat.le_of_ble_eq_true rfl) dX8_ofOrder_2 ⟨Nat.le_refl _, Nat.le_refl _⟩) ?_
  refine zi_ne (tgt := 10) hx hb dX8_ofOrder_5 (by decide) h (fun h => ?_) (fun h => ?_)
  · refine lv_iload_n hx hb dX8_ofOrder_10 rfl (lv_at hl 2 rfl) ?_
    refine lv_iconst (v := (0 : Int32)) hx hb dX8_ofOrder_11 (by decide) ?_
    refine lv_iconst (v := (5 : Int32)) hx hb dX8_ofOrder_12 (by decide) ?_
    obtain ⟨v2, hc, h⟩ := zb1_s h
    refine zE_i (zrS (As := [.int p2, .int (0 : Int32), .int (5 : Int32)]) (rest := []) hx hb hml hown hts tw836 ms_X8_in ⟨Nat.le_of_ble_eq_true rfl, Nat.le_of_ble_eq_true rfl⟩ rfl rfl (ct_X8_in l p2 (0 : Int32) (5 : Int32) k v2 hc) z_p0 hl.1 rfl rfl (Nat.le_of_ble_eq_true rfl) dX8_ofOrder_13 ⟨Nat.le_refl _, Nat.le_refl _⟩) ?_
    refine zi_eq (tgt := 32) hx hb dX8_ofOrder_16 (by decide) h (fun h => ?_) (fun h => ?_)
    · refine lv_iload_n hx hb dX8_ofOrder_32 rfl (lv_at hl 2 rfl) ?_
      refine lv_bipush (v := (6 : Int32)) hx hb dX8_ofOrder_33 (by decide) ?_
      refine zc_ne (tgt := 46) hx hb dX8_ofOrder_35 (by decide) h (fun h => ?_) (fun h => ?_)
      · refine lv_bipush (v := (-2 : Int32)) hx hb dX8_ofOrder_46 (by decide) ?_
        cases h
        exact zX_i hx hb hr hlocks hP hD hS hAe dX8_ofOrder_48 rfl
      · refine lv_aload_n hx hb dX8_ofOrder_38 rfl (lv_at hl 0 rfl) ?_
        refine lv_iload_n hx hb dX8_ofOrder_39 rfl (lv_at hl 1 rfl) ?_
        obtain ⟨v3, so4, hc, h⟩ := zb2_s h
        refine zG_i (w1 := wX8 ct a ms ah hi kp sl sv pd ln so4 po wr to) (ws' := wX8 ct a ms ah hi kp sl sv pd ln so4 po wr to) hP hD hS hA [0, 1, 2, 3, 4, 5, 6, 7, 8] [] [0, 1, 2, 3, 4, 5, 6, 7, 8] rfl rfl (by decide) (by decide) rfl (by decide) (zrV (C := RX8) (As := [.int p1]) (rest := []) hx hb hml hown hts tw1040 mv_X8_couldBeGiven ⟨Nat.le_of_ble_eq_true rfl, Nat.le_of_ble_eq_true rfl⟩ rfl rfl (ct_X8_couldBeGiven l D ct a ms ah hi kp sl sv pd ln so po wr to _ p1 k v3 so4 hc) (z_wv hK hP hD [0, 1, 2, 3, 4, 5, 6, 7, 8] (by decide) rfl 0 rfl rfl) hl.1 rfl rfl (Nat.le_of_ble_eq_true rfl) dX8_ofOrder_40 ⟨Nat.le_refl _, Nat.le_refl _⟩) (fun H locs hP hD hS => ?_)
        refine lv_goto (tgt := 48) hx hb dX8_ofOrder_43 (by decide) ?_
        cases h
        exact zX_i hx hb hr hlocks hP hD hS hAe dX8_ofOrder_48 rfl
    · refine lv_aload_n hx hb dX8_ofOrder_19 rfl (lv_at hl 0 rfl) ?_
      refine z_get (C := RX8) (T := TX8) (N := 12) (ci := 7) hx hb hts zin_X8 hown hK.1 hP 0 0 rfl rfl (by decide) tw795 rfl rfl dX8_ofOrder_20 ?_
      refine lv_iload_n hx hb dX8_ofOrder_23 rfl (lv_at hl 1 rfl) ?_
      refine lv_iload_n hx hb dX8_ofOrder_24 rfl (lv_at hl 2 rfl) ?_
      obtain ⟨v5, hc, h⟩ := zb1_s h
      refine zE_i (zrS (As := [.int p1, .int p2]) (rest := [.ref (a 31)]) hx hb hml hown hts tw917 ms_X8_ofOrderAt ⟨Nat.le_of_ble_eq_true rfl, Nat.le_of_ble_eq_true rfl⟩ rfl rfl (ct_X8_ofOrderAt l p1 p2 k v5 hc) z_p0 hl.1 rfl rfl (Nat.le_of_ble_eq_true rfl) dX8_ofOrder_25 ⟨Nat.le_refl _, Nat.le_refl _⟩) ?_
      refine y_iald hx hb hK hP 1 0 rfl rfl h dX8_ofOrder_28 (fun v6 h => ?_)
      refine lv_goto (tgt := 48) hx hb dX8_ofOrder_29 (by decide) ?_
      cases h
      exact zX_i hx hb hr hlocks hP hD hS hAe dX8_ofOrder_48 rfl
  · refine lv_iconst (v := (-1 : Int32)) hx hb dX8_ofOrder_8 (by decide) ?_
    cases h
    exact zX_i hx hb hr hlocks hP hD hS hAe dX8_ofOrder_9 rfl

def f_X8_floatBits_b29 (k : Nat) (p1 : UInt32)  : Nat → Int32 → UInt32 → Option (Int32)
  | 0, _, _ => none
  | n + 1, x1, x2 =>
    zl (Op.cmpValue (FP.fcmp x2 FP.fconst2) CmpOp.l) fun v3 =>
    if v3 < 0 then
      zl (x1 * (8388608 : Int32)) fun v4 =>
      zg (z32 (FP.fsub x2 FP.fconst1)) (zl (FP.fsub x2 FP.fconst1) fun v5 =>
      zg (z32 (FP.fmul v5 (1258291200 : UInt32))) (zl (FP.fmul v5 (1258291200 : UInt32)) fun v6 =>
      zl (FP.f2i v6) fun v7 =>
      zl (v4 + v7) fun v8 =>
      some v8))
    else
      zg (z32 (FP.fmul x2 (1056964608 : UInt32))) (zl (FP.fmul x2 (1056964608 : UInt32)) fun v9 =>
      zl (x1 + (1 : Int32)) fun v10 =>
      f_X8_floatBits_b29 k p1 n v10 v9)
def f_X8_floatBits_b13 (k : Nat) (p1 : UInt32)  : Nat → Int32 → UInt32 → Option (Int32)
  | 0, _, _ => none
  | n + 1, x1, x2 =>
    zl (Op.cmpValue (FP.fcmp x2 FP.fconst1) CmpOp.g) fun v2 =>
    if 0 ≤ v2 then
      f_X8_floatBits_b29 k p1 k x1 x2
    else
      zg (z32 (FP.fmul x2 FP.fconst2)) (zl (FP.fmul x2 FP.fconst2) fun v11 =>
      zl (x1 + (-1 : Int32)) fun v12 =>
      f_X8_floatBits_b13 k p1 n v12 v11)
def f_X8_floatBits (k : Nat) (p1 : UInt32) : Option (Int32) :=
  zl (Op.cmpValue (FP.fcmp p1 FP.fconst0) CmpOp.l) fun v1 =>
  if v1 = 0 then
    some (0 : Int32)
  else
    f_X8_floatBits_b13 k p1 k (127 : Int32) p1
set_option maxRecDepth 100000 in
set_option maxHeartbeats 4000000 in
theorem ct_X8_floatBits (l : Launch) (p1 : UInt32) (k : Nat) (r : Int32) (h : f_X8_floatBits k p1 = some r) : Met l yX8_floatBits (Cond.code yX8_floatBits cX8_floatBits 3 (some .int) :: zT) ({ frames := 0, cells := 0, slots := 0, locals := 0 } : Room) (va_Pc [.float p1] (fun _ => True)) (vp_Si (fun r' => r' = r)) 0 0 (fun _ => False) := by
  refine zMet (cc := cX8_floatBits) (maxL := 3) (ret := (some .int)) (av := [.float p1]) (by decide) (Nat.le_of_ble_eq_true rfl) (fun p e s m below meth c ls hx hb hr hml hts hown hlocks hin hB hl => ?_)
  have hl : lv_has ls 3 [(0, .float p1)] := hl
  have hown : s.vm.findClass RX8 = some m.cls := hown
  have B29 : ∀ (n : Nat), ∀ (x1 : Int32) (x2 : UInt32), f_X8_floatBits_b29 k p1 n x1 x2 = some r → ∀ (ls : Array Slot), lv_has ls 3 [(1, .int x1), (2, .float x2)] → W p l e ({ frames := 0, cells := 0, slots := 0, locals := 0 } : Room) s m ([.float p1] : List Value).toArray below meth c s.heap [] 0 0 (MQ below (vp_Si (fun r' => r' = r)) ([.float p1] : List Value).toArray s 0 0 (fun _ => False)) (F0 m 29 ls []) := by
    intro n
    induction n with
    | zero => intro x1 x2 h; exact absurd h (by rw [f_X8_floatBits_b29]; exact fun q => nomatch q)
    | succ n ih29 =>
      intro x1 x2 h ls hl
      rw [f_X8_floatBits_b29] at h
      refine lv_fload_n hx hb dX8_floatBits_29 rfl (lv_at hl 1 rfl) ?_
      refine lv_fconst2 hx hb dX8_floatBits_30 ?_
      refine o_fcmp hx hb dX8_floatBits_31 h (fun v3 h => ?_)
      refine zi_lt (tgt := 46) hx hb dX8_floatBits_32 (by decide) h (fun h => ?_) (fun h => ?_)
      · refine lv_iload_n hx hb dX8_floatBits_46 rfl (lv_at hl 0 rfl) ?_
        refine lv_ldc (v := (8388608 : Int32)) hx hb hown (hts _ (List.mem_cons_of_mem _ tw1052)) dX8_floatBits_47 ?_
        refine o_imul hx hb dX8_floatBits_49 h (fun v4 h => ?_)
        refine lv_fload_n hx hb dX8_floatBits_50 rfl (lv_at hl 1 rfl) ?_
        refine lv_fconst1 hx hb dX8_floatBits_51 ?_
        refine o_fsub hx hb dX8_floatBits_52 h (fun v5 h => ?_)
        refine lv_ldcf (v := (1258291200 : UInt32)) hx hb hown (hts _ (List.mem_cons_of_mem _ tw1053)) dX8_floatBits_53 ?_
        refine o_fmul hx hb dX8_floatBits_55 h (fun v6 h => ?_)
        refine o_f2i hx hb dX8_floatBits_56 h (fun v7 h => ?_)
        refine o_iadd hx hb dX8_floatBits_57 h (fun v8 h => ?_)
        exact zR_i hx hb hr hlocks dX8_floatBits_58 h
      · refine lv_fload_n hx hb dX8_floatBits_35 rfl (lv_at hl 1 rfl) ?_
        refine lv_ldcf (v := (1056964608 : UInt32)) hx hb hown (hts _ (List.mem_cons_of_mem _ tw1051)) dX8_floatBits_36 ?_
        refine o_fmul hx hb dX8_floatBits_38 h (fun v9 h => ?_)
        refine lv_fstore_n (lv' := [(2, .float v9), (1, .int x1)]) hx hb dX8_floatBits_39 rfl hl (by decide) rfl (fun ls hl => ?_)
        refine o_nm h (fun v10 ey h => ?_)
        refine lv_iinc (v := v10) (lv' := [(1, .int v10), (2, .float v9)]) hx hb dX8_floatBits_40 hl (k := 1) rfl (Eq.trans rfl ey) (by decide) rfl (fun ls hl => ?_)
        refine lv_goto (tgt := 29) hx hb dX8_floatBits_43 (by decide) ?_
        exact ih29 v10 v9 h ls (lv_sub hl [0, 1] rfl)
  have B13 : ∀ (n : Nat), ∀ (x1 : Int32) (x2 : UInt32), f_X8_floatBits_b13 k p1 n x1 x2 = some r → ∀ (ls : Array Slot), lv_has ls 3 [(1, .int x1), (2, .float x2)] → W p l e ({ frames := 0, cells := 0, slots := 0, locals := 0 } : Room) s m ([.float p1] : List Value).toArray below meth c s.heap [] 0 0 (MQ below (vp_Si (fun r' => r' = r)) ([.float p1] : List Value).toArray s 0 0 (fun _ => False)) (F0 m 13 ls []) := by
    intro n
    induction n with
    | zero => intro x1 x2 h; exact absurd h (by rw [f_X8_floatBits_b13]; exact fun q => nomatch q)
    | succ n ih13 =>
      intro x1 x2 h ls hl
      rw [f_X8_floatBits_b13] at h
      refine lv_fload_n hx hb dX8_floatBits_13 rfl (lv_at hl 1 rfl) ?_
      refine lv_fconst1 hx hb dX8_floatBits_14 ?_
      refine o_fcmp hx hb dX8_floatBits_15 h (fun v2 h => ?_)
      refine zi_ge (tgt := 29) hx hb dX8_floatBits_16 (by decide) h (fun h => ?_) (fun h => ?_)
      · exact B29 k x1 x2 h ls (lv_sub hl [0, 1] rfl)
      · refine lv_fload_n hx hb dX8_floatBits_19 rfl (lv_at hl 1 rfl) ?_
        refine lv_fconst2 hx hb dX8_floatBits_20 ?_
        refine o_fmul hx hb dX8_floatBits_21 h (fun v11 h => ?_)
        refine lv_fstore_n (lv' := [(2, .float v11), (1, .int x1)]) hx hb dX8_floatBits_22 rfl hl (by decide) rfl (fun ls hl => ?_)
        refine o_nm h (fun v12 ey h => ?_)
        refine lv_iinc (v := v12) (lv' := [(1, .int v12), (2, .float v11)]) hx hb dX8_floatBits_23 hl (k := 1) rfl (Eq.trans rfl ey) (by decide) rfl (fun ls hl => ?_)
        refine lv_goto (tgt := 13) hx hb dX8_floatBits_26 (by decide) ?_
        exact ih13 v12 v11 h ls (lv_sub hl [0, 1] rfl)
  rw [f_X8_floatBits] at h
  refine lv_fload_n hx hb dX8_floatBits_0 rfl (lv_at hl 0 rfl) ?_
  refine lv_fconst0 hx hb dX8_floatBits_1 ?_
  refine o_fcmp hx hb dX8_floatBits_2 h (fun v1 h => ?_)
  refine zi_ne (tgt := 8) hx hb dX8_floatBits_3 (by decide) h (fun h => ?_) (fun h => ?_)
  · refine lv_bipush (v := (127 : Int32)) hx hb dX8_floatBits_8 (by decide) ?_
    refine lv_istore_n (lv' := [(1, .int (127 : Int32)), (0, .float p1)]) hx hb dX8_floatBits_10 rfl hl (by decide) rfl (fun ls hl => ?_)
    refine lv_fload_n hx hb dX8_floatBits_11 rfl (lv_at hl 1 rfl) ?_
    refine lv_fstore_n (lv' := [(2, .float p1), (1, .int (127 : Int32)), (0, .float p1)]) hx hb dX8_floatBits_12 rfl hl (by decide) rfl (fun ls hl => ?_)
    exact B13 k (127 : Int32) p1 h ls (lv_sub hl [1, 0] rfl)
  · refine lv_iconst (v := (0 : Int32)) hx hb dX8_floatBits_6 (by decide) ?_
    exact zR_i hx hb hr hlocks dX8_floatBits_7 h

def f_X8_ofLorry_b74 (k : Nat) (ms : Nat → Int32) (p1 : Int32) (p2 : Int32)  (y0 : Int32) (y1 : Int32) : Option (Int32) :=
  zb1 (f_X8_axleNow k ms y1 y0) fun v3 =>
  zb1 (f_X8_floatBits k v3) fun v4 =>
  some v4
def f_X8_ofLorry_b62 (k : Nat) (ms : Nat → Int32) (p1 : Int32) (p2 : Int32)   : Option (Int32) :=
  if p2 = (2 : Int32) then
    f_X8_ofLorry_b74 k ms p1 p2 (1 : Int32) p1
  else
    f_X8_ofLorry_b74 k ms p1 p2 (0 : Int32) p1
def f_X8_ofLorry_b87 (k : Nat) (ms : Nat → Int32) (p1 : Int32) (p2 : Int32)   : Option (Int32) :=
  zl (p2 - (4 : Int32)) fun v6 =>
  zb1 (f_X8_ofLorryAt k p1 v6) fun v7 =>
  zg (zin v7 324) (zl (ms v7.toNatClampNeg) fun v8 =>
  some v8)
def f_X8_ofLorry (k : Nat) (ms : Nat → Int32) (p1 : Int32) (p2 : Int32) : Option (Int32) :=
  zb1 (f_X8_isLorry k p1) fun v1 =>
  if v1 = 0 then
    some (-1 : Int32)
  else
    if p2 = (0 : Int32) then
      zb1 (f_X8_loadOf k ms p1) fun v2 =>
      some v2
    else
    if p2 = (1 : Int32) then
      f_X8_ofLorry_b62 k ms p1 p2
    else
    if p2 = (2 : Int32) then
      f_X8_ofLorry_b62 k ms p1 p2
    else
    if p2 = (3 : Int32) then
      zb1 (f_X8_blocksOn k ms p1) fun v5 =>
      some v5
    else
    if p2 = (4 : Int32) then
      f_X8_ofLorry_b87 k ms p1 p2
    else
    if p2 = (5 : Int32) then
      f_X8_ofLorry_b87 k ms p1 p2
    else
    if p2 = (6 : Int32) then
      f_X8_ofLorry_b87 k ms p1 p2
    else
    if p2 = (7 : Int32) then
      f_X8_ofLorry_b87 k ms p1 p2
    else
      some (-2 : Int32)
set_option maxRecDepth 100000 in
set_option maxHeartbeats 4000000 in
theorem ct_X8_ofLorry (l : Launch) (D : va_G) (ct a : Nat → Nat) (ms : Nat → Int32) (ah : Nat → Int32) (hi : Nat → Int32) (kp : Int32) (sl : Nat → Int32) (sv : Nat → Int32) (pd : Nat → Int32) (ln : Int32) (so : Nat → Int32) (po : Int32) (wr : Int32) (to : Nat → Int32) (p1 : Int32) (p2 : Int32) (k : Nat) (r : Int32) (h : f_X8_ofLorry k ms p1 p2 = some r) : Met l yX8_ofLorry (Cond.code yX8_ofLorry cX8_ofLorry 3 (some .int) :: zT) ({ frames := 4, cells := 0, slots := 0, locals := 94 } : Room) (va_Pc [.ref (a 30), .int p1, .int p2] (zPR D (zTys ct) (wX8 ct a ms ah hi kp sl sv pd ln so po wr to))) (vp_Si (fun r' => r' = r)) 0 0 (fun _ => False) := by
  refine zMet (cc := cX8_ofLorry) (maxL := 3) (ret := (some .int)) (av := [.ref (a 30), .int p1, .int p2]) (by decide) (Nat.le_of_ble_eq_true rfl) (fun p e s m below meth c ls hx hb hr hml hts hown hlocks hin hB hl => ?_)
  have hl : lv_has ls 3 [(0, .ref (a 30)), (1, .int p1), (2, .int p2)] := hl
  have hown : s.vm.findClass RX8 = some m.cls := hown
  obtain ⟨hP, hK⟩ := hB
  have B74 : ∀ (y0 : Int32) (y1 : Int32), f_X8_ofLorry_b74 k ms p1 p2 y0 y1 = some r → ∀ (ls : Array Slot), lv_has ls 3 [] → W p l e ({ frames := 4, cells := 0, slots := 0, locals := 94 } : Room) s m ([.ref (a 30), .int p1, .int p2] : List Value).toArray below meth c s.heap [] 0 0 (MQ below (vp_Si (fun r' => r' = r)) ([.ref (a 30), .int p1, .int p2] : List Value).toArray s 0 0 (fun _ => False)) (F0 m 74 ls [.int y0, .int y1, .ref (a 30)]) := by
    intro y0 y1 h ls hl
    rw [f_X8_ofLorry_b74] at h
    obtain ⟨v3, hc, h⟩ := zb1_s h
    refine zE_f (zrV (C := RX8) (As := [.int y1, .int y0]) (rest := []) hx hb hml hown hts tw979 mv_X8_axleNow ⟨Nat.le_of_ble_eq_true rfl, Nat.le_of_ble_eq_true rfl⟩ rfl rfl (ct_X8_axleNow l D ct a ms ah hi kp sl sv pd ln so po wr to y1 y0 k v3 hc) (z_pv hK hP [0, 1, 2, 3, 4, 5, 6, 7, 8] rfl 0 rfl rfl) hl.1 rfl rfl (Nat.le_of_ble_eq_true rfl) dX8_ofLorry_74 ⟨Nat.le_refl _, Nat.le_refl _⟩) ?_
    obtain ⟨v4, hc, h⟩ := zb1_s h
    refine zE_i (zrS (As := [.float v3]) (rest := []) hx hb hml hown hts tw1048 ms_X8_floatBits ⟨Nat.le_of_ble_eq_true rfl, Nat.le_of_ble_eq_true rfl⟩ rfl rfl (ct_X8_floatBits l v3 k v4 hc) z_p0 hl.1 rfl rfl (Nat.le_of_ble_eq_true rfl) dX8_ofLorry_77 ⟨Nat.le_refl _, Nat.le_refl _⟩) ?_
    exact zR_i hx hb hr hlocks dX8_ofLorry_80 h
  have B62 : ∀ (_ : Unit), f_X8_ofLorry_b62 k ms p1 p2 = some r → ∀ (ls : Array Slot), lv_has ls 3 [(0, .ref (a 30)), (1, .int p1), (2, .int p2)] → W p l e ({ frames := 4, cells := 0, slots := 0, locals := 94 } : Room) s m ([.ref (a 30), .int p1, .int p2] : List Value).toArray below meth c s.heap [] 0 0 (MQ below (vp_Si (fun r' => r' = r)) ([.ref (a 30), .int p1, .int p2] : List Value).toArray s 0 0 (fun _ => False)) (F0 m 62 ls []) := by
    intro _ h ls hl
    rw [f_X8_ofLorry_b62] at h
    refine lv_aload_n hx hb dX8_ofLorry_62 rfl (lv_at hl 0 rfl) ?_
    refine lv_iload_n hx hb dX8_ofLorry_63 rfl (lv_at hl 1 rfl) ?_
    refine lv_iload_n hx hb dX8_ofLorry_64 rfl (lv_at hl 2 rfl) ?_
    refine lv_iconst (v := (2 : Int32)) hx hb dX8_ofLorry_65 (by decide) ?_
    refine zc_ne (tgt := 73) hx hb dX8_ofLorry_66 (by decide) h (fun h => ?_) (fun h => ?_)
    · refine lv_iconst (v := (0 : Int32)) hx hb dX8_ofLorry_73 (by decide) ?_
      exact B74 (0 : Int32) p1 h ls (lv_sub hl [] rfl)
    · refine lv_iconst (v := (1 : Int32)) hx hb dX8_ofLorry_69 (by decide) ?_
      refine lv_goto (tgt := 74) hx hb dX8_ofLorry_70 (by decide) ?_
      exact B74 (1 : Int32) p1 h ls (lv_sub hl [] rfl)
  have B87 : ∀ (_ : Unit), f_X8_ofLorry_b87 k ms p1 p2 = some r → ∀ (ls : Array Slot), lv_has ls 3 [(0, .ref (a 30)), (1, .int p1), (2, .int p2)] → W p l e ({ frames := 4, cells := 0, slots := 0, locals := 94 } : Room) s m ([.ref (a 30), .int p1, .int p2] : List Value).toArray below meth c s.heap [] 0 0 (MQ below (vp_Si (fun r' => r' = r)) ([.ref (a 30), .int p1, .int p2] : List Value).toArray s 0 0 (fun _ => False)) (F0 m 87 ls []) := by
    intro _ h ls hl
    rw [f_X8_ofLorry_b87] at h
    refine lv_aload_n hx hb dX8_ofLorry_87 rfl (lv_at hl 0 rfl) ?_
    refine z_get (C := RX8) (T := TX8) (N := 12) (ci := 7) hx hb hts zin_X8 hown hK.1 hP 0 0 rfl rfl (by decide) tw795 rfl rfl dX8_ofLorry_88 ?_
    refine lv_iload_n hx hb dX8_ofLorry_91 rfl (lv_at hl 1 rfl) ?_
    refine lv_iload_n hx hb dX8_ofLorry_92 rfl (lv_at hl 2 rfl) ?_
    refine lv_iconst (v := (4 : Int32)) hx hb dX8_ofLorry_93 (by decide) ?_
    refine o_isub hx hb dX8_ofLorry_94 h (fun v6 h => ?_)
    obtain ⟨v7, hc, h⟩ := zb1_s h
    refine zE_i (zrS (As := [.int p1, .int v6]) (rest := [.ref (a 31)]) hx hb hml hown hts tw792 ms_X8_ofLorryAt ⟨Nat.le_of_ble_eq_true rfl, Nat.le_of_ble_eq_true rfl⟩ rfl rfl (ct_X8_ofLorryAt l p1 v6 k v7 hc) z_p0 hl.1 rfl rfl (Nat.le_of_ble_eq_true rfl) dX8_ofLorry_95 ⟨Nat.le_refl _, Nat.le_refl _⟩) ?_
    refine y_iald hx hb hK hP 1 0 rfl rfl h dX8_ofLorry_98 (fun v8 h => ?_)
    exact zR_i hx hb hr hlocks dX8_ofLorry_99 h
  rw [f_X8_ofLorry] at h
  refine lv_iload_n hx hb dX8_ofLorry_0 rfl (lv_at hl 1 rfl) ?_
  obtain ⟨v1, hc, h⟩ := zb1_s h
  refine zE_i (zrS (As := [.int p1]) (rest := []) hx hb hml hown hts tw944 ms_X8_isLorry ⟨Nat.le_of_ble_eq_true rfl, Nat.le_of_ble_eq_true rfl⟩ rfl rfl (ct_X8_isLorry l p1 k v1 hc) z_p0 hl.1 rfl rfl (Nat.le_of_ble_eq_true rfl) dX8_ofLorry_1 ⟨Nat.le_refl _, Nat.le_refl _⟩) ?_
  refine zi_ne (tgt := 9) hx hb dX8_ofLorry_4 (by decide) h (fun h => ?_) (fun h => ?_)
  · refine lv_iload_n hx hb dX8_ofLorry_9 rfl (lv_at hl 2 rfl) ?_
    refine o_sw h (fun q0 h => ?_) (fun q0 h => ?_)
    · refine lv_tableIn (off := (46 : Int)) (tgt := 56) hx hb dX8_ofLorry_10 (by rw [q0]; decide) (by rw [q0]; decide) (by rw [q0]; decide) (by decide) ?_
      refine lv_aload_n hx hb dX8_ofLorry_56 rfl (lv_at hl 0 rfl) ?_
      refine lv_iload_n hx hb dX8_ofLorry_57 rfl (lv_at hl 1 rfl) ?_
      obtain ⟨v2, hc, h⟩ := zb1_s h
      refine zE_i (zrV (C := RX8) (As := [.int p1]) (rest := []) hx hb hml hown hts tw951 mv_X8_loadOf ⟨Nat.le_of_ble_eq_true rfl, Nat.le_of_ble_eq_true rfl⟩ rfl rfl (ct_X8_loadOf l D ct a ms ah hi kp sl sv pd ln so po wr to p1 k v2 hc) (z_pv hK hP [0, 1, 2, 3, 4, 5, 6, 7, 8] rfl 0 rfl rfl) hl.1 rfl rfl (Nat.le_of_ble_eq_true rfl) dX8_ofLorry_58 ⟨Nat.le_refl _, Nat.le_refl _⟩) ?_
      exact zR_i hx hb hr hlocks dX8_ofLorry_61 h
    refine o_sw h (fun q1 h => ?_) (fun q1 h => ?_)
    · refine lv_tableIn (off := (52 : Int)) (tgt := 62) hx hb dX8_ofLorry_10 (by rw [q1]; decide) (by rw [q1]; decide) (by rw [q1]; decide) (by decide) ?_
      exact B62 () h ls (lv_sub hl [0, 1, 2] rfl)
    refine o_sw h (fun q2 h => ?_) (fun q2 h => ?_)
    · refine lv_tableIn (off := (52 : Int)) (tgt := 62) hx hb dX8_ofLorry_10 (by rw [q2]; decide) (by rw [q2]; decide) (by rw [q2]; decide) (by decide) ?_
      exact B62 () h ls (lv_sub hl [0, 1, 2] rfl)
    refine o_sw h (fun q3 h => ?_) (fun q3 h => ?_)
    · refine lv_tableIn (off := (71 : Int)) (tgt := 81) hx hb dX8_ofLorry_10 (by rw [q3]; decide) (by rw [q3]; decide) (by rw [q3]; decide) (by decide) ?_
      refine lv_aload_n hx hb dX8_ofLorry_81 rfl (lv_at hl 0 rfl) ?_
      refine lv_iload_n hx hb dX8_ofLorry_82 rfl (lv_at hl 1 rfl) ?_
      obtain ⟨v5, hc, h⟩ := zb1_s h
      refine zE_i (zrV (C := RX8) (As := [.int p1]) (rest := []) hx hb hml hown hts tw971 mv_X8_blocksOn ⟨Nat.le_of_ble_eq_true rfl, Nat.le_of_ble_eq_true rfl⟩ rfl rfl (ct_X8_blocksOn l D ct a ms ah hi kp sl sv pd ln so po wr to p1 k v5 hc) (z_pv hK hP [0, 1, 2, 3, 4, 5, 6, 7, 8] rfl 0 rfl rfl) hl.1 rfl rfl (Nat.le_of_ble_eq_true rfl) dX8_ofLorry_83 ⟨Nat.le_refl _, Nat.le_refl _⟩) ?_
      exact zR_i hx hb hr hlocks dX8_ofLorry_86 h
    refine o_sw h (fun q4 h => ?_) (fun q4 h => ?_)
    · refine lv_tableIn (off := (77 : Int)) (tgt := 87) hx hb dX8_ofLorry_10 (by rw [q4]; decide) (by rw [q4]; decide) (by rw [q4]; decide) (by decide) ?_
      exact B87 () h ls (lv_sub hl [0, 1, 2] rfl)
    refine o_sw h (fun q5 h => ?_) (fun q5 h => ?_)
    · refine lv_tableIn (off := (77 : Int)) (tgt := 87) hx hb dX8_ofLorry_10 (by rw [q5]; decide) (by rw [q5]; decide) (by rw [q5]; decide) (by decide) ?_
      exact B87 () h ls (lv_sub hl [0, 1, 2] rfl)
    refine o_sw h (fun q6 h => ?_) (fun q6 h => ?_)
    · refine lv_tableIn (off := (77 : Int)) (tgt := 87) hx hb dX8_ofLorry_10 (by rw [q6]; decide) (by rw [q6]; decide) (by rw [q6]; decide) (by decide) ?_
      exact B87 () h ls (lv_sub hl [0, 1, 2] rfl)
    refine o_sw h (fun q7 h => ?_) (fun q7 h => ?_)
    · refine lv_tableIn (off := (77 : Int)) (tgt := 87) hx hb dX8_ofLorry_10 (by rw [q7]; decide) (by rw [q7]; decide) (by rw [q7]; decide) (by decide) ?_
      exact B87 () h ls (lv_sub hl [0, 1, 2] rfl)
    · refine lv_tableOut (tgt := 100) hx hb dX8_ofLorry_10 (by have w0 := lv_neT (a := 0) q0 rfl; have w1 := lv_neT (a := 1) q1 rfl; have w2 := lv_neT (a := 2) q2 rfl; have w3 := lv_neT (a := 3) q3 rfl; have w4 := lv_neT (a := 4) q4 rfl; have w5 := lv_neT (a := 5) q5 rfl; have w6 := lv_neT (a := 6) q6 rfl; have w7 := lv_neT (a := 7) q7 rfl; omega) (by decide) ?_
      refine lv_bipush (v := (-2 : Int32)) hx hb dX8_ofLorry_100 (by decide) ?_
      exact zR_i hx hb hr hlocks dX8_ofLorry_102 h
  · refine lv_iconst (v := (-1 : Int32)) hx hb dX8_ofLorry_7 (by decide) ?_
    exact zR_i hx hb hr hlocks dX8_ofLorry_8 h

def f_X8_setOf_b71 (k : Nat) (ms : Nat → Int32) (p1 : Int32) (k4 : Int32 → Int32 → Option (Int32)) (x3 : Int32) (y0 : Int32) (y1 : Int32) : Option (Int32) :=
  zl (y1 ||| y0) fun v3 =>
  zl (x3 + (1 : Int32)) fun v4 =>
  k4 v3 v4
def f_X8_setOf_b56 (k : Nat) (ms : Nat → Int32) (p1 : Int32) (k4 : Int32 → Int32 → Option (Int32)) (x2 : Int32) (x3 : Int32) (y0 : Int32) : Option (Int32) :=
  if y0 = 0 then
    f_X8_setOf_b71 k ms p1 (k4) x3 (0 : Int32) x2
  else
    zl ((1 : Int32) <<< (x3 &&& 31)) fun v5 =>
    f_X8_setOf_b71 k ms p1 (k4) x3 v5 x2
def f_X8_setOf_b4 (k : Nat) (ms : Nat → Int32) (p1 : Int32)  : Nat → Int32 → Int32 → Option (Int32)
  | 0, _, _ => none
  | n + 1, x2, x3 =>
    zl (ms 5) fun v1 =>
    if v1 ≤ x3 then
      some x2
    else
      if p1 = 0 then
        zb1 (f_X8_isAt k ms x3 (1 : Int32)) fun v2 =>
        f_X8_setOf_b56 k ms p1 (f_X8_setOf_b4 k ms p1 n) x2 x3 v2
      else
        zb1 (f_X8_at k x3 (6 : Int32)) fun v6 =>
        zg (zin v6 324) (zl (ms v6.toNatClampNeg) fun v7 =>
        if v7 = (1 : Int32) then
          zb1 (f_X8_isAt k ms x3 (4 : Int32)) fun v8 =>
          if v8 = 0 then
            f_X8_setOf_b56 k ms p1 (f_X8_setOf_b4 k ms p1 n) x2 x3 (1 : Int32)
          else
            f_X8_setOf_b56 k ms p1 (f_X8_setOf_b4 k ms p1 n) x2 x3 (0 : Int32)
        else
          f_X8_setOf_b56 k ms p1 (f_X8_setOf_b4 k ms p1 n) x2 x3 (0 : Int32))
def f_X8_setOf (k : Nat) (ms : Nat → Int32) (p1 : Int32) : Option (Int32) :=
  f_X8_setOf_b4 k ms p1 k (0 : Int32) (0 : Int32)
set_option maxRecDepth 100000 in
set_option maxHeartbeats 4000000 in
theorem ct_X8_setOf (l : Launch) (D : va_G) (ct a : Nat → Nat) (ms : Nat → Int32) (ah : Nat → Int32) (hi : Nat → Int32) (kp : Int32) (sl : Nat → Int32) (sv : Nat → Int32) (pd : Nat → Int32) (ln : Int32) (so : Nat → Int32) (po : Int32) (wr : Int32) (to : Nat → Int32) (p1 : Int32) (k : Nat) (r : Int32) (h : f_X8_setOf k ms p1 = some r) : Met l yX8_setOf (Cond.code yX8_setOf cX8_setOf 5 (some .int) :: zT) ({ frames := 2, cells := 0, slots := 0, locals := 43 } : Room) (va_Pc [.ref (a 30), .int p1] (zPR D (zTys ct) (wX8 ct a ms ah hi kp sl sv pd ln so po wr to))) (vp_Si (fun r' => r' = r)) 0 0 (fun _ => False) := by
  refine zMet (cc := cX8_setOf) (maxL := 5) (ret := (some .int)) (av := [.ref (a 30), .int p1]) (by decide) (Nat.le_of_ble_eq_true rfl) (fun p e s m below meth c ls hx hb hr hml hts hown hlocks hin hB hl => ?_)
  have hl : lv_has ls 5 [(0, .ref (a 30)), (1, .int p1)] := hl
  have hown : s.vm.findClass RX8 = some m.cls := hown
  obtain ⟨hP, hK⟩ := hB
  have B71 : ∀ (k4 : Int32 → Int32 → Option (Int32)) (hk4 : ∀ (x2 : Int32) (x3 : Int32), k4 x2 x3 = some r → ∀ (ls : Array Slot), lv_has ls 5 [(0, .ref (a 30)), (1, .int p1), (2, .int x2), (3, .int x3)] → W p l e ({ frames := 2, cells := 0, slots := 0, locals := 43 } : Room) s m ([.ref (a 30), .int p1] : List Value).toArray below meth c s.heap [] 0 0 (MQ below (vp_Si (fun r' => r' = r)) ([.ref (a 30), .int p1] : List Value).toArray s 0 0 (fun _ => False)) (F0 m 4 ls [])), ∀ (x3 : Int32) (y0 : Int32) (y1 : Int32), f_X8_setOf_b71 k ms p1 k4 x3 y0 y1 = some r → ∀ (ls : Array Slot), lv_has ls 5 [(0, .ref (a 30)), (1, .int p1), (3, .int x3)] → W p l e ({ frames := 2, cells := 0, slots := 0, locals := 43 } : Room) s m ([.ref (a 30), .int p1] : List Value).toArray below meth c s.heap [] 0 0 (MQ below (vp_Si (fun r' => r' = r)) ([.ref (a 30), .int p1] : List Value).toArray s 0 0 (fun _ => False)) (F0 m 71 ls [.int y0, .int y1]) := by
    intro k4 hk4
    intro x3 y0 y1 h ls hl
    rw [f_X8_setOf_b71] at h
    refine o_ior hx hb dX8_setOf_71 h (fun v3 h => ?_)
    refine lv_istore_n (lv' := [(2, .int v3), (0, .ref (a 30)), (1, .int p1), (3, .int x3)]) hx hb dX8_setOf_72 rfl hl (by decide) rfl (fun ls hl => ?_)
    refine o_nm h (fun v4 ey h => ?_)
    refine lv_iinc (v := v4) (lv' := [(3, .int v4), (2, .int v3), (0, .ref (a 30)), (1, .int p1)]) hx hb dX8_setOf_73 hl (k := 3) rfl (Eq.trans rfl ey) (by decide) rfl (fun ls hl => ?_)
    refine lv_goto (tgt := 4) hx hb dX8_setOf_76 (by decide) ?_
    exact hk4 v3 v4 h ls (lv_sub hl [2, 3, 1, 0] rfl)
  have B56 : ∀ (k4 : Int32 → Int32 → Option (Int32)) (hk4 : ∀ (x2 : Int32) (x3 : Int32), k4 x2 x3 = some r → ∀ (ls : Array Slot), lv_has ls 5 [(0, .ref (a 30)), (1, .int p1), (2, .int x2), (3, .int x3)] → W p l e ({ frames := 2, cells := 0, slots := 0, locals := 43 } : Room) s m ([.ref (a 30), .int p1] : List Value).toArray below meth c s.heap [] 0 0 (MQ below (vp_Si (fun r' => r' = r)) ([.ref (a 30), .int p1] : List Value).toArray s 0 0 (fun _ => False)) (F0 m 4 ls [])), ∀ (x2 : Int32) (x3 : Int32) (y0 : Int32), f_X8_setOf_b56 k ms p1 k4 x2 x3 y0 = some r → ∀ (ls : Array Slot), lv_has ls 5 [(0, .ref (a 30)), (1, .int p1), (2, .int x2), (3, .int x3)] → W p l e ({ frames := 2, cells := 0, slots := 0, locals := 43 } : Room) s m ([.ref (a 30), .int p1] : List Value).toArray below meth c s.heap [] 0 0 (MQ below (vp_Si (fun r' => r' = r)) ([.ref (a 30), .int p1] : List Value).toArray s 0 0 (fun _ => False)) (F0 m 56 ls [.int y0]) := by
    intro k4 hk4
    intro x2 x3 y0 h ls hl
    rw [f_X8_setOf_b56] at h
    refine lv_istore (lv' := [(4, .int y0), (0, .ref (a 30)), (1, .int p1), (2, .int x2), (3, .int x3)]) hx hb dX8_setOf_56 hl (by decide) rfl (fun ls hl => ?_)
    refine lv_iload_n hx hb dX8_setOf_58 rfl (lv_at hl 3 rfl) ?_
    refine lv_iload hx hb dX8_setOf_59 (lv_at hl 0 rfl) ?_
    refine zi_eq (tgt := 70) hx hb dX8_setOf_61 (by decide) h (fun h => ?_) (fun h => ?_)
    · refine lv_iconst (v := (0 : Int32)) hx hb dX8_setOf_70 (by decide) ?_
      exact B71 (k4) hk4 x3 (0 : Int32) x2 h ls (lv_sub hl [1, 2, 4] rfl)
    · refine lv_iconst (v := (1 : Int32)) hx hb dX8_setOf_64 (by decide) ?_
      refine lv_iload_n hx hb dX8_setOf_65 rfl (lv_at hl 4 rfl) ?_
      refine o_ishl hx hb dX8_setOf_66 h (fun v5 h => ?_)
      refine lv_goto (tgt := 71) hx hb dX8_setOf_67 (by decide) ?_
      exact B71 (k4) hk4 x3 v5 x2 h ls (lv_sub hl [1, 2, 4] rfl)
  have B4 : ∀ (n : Nat), ∀ (x2 : Int32) (x3 : Int32), f_X8_setOf_b4 k ms p1 n x2 x3 = some r → ∀ (ls : Array Slot), lv_has ls 5 [(0, .ref (a 30)), (1, .int p1), (2, .int x2), (3, .int x3)] → W p l e ({ frames := 2, cells := 0, slots := 0, locals := 43 } : Room) s m ([.ref (a 30), .int p1] : List Value).toArray below meth c s.heap [] 0 0 (MQ below (vp_Si (fun r' => r' = r)) ([.ref (a 30), .int p1] : List Value).toArray s 0 0 (fun _ => False)) (F0 m 4 ls []) := by
    intro n
    induction n with
    | zero => intro x2 x3 h; exact absurd h (by rw [f_X8_setOf_b4]; exact fun q => nomatch q)
    | succ n ih4 =>
      intro x2 x3 h ls hl
      rw [f_X8_setOf_b4] at h
      refine lv_iload_n hx hb dX8_setOf_4 rfl (lv_at hl 3 rfl) ?_
      refine lv_aload_n hx hb dX8_setOf_5 rfl (lv_at hl 0 rfl) ?_
      refine z_get (C := RX8) (T := TX8) (N := 12) (ci := 7) hx hb hts zin_X8 hown hK.1 hP 0 0 rfl rfl (by decide) tw795 rfl rfl dX8_setOf_6 ?_
      refine lv_iconst (v := (5 : Int32)) hx hb dX8_setOf_9 (by decide) ?_
      refine y_ialdc hx hb hK hP 1 0 5 rfl rfl (by decide) (by decide) h dX8_setOf_10 (fun v1 h => ?_)
      refine zc_ge (tgt := 79) hx hb dX8_setOf_11 (by decide) h (fun h => ?_) (fun h => ?_)
      · refine lv_iload_n hx hb dX8_setOf_79 rfl (lv_at hl 2 rfl) ?_
        exact zR_i hx hb hr hlocks dX8_setOf_80 h
      · refine lv_iload_n hx hb dX8_setOf_14 rfl (lv_at hl 1 rfl) ?_
        refine zi_eq (tgt := 50) hx hb dX8_setOf_15 (by decide) h (fun h => ?_) (fun h => ?_)
        · refine lv_aload_n hx hb dX8_setOf_50 rfl (lv_at hl 0 rfl) ?_
          refine lv_iload_n hx hb dX8_setOf_51 rfl (lv_at hl 3 rfl) ?_
          refine lv_iconst (v := (1 : Int32)) hx hb dX8_setOf_52 (by decide) ?_
          obtain ⟨v2, hc, h⟩ := zb1_s h
          refine zE_i (zrV (C := RX8) (As := [.int x3, .int (1 : Int32)]) (rest := []) hx hb hml hown hts tw897 mv_X8_isAt ⟨Nat.le_of_ble_eq_true rfl, Nat.le_of_ble_eq_true rfl⟩ rfl rfl (ct_X8_isAt l D ct a ms ah hi kp sl sv pd ln so po wr to x3 (1 : Int32) k v2 hc) (z_pv hK hP [0, 1, 2, 3, 4, 5, 6, 7, 8] rfl 0 rfl rfl) hl.1 rfl rfl (Nat.le_of_ble_eq_true rfl) dX8_setOf_53 ⟨Nat.le_refl _, Nat.le_refl _⟩) ?_
          exact B56 (f_X8_setOf_b4 k ms p1 n) ih4 x2 x3 v2 h ls (lv_sub hl [0, 1, 2, 3] rfl)
        · refine lv_aload_n hx hb dX8_setOf_18 rfl (lv_at hl 0 rfl) ?_
          refine z_get (C := RX8) (T := TX8) (N := 12) (ci := 7) hx hb hts zin_X8 hown hK.1 hP 0 0 rfl rfl (by decide) tw795 rfl rfl dX8_setOf_19 ?_
          refine lv_iload_n hx hb dX8_setOf_22 rfl (lv_at hl 3 rfl) ?_
          refine lv_bipush (v := (6 : Int32)) hx hb dX8_setOf_23 (by decide) ?_
          obtain ⟨v6, hc, h⟩ := zb1_s h
          refine zE_i (zrS (As := [.int x3, .int (6 : Int32)]) (rest := [.ref (a 31)]) hx hb hml hown hts tw874 ms_X8_at ⟨Nat.le_of_ble_eq_true rfl, Nat.le_of_ble_eq_true rfl⟩ rfl rfl (ct_X8_at l x3 (6 : Int32) k v6 hc) z_p0 hl.1 rfl rfl (Nat.le_of_ble_eq_true rfl) dX8_setOf_25 ⟨Nat.le_refl _, Nat.le_refl _⟩) ?_
          refine y_iald hx hb hK hP 1 0 rfl rfl h dX8_setOf_28 (fun v7 h => ?_)
          refine lv_iconst (v := (1 : Int32)) hx hb dX8_setOf_29 (by decide) ?_
          refine zc_ne (tgt := 46) hx hb dX8_setOf_30 (by decide) h (fun h => ?_) (fun h => ?_)
          · refine lv_iconst (v := (0 : Int32)) hx hb dX8_setOf_46 (by decide) ?_
            refine lv_goto (tgt := 56) hx hb dX8_setOf_47 (by decide) ?_
            exact B56 (f_X8_setOf_b4 k ms p1 n) ih4 x2 x3 (0 : Int32) h ls (lv_sub hl [0, 1, 2, 3] rfl)
          · refine lv_aload_n hx hb dX8_setOf_33 rfl (lv_at hl 0 rfl) ?_
            refine lv_iload_n hx hb dX8_setOf_34 rfl (lv_at hl 3 rfl) ?_
            refine lv_iconst (v := (4 : Int32)) hx hb dX8_setOf_35 (by decide) ?_
            obtain ⟨v8, hc, h⟩ := zb1_s h
            refine zE_i (zrV (C := RX8) (As := [.int x3, .int (4 : Int32)]) (rest := []) hx hb hml hown hts tw897 mv_X8_isAt ⟨Nat.le_of_ble_eq_true rfl, Nat.le_of_ble_eq_true rfl⟩ rfl rfl (ct_X8_isAt l D ct a ms ah hi kp sl sv pd ln so po wr to x3 (4 : Int32) k v8 hc) (z_pv hK hP [0, 1, 2, 3, 4, 5, 6, 7, 8] rfl 0 rfl rfl) hl.1 rfl rfl (Nat.le_of_ble_eq_true rfl) dX8_setOf_36 ⟨Nat.le_refl _, Nat.le_refl _⟩) ?_
            refine zi_ne (tgt := 46) hx hb dX8_setOf_39 (by decide) h (fun h => ?_) (fun h => ?_)
            · refine lv_iconst (v := (0 : Int32)) hx hb dX8_setOf_46 (by decide) ?_
              refine lv_goto (tgt := 56) hx hb dX8_setOf_47 (by decide) ?_
              exact B56 (f_X8_setOf_b4 k ms p1 n) ih4 x2 x3 (0 : Int32) h ls (lv_sub hl [0, 1, 2, 3] rfl)
            · refine lv_iconst (v := (1 : Int32)) hx hb dX8_setOf_42 (by decide) ?_
              refine lv_goto (tgt := 56) hx hb dX8_setOf_43 (by decide) ?_
              exact B56 (f_X8_setOf_b4 k ms p1 n) ih4 x2 x3 (1 : Int32) h ls (lv_sub hl [0, 1, 2, 3] rfl)
  rw [f_X8_setOf] at h
  refine lv_iconst (v := (0 : Int32)) hx hb dX8_setOf_0 (by decide) ?_
  refine lv_istore_n (lv' := [(2, .int (0 : Int32)), (0, .ref (a 30)), (1, .int p1)]) hx hb dX8_setOf_1 rfl hl (by decide) rfl (fun ls hl => ?_)
  refine lv_iconst (v := (0 : Int32)) hx hb dX8_setOf_2 (by decide) ?_
  refine lv_istore_n (lv' := [(3, .int (0 : Int32)), (2, .int (0 : Int32)), (0, .ref (a 30)), (1, .int p1)]) hx hb dX8_setOf_3 rfl hl (by decide) rfl (fun ls hl => ?_)
  exact B4 k (0 : Int32) (0 : Int32) h ls (lv_sub hl [2, 3, 1, 0] rfl)

def f_X8_notCut_b41 (k : Nat) (ms : Nat → Int32) (p1 : Int32) (k4 : Int32 → Int32 → Option (Int32)) (x3 : Int32) (y0 : Int32) (y1 : Int32) : Option (Int32) :=
  zl (y1 + y0) fun v3 =>
  zl (x3 + (1 : Int32)) fun v4 =>
  k4 v3 v4
def f_X8_notCut_b4 (k : Nat) (ms : Nat → Int32) (p1 : Int32)  : Nat → Int32 → Int32 → Option (Int32)
  | 0, _, _ => none
  | n + 1, x2, x3 =>
    zl (ms 5) fun v1 =>
    if v1 ≤ x3 then
      some x2
    else
      zb1 (f_X8_isAt k ms x3 (4 : Int32)) fun v2 =>
      if v2 = 0 then
        if p1 = 0 then
          f_X8_notCut_b41 k ms p1 (f_X8_notCut_b4 k ms p1 n) x3 (1 : Int32) x2
        else
          zb1 (f_X8_weight k ms x3) fun v5 =>
          f_X8_notCut_b41 k ms p1 (f_X8_notCut_b4 k ms p1 n) x3 v5 x2
      else
        f_X8_notCut_b41 k ms p1 (f_X8_notCut_b4 k ms p1 n) x3 (0 : Int32) x2
def f_X8_notCut (k : Nat) (ms : Nat → Int32) (p1 : Int32) : Option (Int32) :=
  f_X8_notCut_b4 k ms p1 k (0 : Int32) (0 : Int32)
set_option maxRecDepth 100000 in
set_option maxHeartbeats 4000000 in
theorem ct_X8_notCut (l : Launch) (D : va_G) (ct a : Nat → Nat) (ms : Nat → Int32) (ah : Nat → Int32) (hi : Nat → Int32) (kp : Int32) (sl : Nat → Int32) (sv : Nat → Int32) (pd : Nat → Int32) (ln : Int32) (so : Nat → Int32) (po : Int32) (wr : Int32) (to : Nat → Int32) (p1 : Int32) (k : Nat) (r : Int32) (h : f_X8_notCut k ms p1 = some r) : Met l yX8_notCut (Cond.code yX8_notCut cX8_notCut 4 (some .int) :: zT) ({ frames := 2, cells := 0, slots := 0, locals := 43 } : Room) (va_Pc [.ref (a 30), .int p1] (zPR D (zTys ct) (wX8 ct a ms ah hi kp sl sv pd ln so po wr to))) (vp_Si (fun r' => r' = r)) 0 0 (fun _ => False) := by
  refine zMet (cc := cX8_notCut) (maxL := 4) (ret := (some .int)) (av := [.ref (a 30), .int p1]) (by decide) (Nat.le_of_ble_eq_true rfl) (fun p e s m below meth c ls hx hb hr hml hts hown hlocks hin hB hl => ?_)
  have hl : lv_has ls 4 [(0, .ref (a 30)), (1, .int p1)] := hl
  have hown : s.vm.findClass RX8 = some m.cls := hown
  obtain ⟨hP, hK⟩ := hB
  have B41 : ∀ (k4 : Int32 → Int32 → Option (Int32)) (hk4 : ∀ (x2 : Int32) (x3 : Int32), k4 x2 x3 = some r → ∀ (ls : Array Slot), lv_has ls 4 [(0, .ref (a 30)), (1, .int p1), (2, .int x2), (3, .int x3)] → W p l e ({ frames := 2, cells := 0, slots := 0, locals := 43 } : Room) s m ([.ref (a 30), .int p1] : List Value).toArray below meth c s.heap [] 0 0 (MQ below (vp_Si (fun r' => r' = r)) ([.ref (a 30), .int p1] : List Value).toArray s 0 0 (fun _ => False)) (F0 m 4 ls [])), ∀ (x3 : Int32) (y0 : Int32) (y1 : Int32), f_X8_notCut_b41 k ms p1 k4 x3 y0 y1 = some r → ∀ (ls : Array Slot), lv_has ls 4 [(0, .ref (a 30)), (1, .int p1), (3, .int x3)] → W p l e ({ frames := 2, cells := 0, slots := 0, locals := 43 } : Room) s m ([.ref (a 30), .int p1] : List Value).toArray below meth c s.heap [] 0 0 (MQ below (vp_Si (fun r' => r' = r)) ([.ref (a 30), .int p1] : List Value).toArray s 0 0 (fun _ => False)) (F0 m 41 ls [.int y0, .int y1]) := by
    intro k4 hk4
    intro x3 y0 y1 h ls hl
    rw [f_X8_notCut_b41] at h
    refine o_iadd hx hb dX8_notCut_41 h (fun v3 h => ?_)
    refine lv_istore_n (lv' := [(2, .int v3), (0, .ref (a 30)), (1, .int p1), (3, .int x3)]) hx hb dX8_notCut_42 rfl hl (by decide) rfl (fun ls hl => ?_)
    refine o_nm h (fun v4 ey h => ?_)
    refine lv_iinc (v := v4) (lv' := [(3, .int v4), (2, .int v3), (0, .ref (a 30)), (1, .int p1)]) hx hb dX8_notCut_43 hl (k := 3) rfl (Eq.trans rfl ey) (by decide) rfl (fun ls hl => ?_)
    refine lv_goto (tgt := 4) hx hb dX8_notCut_46 (by decide) ?_
    exact hk4 v3 v4 h ls (lv_sub hl [2, 3, 1, 0] rfl)
  have B4 : ∀ (n : Nat), ∀ (x2 : Int32) (x3 : Int32), f_X8_notCut_b4 k ms p1 n x2 x3 = some r → ∀ (ls : Array Slot), lv_has ls 4 [(0, .ref (a 30)), (1, .int p1), (2, .int x2), (3, .int x3)] → W p l e ({ frames := 2, cells := 0, slots := 0, locals := 43 } : Room) s m ([.ref (a 30), .int p1] : List Value).toArray below meth c s.heap [] 0 0 (MQ below (vp_Si (fun r' => r' = r)) ([.ref (a 30), .int p1] : List Value).toArray s 0 0 (fun _ => False)) (F0 m 4 ls []) := by
    intro n
    induction n with
    | zero => intro x2 x3 h; exact absurd h (by rw [f_X8_notCut_b4]; exact fun q => nomatch q)
    | succ n ih4 =>
      intro x2 x3 h ls hl
      rw [f_X8_notCut_b4] at h
      refine lv_iload_n hx hb dX8_notCut_4 rfl (lv_at hl 3 rfl) ?_
      refine lv_aload_n hx hb dX8_notCut_5 rfl (lv_at hl 0 rfl) ?_
      refine z_get (C := RX8) (T := TX8) (N := 12) (ci := 7) hx hb hts zin_X8 hown hK.1 hP 0 0 rfl rfl (by decide) tw795 rfl rfl dX8_notCut_6 ?_
      refine lv_iconst (v := (5 : Int32)) hx hb dX8_notCut_9 (by decide) ?_
      refine y_ialdc hx hb hK hP 1 0 5 rfl rfl (by decide) (by decide) h dX8_notCut_10 (fun v1 h => ?_)
      refine zc_ge (tgt := 49) hx hb dX8_notCut_11 (by decide) h (fun h => ?_) (fun h => ?_)
      · refine lv_iload_n hx hb dX8_notCut_49 rfl (lv_at hl 2 rfl) ?_
        exact zR_i hx hb hr hlocks dX8_notCut_50 h
      · refine lv_iload_n hx hb dX8_notCut_14 rfl (lv_at hl 2 rfl) ?_
        refine lv_aload_n hx hb dX8_notCut_15 rfl (lv_at hl 0 rfl) ?_
        refine lv_iload_n hx hb dX8_notCut_16 rfl (lv_at hl 3 rfl) ?_
        refine lv_iconst (v := (4 : Int32)) hx hb dX8_notCut_17 (by decide) ?_
        obtain ⟨v2, hc, h⟩ := zb1_s h
        refine zE_i (zrV (C := RX8) (As := [.int x3, .int (4 : Int32)]) (rest := [.int x2]) hx hb hml hown hts tw897 mv_X8_isAt ⟨Nat.le_of_ble_eq_true rfl, Nat.le_of_ble_eq_true rfl⟩ rfl rfl (ct_X8_isAt l D ct a ms ah hi kp sl sv pd ln so po wr to x3 (4 : Int32) k v2 hc) (z_pv hK hP [0, 1, 2, 3, 4, 5, 6, 7, 8] rfl 0 rfl rfl) hl.1 rfl rfl (Nat.le_of_ble_eq_true rfl) dX8_notCut_18 ⟨Nat.le_refl _, Nat.le_refl _⟩) ?_
        refine zi_eq (tgt := 28) hx hb dX8_notCut_21 (by decide) h (fun h => ?_) (fun h => ?_)
        · refine lv_iload_n hx hb dX8_notCut_28 rfl (lv_at hl 1 rfl) ?_
          refine zi_eq (tgt := 40) hx hb dX8_notCut_29 (by decide) h (fun h => ?_) (fun h => ?_)
          · refine lv_iconst (v := (1 : Int32)) hx hb dX8_notCut_40 (by decide) ?_
            exact B41 (f_X8_notCut_b4 k ms p1 n) ih4 x3 (1 : Int32) x2 h ls (lv_sub hl [0, 1, 3] rfl)
          · refine lv_aload_n hx hb dX8_notCut_32 rfl (lv_at hl 0 rfl) ?_
            refine lv_iload_n hx hb dX8_notCut_33 rfl (lv_at hl 3 rfl) ?_
            obtain ⟨v5, hc, h⟩ := zb1_s h
            refine zE_i (zrV (C := RX8) (As := [.int x3]) (rest := [.int x2]) hx hb hml hown hts tw877 mv_X8_weight ⟨Nat.le_of_ble_eq_true rfl, Nat.le_of_ble_eq_true rfl⟩ rfl rfl (ct_X8_weight l D ct a ms ah hi kp sl sv pd ln so po wr to x3 k v5 hc) (z_pv hK hP [0, 1, 2, 3, 4, 5, 6, 7, 8] rfl 0 rfl rfl) hl.1 rfl rfl (Nat.le_of_ble_eq_true rfl) dX8_notCut_34 ⟨Nat.le_refl _, Nat.le_refl _⟩) ?_
            refine lv_goto (tgt := 41) hx hb dX8_notCut_37 (by decide) ?_
            exact B41 (f_X8_notCut_b4 k ms p1 n) ih4 x3 v5 x2 h ls (lv_sub hl [0, 1, 3] rfl)
        · refine lv_iconst (v := (0 : Int32)) hx hb dX8_notCut_24 (by decide) ?_
          refine lv_goto (tgt := 41) hx hb dX8_notCut_25 (by decide) ?_
          exact B41 (f_X8_notCut_b4 k ms p1 n) ih4 x3 (0 : Int32) x2 h ls (lv_sub hl [0, 1, 3] rfl)
  rw [f_X8_notCut] at h
  refine lv_iconst (v := (0 : Int32)) hx hb dX8_notCut_0 (by decide) ?_
  refine lv_istore_n (lv' := [(2, .int (0 : Int32)), (0, .ref (a 30)), (1, .int p1)]) hx hb dX8_notCut_1 rfl hl (by decide) rfl (fun ls hl => ?_)
  refine lv_iconst (v := (0 : Int32)) hx hb dX8_notCut_2 (by decide) ?_
  refine lv_istore_n (lv' := [(3, .int (0 : Int32)), (2, .int (0 : Int32)), (0, .ref (a 30)), (1, .int p1)]) hx hb dX8_notCut_3 rfl hl (by decide) rfl (fun ls hl => ?_)
  exact B4 k (0 : Int32) (0 : Int32) h ls (lv_sub hl [2, 3, 1, 0] rfl)

def f_X8_count_b84 (k : Nat) (ms : Nat → Int32) (kp : Int32) (ln : Int32) (p1 : Int32)   : Option (Int32) :=
  zl ((4 : Int32) + p1) fun v1 =>
  zg (zin v1 324) (zl (ms v1.toNatClampNeg) fun v2 =>
  some v2)
def f_X8_count_b104 (k : Nat) (ms : Nat → Int32) (kp : Int32) (ln : Int32) (p1 : Int32)  (y0 : Int32) : Option (Int32) :=
  zb1 (f_X8_setOf k ms y0) fun v3 =>
  some v3
def f_X8_count_b93 (k : Nat) (ms : Nat → Int32) (kp : Int32) (ln : Int32) (p1 : Int32)   : Option (Int32) :=
  if p1 = (5 : Int32) then
    f_X8_count_b104 k ms kp ln p1 (1 : Int32)
  else
    f_X8_count_b104 k ms kp ln p1 (0 : Int32)
def f_X8_count_b122 (k : Nat) (ms : Nat → Int32) (kp : Int32) (ln : Int32) (p1 : Int32)   : Option (Int32) :=
  zl ((9 : Int32) + p1) fun v6 =>
  zl (v6 - (8 : Int32)) fun v7 =>
  zg (zin v7 324) (zl (ms v7.toNatClampNeg) fun v8 =>
  some v8)
def f_X8_count (k : Nat) (ms : Nat → Int32) (kp : Int32) (ln : Int32) (p1 : Int32) : Option (Int32) :=
  if p1 = (0 : Int32) then
    f_X8_count_b84 k ms kp ln p1
  else
  if p1 = (1 : Int32) then
    f_X8_count_b84 k ms kp ln p1
  else
  if p1 = (2 : Int32) then
    f_X8_count_b84 k ms kp ln p1
  else
  if p1 = (3 : Int32) then
    f_X8_count_b84 k ms kp ln p1
  else
  if p1 = (4 : Int32) then
    f_X8_count_b93 k ms kp ln p1
  else
  if p1 = (5 : Int32) then
    f_X8_count_b93 k ms kp ln p1
  else
  if p1 = (6 : Int32) then
    zl (ms 8) fun v4 =>
    some v4
  else
  if p1 = (7 : Int32) then
    zb1 (f_X8_notCut k ms (1 : Int32)) fun v5 =>
    some v5
  else
  if p1 = (8 : Int32) then
    f_X8_count_b122 k ms kp ln p1
  else
  if p1 = (9 : Int32) then
    f_X8_count_b122 k ms kp ln p1
  else
  if p1 = (10 : Int32) then
    f_X8_count_b122 k ms kp ln p1
  else
  if p1 = (11 : Int32) then
    zl (ms 1) fun v9 =>
    some v9
  else
  if p1 = (12 : Int32) then
    zl (ms 0) fun v10 =>
    some v10
  else
  if p1 = (13 : Int32) then
    zl (ms 2) fun v11 =>
    zl (v11 + (100 : Int32)) fun v12 =>
    some v12
  else
  if p1 = (14 : Int32) then
    zl (ms 3) fun v13 =>
    some v13
  else
  if p1 = (15 : Int32) then
    some ln
  else
  if p1 = (16 : Int32) then
    some kp
  else
    some (-2 : Int32)
set_option maxRecDepth 100000 in
set_option maxHeartbeats 4000000 in
theorem ct_X8_count (l : Launch) (D : va_G) (ct a : Nat → Nat) (ms : Nat → Int32) (ah : Nat → Int32) (hi : Nat → Int32) (kp : Int32) (sl : Nat → Int32) (sv : Nat → Int32) (pd : Nat → Int32) (ln : Int32) (so : Nat → Int32) (po : Int32) (wr : Int32) (to : Nat → Int32) (p1 : Int32) (k : Nat) (r : Int32) (h : f_X8_count k ms kp ln p1 = some r) : Met l yX8_count (Cond.code yX8_count cX8_count 2 (some .int) :: zT) ({ frames := 3, cells := 0, slots := 0, locals := 67 } : Room) (va_Pc [.ref (a 30), .int p1] (zPR D (zTys ct) (wX8 ct a ms ah hi kp sl sv pd ln so po wr to))) (vp_Si (fun r' => r' = r)) 0 0 (fun _ => False) := by
  refine zMet (cc := cX8_count) (maxL := 2) (ret := (some .int)) (av := [.ref (a 30), .int p1]) (by decide) (Nat.le_of_ble_eq_true rfl) (fun p e s m below meth c ls hx hb hr hml hts hown hlocks hin hB hl => ?_)
  have hl : lv_has ls 2 [(0, .ref (a 30)), (1, .int p1)] := hl
  have hown : s.vm.findClass RX8 = some m.cls := hown
  obtain ⟨hP, hK⟩ := hB
  have B84 : ∀ (_ : Unit), f_X8_count_b84 k ms kp ln p1 = some r → ∀ (ls : Array Slot), lv_has ls 2 [(0, .ref (a 30)), (1, .int p1)] → W p l e ({ frames := 3, cells := 0, slots := 0, locals := 67 } : Room) s m ([.ref (a 30), .int p1] : List Value).toArray below meth c s.heap [] 0 0 (MQ below (vp_Si (fun r' => r' = r)) ([.ref (a 30), .int p1] : List Value).toArray s 0 0 (fun _ => False)) (F0 m 84 ls []) := by
    intro _ h ls hl
    rw [f_X8_count_b84] at h
    refine lv_aload_n hx hb dX8_count_84 rfl (lv_at hl 0 rfl) ?_
    refine z_get (C := RX8) (T := TX8) (N := 12) (ci := 7) hx hb hts zin_X8 hown hK.1 hP 0 0 rfl rfl (by decide) tw795 rfl rfl dX8_count_85 ?_
    refine lv_iconst (v := (4 : Int32)) hx hb dX8_count_88 (by decide) ?_
    refine lv_iload_n hx hb dX8_count_89 rfl (lv_at hl 1 rfl) ?_
    refine o_iadd hx hb dX8_count_90 h (fun v1 h => ?_)
    refine y_iald hx hb hK hP 1 0 rfl rfl h dX8_count_91 (fun v2 h => ?_)
    exact zR_i hx hb hr hlocks dX8_count_92 h
  have B104 : ∀ (y0 : Int32), f_X8_count_b104 k ms kp ln p1 y0 = some r → ∀ (ls : Array Slot), lv_has ls 2 [] → W p l e ({ frames := 3, cells := 0, slots := 0, locals := 67 } : Room) s m ([.ref (a 30), .int p1] : List Value).toArray below meth c s.heap [] 0 0 (MQ below (vp_Si (fun r' => r' = r)) ([.ref (a 30), .int p1] : List Value).toArray s 0 0 (fun _ => False)) (F0 m 104 ls [.int y0, .ref (a 30)]) := by
    intro y0 h ls hl
    rw [f_X8_count_b104] at h
    obtain ⟨v3, hc, h⟩ := zb1_s h
    refine zE_i (zrV (C := RX8) (As := [.int y0]) (rest := []) hx hb hml hown hts tw1058 mv_X8_setOf ⟨Nat.le_of_ble_eq_true rfl, Nat.le_of_ble_eq_true rfl⟩ rfl rfl (ct_X8_setOf l D ct a ms ah hi kp sl sv pd ln so po wr to y0 k v3 hc) (z_pv hK hP [0, 1, 2, 3, 4, 5, 6, 7, 8] rfl 0 rfl rfl) hl.1 rfl rfl (Nat.le_of_ble_eq_true rfl) dX8_count_104 ⟨Nat.le_refl _, Nat.le_refl _⟩) ?_
    exact zR_i hx hb hr hlocks dX8_count_107 h
  have B93 : ∀ (_ : Unit), f_X8_count_b93 k ms kp ln p1 = some r → ∀ (ls : Array Slot), lv_has ls 2 [(0, .ref (a 30)), (1, .int p1)] → W p l e ({ frames := 3, cells := 0, slots := 0, locals := 67 } : Room) s m ([.ref (a 30), .int p1] : List Value).toArray below meth c s.heap [] 0 0 (MQ below (vp_Si (fun r' => r' = r)) ([.ref (a 30), .int p1] : List Value).toArray s 0 0 (fun _ => False)) (F0 m 93 ls []) := by
    intro _ h ls hl
    rw [f_X8_count_b93] at h
    refine lv_aload_n hx hb dX8_count_93 rfl (lv_at hl 0 rfl) ?_
    refine lv_iload_n hx hb dX8_count_94 rfl (lv_at hl 1 rfl) ?_
    refine lv_iconst (v := (5 : Int32)) hx hb dX8_count_95 (by decide) ?_
    refine zc_ne (tgt := 103) hx hb dX8_count_96 (by decide) h (fun h => ?_) (fun h => ?_)
    · refine lv_iconst (v := (0 : Int32)) hx hb dX8_count_103 (by decide) ?_
      exact B104 (0 : Int32) h ls (lv_sub hl [] rfl)
    · refine lv_iconst (v := (1 : Int32)) hx hb dX8_count_99 (by decide) ?_
      refine lv_goto (tgt := 104) hx hb dX8_count_100 (by decide) ?_
      exact B104 (1 : Int32) h ls (lv_sub hl [] rfl)
  have B122 : ∀ (_ : Unit), f_X8_count_b122 k ms kp ln p1 = some r → ∀ (ls : Array Slot), lv_has ls 2 [(0, .ref (a 30)), (1, .int p1)] → W p l e ({ frames := 3, cells := 0, slots := 0, locals := 67 } : Room) s m ([.ref (a 30), .int p1] : List Value).toArray below meth c s.heap [] 0 0 (MQ below (vp_Si (fun r' => r' = r)) ([.ref (a 30), .int p1] : List Value).toArray s 0 0 (fun _ => False)) (F0 m 122 ls []) := by
    intro _ h ls hl
    rw [f_X8_count_b122] at h
    refine lv_aload_n hx hb dX8_count_122 rfl (lv_at hl 0 rfl) ?_
    refine z_get (C := RX8) (T := TX8) (N := 12) (ci := 7) hx hb hts zin_X8 hown hK.1 hP 0 0 rfl rfl (by decide) tw795 rfl rfl dX8_count_123 ?_
    refine lv_bipush (v := (9 : Int32)) hx hb dX8_count_126 (by decide) ?_
    refine lv_iload_n hx hb dX8_count_128 rfl (lv_at hl 1 rfl) ?_
    refine o_iadd hx hb dX8_count_129 h (fun v6 h => ?_)
    refine lv_bipush (v := (8 : Int32)) hx hb dX8_count_130 (by decide) ?_
    refine o_isub hx hb dX8_count_132 h (fun v7 h => ?_)
    refine y_iald hx hb hK hP 1 0 rfl rfl h dX8_count_133 (fun v8 h => ?_)
    exact zR_i hx hb hr hlocks dX8_count_134 h
  rw [f_X8_count] at h
  refine lv_iload_n hx hb dX8_count_0 rfl (lv_at hl 1 rfl) ?_
  refine o_sw h (fun q0 h => ?_) (fun q0 h => ?_)
  · refine lv_tableIn (off := (83 : Int)) (tgt := 84) hx hb dX8_count_1 (by rw [q0]; decide) (by rw [q0]; decide) (by rw [q0]; decide) (by decide) ?_
    exact B84 () h ls (lv_sub hl [0, 1] rfl)
  refine o_sw h (fun q1 h => ?_) (fun q1 h => ?_)
  · refine lv_tableIn (off := (83 : Int)) (tgt := 84) hx hb dX8_count_1 (by rw [q1]; decide) (by rw [q1]; decide) (by rw [q1]; decide) (by decide) ?_
    exact B84 () h ls (lv_sub hl [0, 1] rfl)
  refine o_sw h (fun q2 h => ?_) (fun q2 h => ?_)
  · refine lv_tableIn (off := (83 : Int)) (tgt := 84) hx hb dX8_count_1 (by rw [q2]; decide) (by rw [q2]; decide) (by rw [q2]; decide) (by decide) ?_
    exact B84 () h ls (lv_sub hl [0, 1] rfl)
  refine o_sw h (fun q3 h => ?_) (fun q3 h => ?_)
  · refine lv_tableIn (off := (83 : Int)) (tgt := 84) hx hb dX8_count_1 (by rw [q3]; decide) (by rw [q3]; decide) (by rw [q3]; decide) (by decide) ?_
    exact B84 () h ls (lv_sub hl [0, 1] rfl)
  refine o_sw h (fun q4 h => ?_) (fun q4 h => ?_)
  · refine lv_tableIn (off := (92 : Int)) (tgt := 93) hx hb dX8_count_1 (by rw [q4]; decide) (by rw [q4]; decide) (by rw [q4]; decide) (by decide) ?_
    exact B93 () h ls (lv_sub hl [0, 1] rfl)
  refine o_sw h (fun q5 h => ?_) (fun q5 h => ?_)
  · refine lv_tableIn (off := (92 : Int)) (tgt := 93) hx hb dX8_count_1 (by rw [q5]; decide) (by rw [q5]; decide) (by rw [q5]; decide) (by decide) ?_
    exact B93 () h ls (lv_sub hl [0, 1] rfl)
  refine o_sw h (fun q6 h => ?_) (fun q6 h => ?_)
  · refine lv_tableIn (off := (107 : Int)) (tgt := 108) hx hb dX8_count_1 (by rw [q6]; decide) (by rw [q6]; decide) (by rw [q6]; decide) (by decide) ?_
    refine lv_aload_n hx hb dX8_count_108 rfl (lv_at hl 0 rfl) ?_
    refine z_get (C := RX8) (T := TX8) (N := 12) (ci := 7) hx hb hts zin_X8 hown hK.1 hP 0 0 rfl rfl (by decide) tw795 rfl rfl dX8_count_109 ?_
    refine lv_bipush (v := (8 : Int32)) hx hb dX8_count_112 (by decide) ?_
    refine y_ialdc hx hb hK hP 1 0 8 rfl rfl (by decide) (by decide) h dX8_count_114 (fun v4 h => ?_)
    exact zR_i hx hb hr hlocks dX8_count_115 h
  refine o_sw h (fun q7 h => ?_) (fun q7 h => ?_)
  · refine lv_tableIn (off := (115 : Int)) (tgt := 116) hx hb dX8_count_1 (by rw [q7]; decide) (by rw [q7]; decide) (by rw [q7]; decide) (by decide) ?_
    refine lv_aload_n hx hb dX8_count_116 rfl (lv_at hl 0 rfl) ?_
    refine lv_iconst (v := (1 : Int32)) hx hb dX8_count_117 (by decide) ?_
    obtain ⟨v5, hc, h⟩ := zb1_s h
    refine zE_i (zrV (C := RX8) (As := [.int (1 : Int32)]) (rest := []) hx hb hml hown hts tw1062 mv_X8_notCut ⟨Nat.le_of_ble_eq_true rfl, Nat.le_of_ble_eq_true rfl⟩ rfl rfl (ct_X8_notCut l D ct a ms ah hi kp sl sv pd ln so po wr to (1 : Int32) k v5 hc) (z_pv hK hP [0, 1, 2, 3, 4, 5, 6, 7, 8] rfl 0 rfl rfl) hl.1 rfl rfl (Nat.le_of_ble_eq_true rfl) dX8_count_118 ⟨Nat.le_refl _, Nat.le_refl _⟩) ?_
    exact zR_i hx hb hr hlocks dX8_count_121 h
  refine o_sw h (fun q8 h => ?_) (fun q8 h => ?_)
  · refine lv_tableIn (off := (121 : Int)) (tgt := 122) hx hb dX8_count_1 (by rw [q8]; decide) (by rw [q8]; decide) (by rw [q8]; decide) (by decide) ?_
    exact B122 () h ls (lv_sub hl [0, 1] rfl)
  refine o_sw h (fun q9 h => ?_) (fun q9 h => ?_)
  · refine lv_tableIn (off := (121 : Int)) (tgt := 122) hx hb dX8_count_1 (by rw [q9]; decide) (by rw [q9]; decide) (by rw [q9]; decide) (by decide) ?_
    exact B122 () h ls (lv_sub hl [0, 1] rfl)
  refine o_sw h (fun q10 h => ?_) (fun q10 h => ?_)
  · refine lv_tableIn (off := (121 : Int)) (tgt := 122) hx hb dX8_count_1 (by rw [q10]; decide) (by rw [q10]; decide) (by rw [q10]; decide) (by decide) ?_
    exact B122 () h ls (lv_sub hl [0, 1] rfl)
  refine o_sw h (fun q11 h => ?_) (fun q11 h => ?_)
  · refine lv_tableIn (off := (134 : Int)) (tgt := 135) hx hb dX8_count_1 (by rw [q11]; decide) (by rw [q11]; decide) (by rw [q11]; decide) (by decide) ?_
    refine lv_aload_n hx hb dX8_count_135 rfl (lv_at hl 0 rfl) ?_
    refine z_get (C := RX8) (T := TX8) (N := 12) (ci := 7) hx hb hts zin_X8 hown hK.1 hP 0 0 rfl rfl (by decide) tw795 rfl rfl dX8_count_136 ?_
    refine lv_iconst (v := (1 : Int32)) hx hb dX8_count_139 (by decide) ?_
    refine y_ialdc hx hb hK hP 1 0 1 rfl rfl (by decide) (by decide) h dX8_count_140 (fun v9 h => ?_)
    exact zR_i hx hb hr hlocks dX8_count_141 h
  refine o_sw h (fun q12 h => ?_) (fun q12 h => ?_)
  · refine lv_tableIn (off := (141 : Int)) (tgt := 142) hx hb dX8_count_1 (by rw [q12]; decide) (by rw [q12]; decide) (by rw [q12]; decide) (by decide) ?_
    refine lv_aload_n hx hb dX8_count_142 rfl (lv_at hl 0 rfl) ?_
    refine z_get (C := RX8) (T := TX8) (N := 12) (ci := 7) hx hb hts zin_X8 hown hK.1 hP 0 0 rfl rfl (by decide) tw795 rfl rfl dX8_count_143 ?_
    refine lv_iconst (v := (0 : Int32)) hx hb dX8_count_146 (by decide) ?_
    refine y_ialdc hx hb hK hP 1 0 0 rfl rfl (by decide) (by decide) h dX8_count_147 (fun v10 h => ?_)
    exact zR_i hx hb hr hlocks dX8_count_148 h
  refine o_sw h (fun q13 h => ?_) (fun q13 h => ?_)
  · refine lv_tableIn (off := (148 : Int)) (tgt := 149) hx hb dX8_count_1 (by rw [q13]; decide) (by rw [q13]; decide) (by rw [q13]; decide) (by decide) ?_
    refine lv_aload_n hx hb dX8_count_149 rfl (lv_at hl 0 rfl) ?_
    refine z_get (C := RX8) (T := TX8) (N := 12) (ci := 7) hx hb hts zin_X8 hown hK.1 hP 0 0 rfl rfl (by decide) tw795 rfl rfl dX8_count_150 ?_
    refine lv_iconst (v := (2 : Int32)) hx hb dX8_count_153 (by decide) ?_
    refine y_ialdc hx hb hK hP 1 0 2 rfl rfl (by decide) (by decide) h dX8_count_154 (fun v11 h => ?_)
    refine lv_bipush (v := (100 : Int32)) hx hb dX8_count_155 (by decide) ?_
    refine o_iadd hx hb dX8_count_157 h (fun v12 h => ?_)
    exact zR_i hx hb hr hlocks dX8_count_158 h
  refine o_sw h (fun q14 h => ?_) (fun q14 h => ?_)
  · refine lv_tableIn (off := (158 : Int)) (tgt := 159) hx hb dX8_count_1 (by rw [q14]; decide) (by rw [q14]; decide) (by rw [q14]; decide) (by decide) ?_
    refine lv_aload_n hx hb dX8_count_159 rfl (lv_at hl 0 rfl) ?_
    refine z_get (C := RX8) (T := TX8) (N := 12) (ci := 7) hx hb hts zin_X8 hown hK.1 hP 0 0 rfl rfl (by decide) tw795 rfl rfl dX8_count_160 ?_
    refine lv_iconst (v := (3 : Int32)) hx hb dX8_count_163 (by decide) ?_
    refine y_ialdc hx hb hK hP 1 0 3 rfl rfl (by decide) (by decide) h dX8_count_164 (fun v13 h => ?_)
    exact zR_i hx hb hr hlocks dX8_count_165 h
  refine o_sw h (fun q15 h => ?_) (fun q15 h => ?_)
  · refine lv_tableIn (off := (165 : Int)) (tgt := 166) hx hb dX8_count_1 (by rw [q15]; decide) (by rw [q15]; decide) (by rw [q15]; decide) (by decide) ?_
    refine lv_aload_n hx hb dX8_count_166 rfl (lv_at hl 0 rfl) ?_
    refine z_get (C := RX8) (T := TX8) (N := 12) (ci := 7) hx hb hts zin_X8 hown hK.1 hP 0 7 rfl rfl (by decide) tw802 rfl rfl dX8_count_167 ?_
    exact zR_i hx hb hr hlocks dX8_count_170 h
  refine o_sw h (fun q16 h => ?_) (fun q16 h => ?_)
  · refine lv_tableIn (off := (170 : Int)) (tgt := 171) hx hb dX8_count_1 (by rw [q16]; decide) (by rw [q16]; decide) (by rw [q16]; decide) (by decide) ?_
    refine lv_aload_n hx hb dX8_count_171 rfl (lv_at hl 0 rfl) ?_
    refine z_get (C := RX8) (T := TX8) (N := 12) (ci := 7) hx hb hts zin_X8 hown hK.1 hP 0 3 rfl rfl (by decide) tw798 rfl rfl dX8_count_172 ?_
    exact zR_i hx hb hr hlocks dX8_count_175 h
  · refine lv_tableOut (tgt := 176) hx hb dX8_count_1 (by have w0 := lv_neT (a := 0) q0 rfl; have w1 := lv_neT (a := 1) q1 rfl; have w2 := lv_neT (a := 2) q2 rfl; have w3 := lv_neT (a := 3) q3 rfl; have w4 := lv_neT (a := 4) q4 rfl; have w5 := lv_neT (a := 5) q5 rfl; have w6 := lv_neT (a := 6) q6 rfl; have w7 := lv_neT (a := 7) q7 rfl; have w8 := lv_neT (a := 8) q8 rfl; have w9 := lv_neT (a := 9) q9 rfl; have w10 := lv_neT (a := 10) q10 rfl; have w11 := lv_neT (a := 11) q11 rfl; have w12 := lv_neT (a := 12) q12 rfl; have w13 := lv_neT (a := 13) q13 rfl; have w14 := lv_neT (a := 14) q14 rfl; have w15 := lv_neT (a := 15) q15 rfl; have w16 := lv_neT (a := 16) q16 rfl; omega) (by decide) ?_
    refine lv_bipush (v := (-2 : Int32)) hx hb dX8_count_176 (by decide) ?_
    exact zR_i hx hb hr hlocks dX8_count_178 h

def f_X8_bitsOf_b37 (k : Nat) (p1 : UInt64)  : Nat → Int64 → UInt64 → Option (Int64)
  | 0, _, _ => none
  | n + 1, x2, x4 =>
    zl (Op.cmpValue (FP.dcmp x4 (4611686018427387904 : UInt64)) CmpOp.l) fun v3 =>
    if v3 < 0 then
      zl (x2 * (4503599627370496 : Int64)) fun v4 =>
      zg (z64 (FP.dsub x4 FP.dconst1)) (zl (FP.dsub x4 FP.dconst1) fun v5 =>
      zg (z64 (FP.dmul v5 (4841369599423283200 : UInt64))) (zl (FP.dmul v5 (4841369599423283200 : UInt64)) fun v6 =>
      zl (FP.d2l v6) fun v7 =>
      zl (v4 + v7) fun v8 =>
      some v8))
    else
      zg (z64 (FP.dmul x4 (4602678819172646912 : UInt64))) (zl (FP.dmul x4 (4602678819172646912 : UInt64)) fun v9 =>
      zl (x2 + (1 : Int64)) fun v10 =>
      f_X8_bitsOf_b37 k p1 n v10 v9)
def f_X8_bitsOf_b15 (k : Nat) (p1 : UInt64)  : Nat → Int64 → UInt64 → Option (Int64)
  | 0, _, _ => none
  | n + 1, x2, x4 =>
    zl (Op.cmpValue (FP.dcmp x4 FP.dconst1) CmpOp.g) fun v2 =>
    if 0 ≤ v2 then
      f_X8_bitsOf_b37 k p1 k x2 x4
    else
      zg (z64 (FP.dmul x4 (4611686018427387904 : UInt64))) (zl (FP.dmul x4 (4611686018427387904 : UInt64)) fun v11 =>
      zl (x2 - (1 : Int64)) fun v12 =>
      f_X8_bitsOf_b15 k p1 n v12 v11)
def f_X8_bitsOf (k : Nat) (p1 : UInt64) : Option (Int64) :=
  zl (Op.cmpValue (FP.dcmp p1 FP.dconst0) CmpOp.l) fun v1 =>
  if v1 = 0 then
    some (0 : Int64)
  else
    f_X8_bitsOf_b15 k p1 k (1023 : Int64) p1
set_option maxRecDepth 100000 in
set_option maxHeartbeats 4000000 in
theorem ct_X8_bitsOf (l : Launch) (p1 : UInt64) (k : Nat) (r : Int64) (h : f_X8_bitsOf k p1 = some r) : Met l yX8_bitsOf (Cond.code yX8_bitsOf cX8_bitsOf 6 (some .long) :: zT) ({ frames := 0, cells := 0, slots := 0, locals := 0 } : Room) (va_Pc [.double p1] (fun _ => True)) (vp_Sl (fun r' => r' = r)) 0 0 (fun _ => False) := by
  refine zMet (cc := cX8_bitsOf) (maxL := 6) (ret := (some .long)) (av := [.double p1]) (by decide) (Nat.le_of_ble_eq_true rfl) (fun p e s m below meth c ls hx hb hr hml hts hown hlocks hin hB hl => ?_)
  have hl : lv_has ls 6 [(0, .double p1)] := hl
  have hown : s.vm.findClass RX8 = some m.cls := hown
  have B37 : ∀ (n : Nat), ∀ (x2 : Int64) (x4 : UInt64), f_X8_bitsOf_b37 k p1 n x2 x4 = some r → ∀ (ls : Array Slot), lv_has ls 6 [(2, .long x2), (4, .double x4)] → W p l e ({ frames := 0, cells := 0, slots := 0, locals := 0 } : Room) s m ([.double p1] : List Value).toArray below meth c s.heap [] 0 0 (MQ below (vp_Sl (fun r' => r' = r)) ([.double p1] : List Value).toArray s 0 0 (fun _ => False)) (F0 m 37 ls []) := by
    intro n
    induction n with
    | zero => intro x2 x4 h; exact absurd h (by rw [f_X8_bitsOf_b37]; exact fun q => nomatch q)
    | succ n ih37 =>
      intro x2 x4 h ls hl
      rw [f_X8_bitsOf_b37] at h
      refine lv_dload hx hb dX8_bitsOf_37 (lv_at hl 1 rfl) ?_
      refine lv_ldc2d (v := (4611686018427387904 : UInt64)) hx hb hown (hts _ (List.mem_cons_of_mem _ tw1074)) dX8_bitsOf_39 ?_
      refine o_dcmp hx hb dX8_bitsOf_42 h (fun v3 h => ?_)
      refine zi_lt (tgt := 61) hx hb dX8_bitsOf_43 (by decide) h (fun h => ?_) (fun h => ?_)
      · refine lv_lload_n hx hb dX8_bitsOf_61 rfl (lv_at hl 0 rfl) ?_
        refine lv_ldc2 (v := (4503599627370496 : Int64)) hx hb hown (hts _ (List.mem_cons_of_mem _ tw1076)) dX8_bitsOf_62 ?_
        refine o_lmul hx hb dX8_bitsOf_65 h (fun v4 h => ?_)
        refine lv_dload hx hb dX8_bitsOf_66 (lv_at hl 1 rfl) ?_
        refine lv_dconst1 hx hb dX8_bitsOf_68 ?_
        refine o_dsub hx hb dX8_bitsOf_69 h (fun v5 h => ?_)
        refine lv_ldc2d (v := (4841369599423283200 : UInt64)) hx hb hown (hts _ (List.mem_cons_of_mem _ tw1077)) dX8_bitsOf_70 ?_
        refine o_dmul hx hb dX8_bitsOf_73 h (fun v6 h => ?_)
        refine o_d2l hx hb dX8_bitsOf_74 h (fun v7 h => ?_)
        refine o_ladd hx hb dX8_bitsOf_75 h (fun v8 h => ?_)
        exact zR_l hx hb hr hlocks dX8_bitsOf_76 h
      · refine lv_dload hx hb dX8_bitsOf_46 (lv_at hl 1 rfl) ?_
        refine lv_ldc2d (v := (4602678819172646912 : UInt64)) hx hb hown (hts _ (List.mem_cons_of_mem _ tw1075)) dX8_bitsOf_48 ?_
        refine o_dmul hx hb dX8_bitsOf_51 h (fun v9 h => ?_)
        refine lv_dstore (lv' := [(4, .double v9), (2, .long x2)]) hx hb dX8_bitsOf_52 hl (by decide) rfl (fun ls hl => ?_)
        refine lv_lload_n hx hb dX8_bitsOf_54 rfl (lv_at hl 1 rfl) ?_
        refine lv_lconst (v := (1 : Int64)) hx hb dX8_bitsOf_55 (by decide) ?_
        refine o_ladd hx hb dX8_bitsOf_56 h (fun v10 h => ?_)
        refine lv_lstore_n (lv' := [(2, .long v10), (4, .double v9)]) hx hb dX8_bitsOf_57 rfl hl (by decide) rfl (fun ls hl => ?_)
        refine lv_goto (tgt := 37) hx hb dX8_bitsOf_58 (by decide) ?_
        exact ih37 v10 v9 h ls (lv_sub hl [0, 1] rfl)
  have B15 : ∀ (n : Nat), ∀ (x2 : Int64) (x4 : UInt64), f_X8_bitsOf_b15 k p1 n x2 x4 = some r → ∀ (ls : Array Slot), lv_has ls 6 [(2, .long x2), (4, .double x4)] → W p l e ({ frames := 0, cells := 0, slots := 0, locals := 0 } : Room) s m ([.double p1] : List Value).toArray below meth c s.heap [] 0 0 (MQ below (vp_Sl (fun r' => r' = r)) ([.double p1] : List Value).toArray s 0 0 (fun _ => False)) (F0 m 15 ls []) := by
    intro n
    induction n with
    | zero => intro x2 x4 h; exact absurd h (by rw [f_X8_bitsOf_b15]; exact fun q => nomatch q)
    | succ n ih15 =>
      intro x2 x4 h ls hl
      rw [f_X8_bitsOf_b15] at h
      refine lv_dload hx hb dX8_bitsOf_15 (lv_at hl 1 rfl) ?_
      refine lv_dconst1 hx hb dX8_bitsOf_17 ?_
      refine o_dcmp hx hb dX8_bitsOf_18 h (fun v2 h => ?_)
      refine zi_ge (tgt := 37) hx hb dX8_bitsOf_19 (by decide) h (fun h => ?_) (fun h => ?_)
      · exact B37 k x2 x4 h ls (lv_sub hl [0, 1] rfl)
      · refine lv_dload hx hb dX8_bitsOf_22 (lv_at hl 1 rfl) ?_
        refine lv_ldc2d (v := (4611686018427387904 : UInt64)) hx hb hown (hts _ (List.mem_cons_of_mem _ tw1074)) dX8_bitsOf_24 ?_
        refine o_dmul hx hb dX8_bitsOf_27 h (fun v11 h => ?_)
        refine lv_dstore (lv' := [(4, .double v11), (2, .long x2)]) hx hb dX8_bitsOf_28 hl (by decide) rfl (fun ls hl => ?_)
        refine lv_lload_n hx hb dX8_bitsOf_30 rfl (lv_at hl 1 rfl) ?_
        refine lv_lconst (v := (1 : Int64)) hx hb dX8_bitsOf_31 (by decide) ?_
        refine o_lsub hx hb dX8_bitsOf_32 h (fun v12 h => ?_)
        refine lv_lstore_n (lv' := [(2, .long v12), (4, .double v11)]) hx hb dX8_bitsOf_33 rfl hl (by decide) rfl (fun ls hl => ?_)
        refine lv_goto (tgt := 15) hx hb dX8_bitsOf_34 (by decide) ?_
        exact ih15 v12 v11 h ls (lv_sub hl [0, 1] rfl)
  rw [f_X8_bitsOf] at h
  refine lv_dload_n hx hb dX8_bitsOf_0 rfl (lv_at hl 0 rfl) ?_
  refine lv_dconst0 hx hb dX8_bitsOf_1 ?_
  refine o_dcmp hx hb dX8_bitsOf_2 h (fun v1 h => ?_)
  refine zi_ne (tgt := 8) hx hb dX8_bitsOf_3 (by decide) h (fun h => ?_) (fun h => ?_)
  · refine lv_ldc2 (v := (1023 : Int64)) hx hb hown (hts _ (List.mem_cons_of_mem _ tw1073)) dX8_bitsOf_8 ?_
    refine lv_lstore_n (lv' := [(2, .long (1023 : Int64)), (0, .double p1)]) hx hb dX8_bitsOf_11 rfl hl (by decide) rfl (fun ls hl => ?_)
    refine lv_dload_n hx hb dX8_bitsOf_12 rfl (lv_at hl 1 rfl) ?_
    refine lv_dstore (lv' := [(4, .double p1), (2, .long (1023 : Int64)), (0, .double p1)]) hx hb dX8_bitsOf_13 hl (by decide) rfl (fun ls hl => ?_)
    exact B15 k (1023 : Int64) p1 h ls (lv_sub hl [1, 0] rfl)
  · refine lv_lconst (v := (0 : Int64)) hx hb dX8_bitsOf_6 (by decide) ?_
    exact zR_l hx hb hr hlocks dX8_bitsOf_7 h

def f_X8_meanWeight (k : Nat) (ms : Nat → Int32) : Option (Int64) :=
  zb1 (f_X8_notCut k ms (0 : Int32)) fun v1 =>
  if v1 = 0 then
    some (0 : Int64)
  else
    zb1 (f_X8_notCut k ms (1 : Int32)) fun v2 =>
    zl (FP.i2d v2) fun v3 =>
    zl (FP.i2d v1) fun v4 =>
    zg (z64 (FP.ddiv v3 v4)) (zl (FP.ddiv v3 v4) fun v5 =>
    zb1 (f_X8_bitsOf k v5) fun v6 =>
    some v6)
set_option maxRecDepth 100000 in
set_option maxHeartbeats 4000000 in
theorem ct_X8_meanWeight (l : Launch) (D : va_G) (ct a : Nat → Nat) (ms : Nat → Int32) (ah : Nat → Int32) (hi : Nat → Int32) (kp : Int32) (sl : Nat → Int32) (sv : Nat → Int32) (pd : Nat → Int32) (ln : Int32) (so : Nat → Int32) (po : Int32) (wr : Int32) (to : Nat → Int32) (k : Nat) (r : Int64) (h : f_X8_meanWeight k ms = some r) : Met l yX8_meanWeight (Cond.code yX8_meanWeight cX8_meanWeight 2 (some .long) :: zT) ({ frames := 3, cells := 0, slots := 0, locals := 66 } : Room) (va_Pc [.ref (a 30)] (zPR D (zTys ct) (wX8 ct a ms ah hi kp sl sv pd ln so po wr to))) (vp_Sl (fun r' => r' = r)) 0 0 (fun _ => False) := by
  refine zMet (cc := cX8_meanWeight) (maxL := 2) (ret := (some .long)) (av := [.ref (a 30)]) (by decide) (Nat.le_of_ble_eq_true rfl) (fun p e s m below meth c ls hx hb hr hml hts hown hlocks hin hB hl => ?_)
  have hl : lv_has ls 2 [(0, .ref (a 30))] := hl
  have hown : s.vm.findClass RX8 = some m.cls := hown
  obtain ⟨hP, hK⟩ := hB
  rw [f_X8_meanWeight] at h
  refine lv_aload_n hx hb dX8_meanWeight_0 rfl (lv_at hl 0 rfl) ?_
  refine lv_iconst (v := (0 : Int32)) hx hb dX8_meanWeight_1 (by decide) ?_
  obtain ⟨v1, hc, h⟩ := zb1_s h
  refine zE_i (zrV (C := RX8) (As := [.int (0 : Int32)]) (rest := []) hx hb hml hown hts tw1062 mv_X8_notCut ⟨Nat.le_of_ble_eq_true rfl, Nat.le_of_ble_eq_true rfl⟩ rfl rfl (ct_X8_notCut l D ct a ms ah hi kp sl sv pd ln so po wr to (0 : Int32) k v1 hc) (z_pv hK hP [0, 1, 2, 3, 4, 5, 6, 7, 8] rfl 0 rfl rfl) hl.1 rfl rfl (Nat.le_of_ble_eq_true rfl) dX8_meanWeight_2 ⟨Nat.le_refl _, Nat.le_refl _⟩) ?_
  refine lv_istore_n (lv' := [(1, .int v1), (0, .ref (a 30))]) hx hb dX8_meanWeight_5 rfl hl (by decide) rfl (fun ls hl => ?_)
  refine lv_iload_n hx hb dX8_meanWeight_6 rfl (lv_at hl 0 rfl) ?_
  refine zi_ne (tgt := 14) hx hb dX8_meanWeight_7 (by decide) h (fun h => ?_) (fun h => ?_)
  · refine lv_aload_n hx hb dX8_meanWeight_14 rfl (lv_at hl 1 rfl) ?_
    refine lv_iconst (v := (1 : Int32)) hx hb dX8_meanWeight_15 (by decide) ?_
    obtain ⟨v2, hc, h⟩ := zb1_s h
    refine zE_i (zrV (C := RX8) (As := [.int (1 : Int32)]) (rest := []) hx hb hml hown hts tw1062 mv_X8_notCut ⟨Nat.le_of_ble_eq_true rfl, Nat.le_of_ble_eq_true rfl⟩ rfl rfl (ct_X8_notCut l D ct a ms ah hi kp sl sv pd ln so po wr to (1 : Int32) k v2 hc) (z_pv hK hP [0, 1, 2, 3, 4, 5, 6, 7, 8] rfl 0 rfl rfl) hl.1 rfl rfl (Nat.le_of_ble_eq_true rfl) dX8_meanWeight_16 ⟨Nat.le_refl _, Nat.le_refl _⟩) ?_
    refine o_i2d hx hb dX8_meanWeight_19 h (fun v3 h => ?_)
    refine lv_iload_n hx hb dX8_meanWeight_20 rfl (lv_at hl 0 rfl) ?_
    refine o_i2d hx hb dX8_meanWeight_21 h (fun v4 h => ?_)
    refine o_ddiv hx hb dX8_meanWeight_22 h (fun v5 h => ?_)
    obtain ⟨v6, hc, h⟩ := zb1_s h
    refine zE_l (zrS (As := [.double v5]) (rest := []) hx hb hml hown hts tw1070 ms_X8_bitsOf ⟨Nat.le_of_ble_eq_true rfl, Nat.le_of_ble_eq_true rfl⟩ rfl rfl (ct_X8_bitsOf l v5 k v6 hc) z_p0 hl.1 rfl rfl (Nat.le_of_ble_eq_true rfl) dX8_meanWeight_23 ⟨Nat.le_refl _, Nat.le_refl _⟩) ?_
    exact zR_l hx hb hr hlocks dX8_meanWeight_26 h
  · refine lv_lconst (v := (0 : Int64)) hx hb dX8_meanWeight_10 (by decide) ?_
    refine lv_goto (tgt := 26) hx hb dX8_meanWeight_11 (by decide) ?_
    exact zR_l hx hb hr hlocks dX8_meanWeight_26 h

def f_X8_why (k : Nat) (ms : Nat → Int32) (p1 : Int32) : Option (Int32) :=
  zb1 (f_X8_isLorry k p1) fun v1 =>
  if v1 = 0 then
    some (-1 : Int32)
  else
    zb1 (f_X8_whyNot k ms p1) fun v2 =>
    some v2
set_option maxRecDepth 100000 in
set_option maxHeartbeats 4000000 in
theorem ct_X8_why (l : Launch) (D : va_G) (ct a : Nat → Nat) (ms : Nat → Int32) (ah : Nat → Int32) (hi : Nat → Int32) (kp : Int32) (sl : Nat → Int32) (sv : Nat → Int32) (pd : Nat → Int32) (ln : Int32) (so : Nat → Int32) (po : Int32) (wr : Int32) (to : Nat → Int32) (p1 : Int32) (k : Nat) (r : Int32) (h : f_X8_why k ms p1 = some r) : Met l yX8_why (Cond.code yX8_why cX8_why 2 (some .int) :: zT) ({ frames := 5, cells := 0, slots := 0, locals := 115 } : Room) (va_Pc [.ref (a 30), .int p1] (zPR D (zTys ct) (wX8 ct a ms ah hi kp sl sv pd ln so po wr to))) (vp_Si (fun r' => r' = r)) 0 0 (fun _ => False) := by
  refine zMet (cc := cX8_why) (maxL := 2) (ret := (some .int)) (av := [.ref (a 30), .int p1]) (by decide) (Nat.le_of_ble_eq_true rfl) (fun p e s m below meth c ls hx hb hr hml hts hown hlocks hin hB hl => ?_)
  have hl : lv_has ls 2 [(0, .ref (a 30)), (1, .int p1)] := hl
  have hown : s.vm.findClass RX8 = some m.cls := hown
  obtain ⟨hP, hK⟩ := hB
  rw [f_X8_why] at h
  refine lv_iload_n hx hb dX8_why_0 rfl (lv_at hl 1 rfl) ?_
  obtain ⟨v1, hc, h⟩ := zb1_s h
  refine zE_i (zrS (As := [.int p1]) (rest := []) hx hb hml hown hts tw944 ms_X8_isLorry ⟨Nat.le_of_ble_eq_true rfl, Nat.le_of_ble_eq_true rfl⟩ rfl rfl (ct_X8_isLorry l p1 k v1 hc) z_p0 hl.1 rfl rfl (Nat.le_of_ble_eq_true rfl) dX8_why_1 ⟨Nat.le_refl _, Nat.le_refl _⟩) ?_
  refine zi_eq (tgt := 15) hx hb dX8_why_4 (by decide) h (fun h => ?_) (fun h => ?_)
  · refine lv_iconst (v := (-1 : Int32)) hx hb dX8_why_15 (by decide) ?_
    exact zR_i hx hb hr hlocks dX8_why_16 h
  · refine lv_aload_n hx hb dX8_why_7 rfl (lv_at hl 0 rfl) ?_
    refine lv_iload_n hx hb dX8_why_8 rfl (lv_at hl 1 rfl) ?_
    obtain ⟨v2, hc, h⟩ := zb1_s h
    refine zE_i (zrV (C := RX8) (As := [.int p1]) (rest := []) hx hb hml hown hts tw967 mv_X8_whyNot ⟨Nat.le_of_ble_eq_true rfl, Nat.le_of_ble_eq_true rfl⟩ rfl rfl (ct_X8_whyNot l D ct a ms ah hi kp sl sv pd ln so po wr to p1 k v2 hc) (z_pv hK hP [0, 1, 2, 3, 4, 5, 6, 7, 8] rfl 0 rfl rfl) hl.1 rfl rfl (Nat.le_of_ble_eq_true rfl) dX8_why_9 ⟨Nat.le_refl _, Nat.le_refl _⟩) ?_
    refine lv_goto (tgt := 16) hx hb dX8_why_12 (by decide) ?_
    exact zR_i hx hb hr hlocks dX8_why_16 h

def f_X8_bestBlock_b38 (k : Nat) (ms : Nat → Int32) (p1 : Int32)  : Nat → (Nat → Int32) → Int32 → Int32 → Option (Int32 × (Nat → Int32))
  | 0, _, _, _ => none
  | n + 1, so_, x2, x3 =>
    if x3 < 0 then
      some (x2, so_)
    else
      zb2 (f_X8_canGive k ms so_ p1 x3) fun v6 so7 =>
      if v6 = 0 then
        zl (x3 + (-1 : Int32)) fun v8 =>
        f_X8_bestBlock_b38 k ms p1 n so7 x2 v8
      else
        if x2 = (-6 : Int32) then
          zl (x3 + (-1 : Int32)) fun v9 =>
          f_X8_bestBlock_b38 k ms p1 n so7 x3 v9
        else
          zb2 (f_X8_excessOf k ms so7 p1 x3) fun v10 so11 =>
          zb2 (f_X8_excessOf k ms so11 p1 x2) fun v12 so13 =>
          if v12 < v10 then
            zl (x3 + (-1 : Int32)) fun v14 =>
            f_X8_bestBlock_b38 k ms p1 n so13 x2 v14
          else
            zl (x3 + (-1 : Int32)) fun v15 =>
            f_X8_bestBlock_b38 k ms p1 n so13 x3 v15
def f_X8_bestBlock (k : Nat) (ms : Nat → Int32) (so : Nat → Int32) (p1 : Int32) : Option (Int32 × (Nat → Int32)) :=
  zb1 (f_X8_isOrder k ms p1) fun v1 =>
  if v1 = 0 then
    some ((-1 : Int32), so)
  else
    zb1 (f_X8_ofOrderAt k p1 (3 : Int32)) fun v2 =>
    zg (zin v2 324) (zl (ms v2.toNatClampNeg) fun v3 =>
    if v3 = 0 then
      zl (ms 5) fun v4 =>
      zl (v4 - (1 : Int32)) fun v5 =>
      f_X8_bestBlock_b38 k ms p1 k so (-6 : Int32) v5
    else
      some ((-5 : Int32), so))
set_option maxRecDepth 100000 in
set_option maxHeartbeats 4000000 in
theorem ct_X8_bestBlock (l : Launch) (D : va_G) (ct a : Nat → Nat) (ms : Nat → Int32) (ah : Nat → Int32) (hi : Nat → Int32) (kp : Int32) (sl : Nat → Int32) (sv : Nat → Int32) (pd : Nat → Int32) (ln : Int32) (so : Nat → Int32) (po : Int32) (wr : Int32) (to : Nat → Int32) (sz : Nat) (p1 : Int32) (k : Nat) (r : Int32) (so' : Nat → Int32) (h : f_X8_bestBlock k ms so p1 = some (r, so')) : Met l yX8_bestBlock (Cond.code yX8_bestBlock cX8_bestBlock 4 (some .int) :: zT) ({ frames := 4, cells := 0, slots := 0, locals := 98 } : Room) (va_Pc [.ref (a 30), .int p1] (zPW D (zTys ct) (wX8 ct a ms ah hi kp sl sv pd ln so po wr to) sz)) (va_Qi (fun r' (_ : Unit) => r' = r) (zQW D (wX8 ct a ms ah hi kp sl sv pd ln so po wr to) sz (wX8 ct a ms ah hi kp sl sv pd ln so' po wr to)) (va_A (wX8 ct a ms ah hi kp sl sv pd ln so po wr to) sz)) 0 0 (va_A (wX8 ct a ms ah hi kp sl sv pd ln so po wr to) sz) := by
  refine zMet (cc := cX8_bestBlock) (maxL := 4) (ret := (some .int)) (av := [.ref (a 30), .int p1]) (by decide) (Nat.le_of_ble_eq_true rfl) (fun p e s m below meth c ls hx hb hr hml hts hown hlocks hin hB hl => ?_)
  have hl : lv_has ls 4 [(0, .ref (a 30)), (1, .int p1)] := hl
  have hown : s.vm.findClass RX8 = some m.cls := hown
  obtain ⟨hsz, hP, hK, hD0⟩ := hB
  subst hsz
  have hD := hD0.self (sz := s.heap.size)
  obtain ⟨A, hAe⟩ : ∃ A, A = va_A (wX8 ct a ms ah hi kp sl sv pd ln so po wr to) s.heap.size := ⟨_, rfl⟩
  rw [← hAe] at hD
  have hA : ∀ q : Nat, s.heap.size ≤ q → A q := fun q h => by rw [hAe]; exact Or.inr h
  have hS : va_S A s.heap s.heap [] := va_S.rf
  have B38 : ∀ (n : Nat), ∀ (so_ : Nat → Int32) (x2 : Int32) (x3 : Int32), f_X8_bestBlock_b38 k ms p1 n so_ x2 x3 = some (r, so') → ∀ (H : Heap) (locs : List Loc), va_P D vwCl (wX8 ct a ms ah hi kp sl sv pd ln so_ po wr to) H → va_D A (wX8 ct a ms ah hi kp sl sv pd ln so_ po wr to) → va_S A s.heap H locs → ∀ (ls : Array Slot), lv_has ls 4 [(0, .ref (a 30)), (1, .int p1), (2, .int x2), (3, .int x3)] → W p l e ({ frames := 4, cells := 0, slots := 0, locals := 98 } : Room) s m ([.ref (a 30), .int p1] : List Value).toArray below meth c H locs 0 0 (MQ below (va_Qi (fun r' (_ : Unit) => r' = r) (zQW D (wX8 ct a ms ah hi kp sl sv pd ln so po wr to) s.heap.size (wX8 ct a ms ah hi kp sl sv pd ln so' po wr to)) (va_A (wX8 ct a ms ah hi kp sl sv pd ln so po wr to) s.heap.size)) ([.ref (a 30), .int p1] : List Value).toArray s 0 0 (va_A (wX8 ct a ms ah hi kp sl sv pd ln so po wr to) s.heap.size)) (F0 m 38 ls []) := by
    intro n
    induction n with
    | zero => intro so_ x2 x3 h; exact absurd h (by rw [f_X8_bestBlock_b38]; exact fun q => nomatch q)
    | succ n ih38 =>
      intro so_ x2 x3 h H locs hP hD hS ls hl
      rw [f_X8_bestBlock_b38] at h
      refine lv_iload_n hx hb dX8_bestBlock_38 rfl (lv_at hl 3 rfl) ?_
      refine zi_lt (tgt := 84) hx hb dX8_bestBlock_39 (by decide) h (fun h => ?_) (fun h => ?_)
      · refine lv_iload_n hx hb dX8_bestBlock_84 rfl (lv_at hl 2 rfl) ?_
        cases h
        exact zX_i hx hb hr hlocks hP hD hS hAe dX8_bestBlock_85 rfl
      · refine lv_aload_n hx hb dX8_bestBlock_42 rfl (lv_at hl 0 rfl) ?_
        refine lv_iload_n hx hb dX8_bestBlock_43 rfl (lv_at hl 1 rfl) ?_
        refine lv_iload_n hx hb dX8_bestBlock_44 rfl (lv_at hl 3 rfl) ?_
        obtain ⟨v6, so7, hc, h⟩ := zb2_s h
        refine zG_i (w1 := wX8 ct a ms ah hi kp sl sv pd ln so7 po wr to) (ws' := wX8 ct a ms ah hi kp sl sv pd ln so7 po wr to) hP hD hS hA [0, 1, 2, 3, 4, 5, 6, 7, 8] [] [0, 1, 2, 3, 4, 5, 6, 7, 8] rfl rfl (by decide) (by decide) rfl (by decide) (zrV (C := RX8) (As := [.int p1, .int x3]) (rest := []) hx hb hml hown hts tw928 mv_X8_canGive ⟨Nat.le_of_ble_eq_true rfl, Nat.le_of_ble_eq_true rfl⟩ rfl rfl (ct_X8_canGive l D ct a ms ah hi kp sl sv pd ln so_ po wr to _ p1 x3 k v6 so7 hc) (z_wv hK hP hD [0, 1, 2, 3, 4, 5, 6, 7, 8] (by decide) rfl 0 rfl rfl) hl.1 rfl rfl (Nat.le_of_ble_eq_true rfl) dX8_bestBlock_45 ⟨Nat.le_refl _, Nat.le_refl _⟩) (fun H locs hP hD hS => ?_)
        refine zi_eq (tgt := 76) hx hb dX8_bestBlock_48 (by decide) h (fun h => ?_) (fun h => ?_)
        · refine lv_iload_n hx hb dX8_bestBlock_76 rfl (lv_at hl 2 rfl) ?_
          refine lv_istore_n (lv' := [(2, .int x2), (0, .ref (a 30)), (1, .int p1), (3, .int x3)]) hx hb dX8_bestBlock_77 rfl hl (by decide) rfl (fun ls hl => ?_)
          refine o_nm h (fun v8 ey h => ?_)
          refine lv_iinc (v := v8) (lv' := [(3, .int v8), (2, .int x2), (0, .ref (a 30)), (1, .int p1)]) hx hb dX8_bestBlock_78 hl (k := 3) rfl (Eq.trans rfl ey) (by decide) rfl (fun ls hl => ?_)
          refine lv_goto (tgt := 38) hx hb dX8_bestBlock_81 (by decide) ?_
          exact ih38 so7 x2 v8 h _ _ hP hD hS ls (lv_sub hl [2, 3, 1, 0] rfl)
        · refine lv_iload_n hx hb dX8_bestBlock_51 rfl (lv_at hl 2 rfl) ?_
          refine lv_bipush (v := (-6 : Int32)) hx hb dX8_bestBlock_52 (by decide) ?_
          refine zc_eq (tgt := 72) hx hb dX8_bestBlock_54 (by decide) h (fun h => ?_) (fun h => ?_)
          · refine lv_iload_n hx hb dX8_bestBlock_72 rfl (lv_at hl 3 rfl) ?_
            refine lv_goto (tgt := 77) hx hb dX8_bestBlock_73 (by decide) ?_
            refine lv_istore_n (lv' := [(2, .int x3), (0, .ref (a 30)), (1, .int p1), (3, .int x3)]) hx hb dX8_bestBlock_77 rfl hl (by decide) rfl (fun ls hl => ?_)
            refine o_nm h (fun v9 ey h => ?_)
            refine lv_iinc (v := v9) (lv' := [(3, .int v9), (2, .int x3), (0, .ref (a 30)), (1, .int p1)]) hx hb dX8_bestBlock_78 hl (k := 3) rfl (Eq.trans rfl ey) (by decide) rfl (fun ls hl => ?_)
            refine lv_goto (tgt := 38) hx hb dX8_bestBlock_81 (by decide) ?_
            exact ih38 so7 x3 v9 h _ _ hP hD hS ls (lv_sub hl [2, 3, 1, 0] rfl)
          · refine lv_aload_n hx hb dX8_bestBlock_57 rfl (lv_at hl 0 rfl) ?_
            refine lv_iload_n hx hb dX8_bestBlock_58 rfl (lv_at hl 1 rfl) ?_
            refine lv_iload_n hx hb dX8_bestBlock_59 rfl (lv_at hl 3 rfl) ?_
            obtain ⟨v10, so11, hc, h⟩ := zb2_s h
            refine zG_i (w1 := wX8 ct a ms ah hi kp sl sv pd ln so11 po wr to) (ws' := wX8 ct a ms ah hi kp sl sv pd ln so11 po wr to) hP hD hS hA [0, 1, 2, 3, 4, 5, 6, 7, 8] [] [0, 1, 2, 3, 4, 5, 6, 7, 8] rfl rfl (by decide) (by decide) rfl (by decide) (zrV (C := RX8) (As := [.int p1, .int x3]) (rest := []) hx hb hml hown hts tw932 mv_X8_excessOf ⟨Nat.le_of_ble_eq_true rfl, Nat.le_of_ble_eq_true rfl⟩ rfl rfl (ct_X8_excessOf l D ct a ms ah hi kp sl sv pd ln so7 po wr to _ p1 x3 k v10 so11 hc) (z_wv hK hP hD [0, 1, 2, 3, 4, 5, 6, 7, 8] (by decide) rfl 0 rfl rfl) hl.1 rfl rfl (Nat.le_of_ble_eq_true rfl) dX8_bestBlock_60 ⟨Nat.le_refl _, Nat.le_refl _⟩) (fun H locs hP hD hS => ?_)
            refine lv_aload_n hx hb dX8_bestBlock_63 rfl (lv_at hl 0 rfl) ?_
            refine lv_iload_n hx hb dX8_bestBlock_64 rfl (lv_at hl 1 rfl) ?_
            refine lv_iload_n hx hb dX8_bestBlock_65 rfl (lv_at hl 2 rfl) ?_
            obtain ⟨v12, so13, hc, h⟩ := zb2_s h
            refine zG_i (w1 := wX8 ct a ms ah hi kp sl sv pd ln so13 po wr to) (ws' := wX8 ct a ms ah hi kp sl sv pd ln so13 po wr to) hP hD hS hA [0, 1, 2, 3, 4, 5, 6, 7, 8] [] [0, 1, 2, 3, 4, 5, 6, 7, 8] rfl rfl (by decide) (by decide) rfl (by decide) (zrV (C := RX8) (As := [.int p1, .int x2]) (rest := [.int v10]) hx hb hml hown hts tw932 mv_X8_excessOf ⟨Nat.le_of_ble_eq_true rfl, Nat.le_of_ble_eq_true rfl⟩ rfl rfl (ct_X8_excessOf l D ct a ms ah hi kp sl sv pd ln so11 po wr to _ p1 x2 k v12 so13 hc) (z_wv hK hP hD [0, 1, 2, 3, 4, 5, 6, 7, 8] (by decide) rfl 0 rfl rfl) hl.1 rfl rfl (Nat.le_of_ble_eq_true rfl) dX8_bestBlock_66 ⟨Nat.le_refl _, Nat.le_refl _⟩) (fun H locs hP hD hS => ?_)
            refine zc_gt (tgt := 76) hx hb dX8_bestBlock_69 (by decide) h (fun h => ?_) (fun h => ?_)
            · refine lv_iload_n hx hb dX8_bestBlock_76 rfl (lv_at hl 2 rfl) ?_
              refine lv_istore_n (lv' := [(2, .int x2), (0, .ref (a 30)), (1, .int p1), (3, .int x3)]) hx hb dX8_bestBlock_77 rfl hl (by decide) rfl (fun ls hl => ?_)
              refine o_nm h (fun v14 ey h => ?_)
              refine lv_iinc (v := v14) (lv' := [(3, .int v14), (2, .int x2), (0, .ref (a 30)), (1, .int p1)]) hx hb dX8_bestBlock_78 hl (k := 3) rfl (Eq.trans rfl ey) (by decide) rfl (fun ls hl => ?_)
              refine lv_goto (tgt := 38) hx hb dX8_bestBlock_81 (by decide) ?_
              exact ih38 so13 x2 v14 h _ _ hP hD hS ls (lv_sub hl [2, 3, 1, 0] rfl)
            · refine lv_iload_n hx hb dX8_bestBlock_72 rfl (lv_at hl 3 rfl) ?_
              refine lv_goto (tgt := 77) hx hb dX8_bestBlock_73 (by decide) ?_
              refine lv_istore_n (lv' := [(2, .int x3), (0, .ref (a 30)), (1, .int p1), (3, .int x3)]) hx hb dX8_bestBlock_77 rfl hl (by decide) rfl (fun ls hl => ?_)
              refine o_nm h (fun v15 ey h => ?_)
              refine lv_iinc (v := v15) (lv' := [(3, .int v15), (2, .int x3), (0, .ref (a 30)), (1, .int p1)]) hx hb dX8_bestBlock_78 hl (k := 3) rfl (Eq.trans rfl ey) (by decide) rfl (fun ls hl => ?_)
              refine lv_goto (tgt := 38) hx hb dX8_bestBlock_81 (by decide) ?_
              exact ih38 so13 x3 v15 h _ _ hP hD hS ls (lv_sub hl [2, 3, 1, 0] rfl)
  rw [f_X8_bestBlock] at h
  refine lv_aload_n hx hb dX8_bestBlock_0 rfl (lv_at hl 0 rfl) ?_
  refine lv_iload_n hx hb dX8_bestBlock_1 rfl (lv_at hl 1 rfl) ?_
  obtain ⟨v1, hc, h⟩ := zb1_s h
  refine zE_i (zrV (C := RX8) (As := [.int p1]) (rest := []) hx hb hml hown hts tw924 mv_X8_isOrder ⟨Nat.le_of_ble_eq_true rfl, Nat.le_of_ble_eq_true rfl⟩ rfl rfl (ct_X8_isOrder l D ct a ms ah hi kp sl sv pd ln so po wr to p1 k v1 hc) (z_pv hK hP [0, 1, 2, 3, 4, 5, 6, 7, 8] rfl 0 rfl rfl) hl.1 rfl rfl (Nat.le_of_ble_eq_true rfl) dX8_bestBlock_2 ⟨Nat.le_refl _, Nat.le_refl _⟩) ?_
  refine zi_ne (tgt := 10) hx hb dX8_bestBlock_5 (by decide) h (fun h => ?_) (fun h => ?_)
  · refine lv_aload_n hx hb dX8_bestBlock_10 rfl (lv_at hl 0 rfl) ?_
    refine z_get (C := RX8) (T := TX8) (N := 12) (ci := 7) hx hb hts zin_X8 hown hK.1 hP 0 0 rfl rfl (by decide) tw795 rfl rfl dX8_bestBlock_11 ?_
    refine lv_iload_n hx hb dX8_bestBlock_14 rfl (lv_at hl 1 rfl) ?_
    refine lv_iconst (v := (3 : Int32)) hx hb dX8_bestBlock_15 (by decide) ?_
    obtain ⟨v2, hc, h⟩ := zb1_s h
    refine zE_i (zrS (As := [.int p1, .int (3 : Int32)]) (rest := [.ref (a 31)]) hx hb hml hown hts tw917 ms_X8_ofOrderAt ⟨Nat.le_of_ble_eq_true rfl, Nat.le_of_ble_eq_true rfl⟩ rfl rfl (ct_X8_ofOrderAt l p1 (3 : Int32) k v2 hc) z_p0 hl.1 rfl rfl (Nat.le_of_ble_eq_true rfl) dX8_bestBlock_16 ⟨Nat.le_refl _, Nat.le_refl _⟩) ?_
    refine y_iald hx hb hK hP 1 0 rfl rfl h dX8_bestBlock_19 (fun v3 h => ?_)
    refine zi_eq (tgt := 26) hx hb dX8_bestBlock_20 (by decide) h (fun h => ?_) (fun h => ?_)
    · refine lv_bipush (v := (-6 : Int32)) hx hb dX8_bestBlock_26 (by decide) ?_
      refine lv_istore_n (lv' := [(2, .int (-6 : Int32)), (0, .ref (a 30)), (1, .int p1)]) hx hb dX8_bestBlock_28 rfl hl (by decide) rfl (fun ls hl => ?_)
      refine lv_aload_n hx hb dX8_bestBlock_29 rfl (lv_at hl 1 rfl) ?_
      refine z_get (C := RX8) (T := TX8) (N := 12) (ci := 7) hx hb hts zin_X8 hown hK.1 hP 0 0 rfl rfl (by decide) tw795 rfl rfl dX8_bestBlock_30 ?_
      refine lv_iconst (v := (5 : Int32)) hx hb dX8_bestBlock_33 (by decide) ?_
      refine y_ialdc hx hb hK hP 1 0 5 rfl rfl (by decide) (by decide) h dX8_bestBlock_34 (fun v4 h => ?_)
      refine lv_iconst (v := (1 : Int32)) hx hb dX8_bestBlock_35 (by decide) ?_
      refine o_isub hx hb dX8_bestBlock_36 h (fun v5 h => ?_)
      refine lv_istore_n (lv' := [(3, .int v5), (2, .int (-6 : Int32)), (0, .ref (a 30)), (1, .int p1)]) hx hb dX8_bestBlock_37 rfl hl (by decide) rfl (fun ls hl => ?_)
      exact B38 k so (-6 : Int32) v5 h _ _ hP hD hS ls (lv_sub hl [2, 3, 1, 0] rfl)
    · refine lv_bipush (v := (-5 : Int32)) hx hb dX8_bestBlock_23 (by decide) ?_
      cases h
      exact zX_i hx hb hr hlocks hP hD hS hAe dX8_bestBlock_25 rfl
  · refine lv_iconst (v := (-1 : Int32)) hx hb dX8_bestBlock_8 (by decide) ?_
    cases h
    exact zX_i hx hb hr hlocks hP hD hS hAe dX8_bestBlock_9 rfl

