/-! written by wip/whole/gen.py: each method as a function, and its contract -/
def f_X8_goes_b81 (k : Nat) (pd : Nat → Int32) (ln : Int32) (p1 : Int32) (k14 : (Nat → Int32) → (Nat → Int32) → Int32 → Int32 → (Nat → Int32) → Int32 → Int32 → Option (Int32 × (Nat → Int32) × (Nat → Int32) × Int32 × Int32 × (Nat → Int32))) (ms_ : Nat → Int32) (so_ : Nat → Int32) (po_ : Int32) (wr_ : Int32) (to_ : Nat → Int32) (x4 : Int32) (y0 : Int32) (y1 : Int32) : Option (Int32 × (Nat → Int32) × (Nat → Int32) × Int32 × Int32 × (Nat → Int32)) :=
  zl (y1 + y0) fun v6 =>
  if x4 = 0 then
    if (0 : Int32) = 0 then
      k14 ms_ so_ po_ wr_ to_ v6 (0 : Int32)
    else
      zb3 (f_X8_takes k pd ln po_ wr_ (59 : Int32) (59 : Int32)) fun v7 po8 wr9 =>
      if wr9 = 0 then
        k14 ms_ so_ po8 wr9 to_ v6 (1 : Int32)
      else
        k14 ms_ so_ po8 wr9 to_ v6 (0 : Int32)
  else
    if wr_ = 0 then
      if ln ≤ po_ then
        if (0 : Int32) = 0 then
          k14 ms_ so_ po_ wr_ to_ v6 (0 : Int32)
        else
          zb3 (f_X8_takes k pd ln po_ wr_ (59 : Int32) (59 : Int32)) fun v13 po14 wr15 =>
          if wr15 = 0 then
            k14 ms_ so_ po14 wr15 to_ v6 (1 : Int32)
          else
            k14 ms_ so_ po14 wr15 to_ v6 (0 : Int32)
      else
        if (1 : Int32) = 0 then
          k14 ms_ so_ po_ wr_ to_ v6 (1 : Int32)
        else
          zb3 (f_X8_takes k pd ln po_ wr_ (59 : Int32) (59 : Int32)) fun v16 po17 wr18 =>
          if wr18 = 0 then
            k14 ms_ so_ po17 wr18 to_ v6 (1 : Int32)
          else
            k14 ms_ so_ po17 wr18 to_ v6 (0 : Int32)
    else
      if (0 : Int32) = 0 then
        k14 ms_ so_ po_ wr_ to_ v6 (0 : Int32)
      else
        zb3 (f_X8_takes k pd ln po_ wr_ (59 : Int32) (59 : Int32)) fun v10 po11 wr12 =>
        if wr12 = 0 then
          k14 ms_ so_ po11 wr12 to_ v6 (1 : Int32)
        else
          k14 ms_ so_ po11 wr12 to_ v6 (0 : Int32)
def f_X8_goes_b68 (k : Nat) (pd : Nat → Int32) (ln : Int32) (p1 : Int32) (k14 : (Nat → Int32) → (Nat → Int32) → Int32 → Int32 → (Nat → Int32) → Int32 → Int32 → Option (Int32 × (Nat → Int32) × (Nat → Int32) × Int32 × Int32 × (Nat → Int32))) (ms_ : Nat → Int32) (so_ : Nat → Int32) (po_ : Int32) (wr_ : Int32) (to_ : Nat → Int32) (x2 : Int32) (y0 : Int32) : Option (Int32 × (Nat → Int32) × (Nat → Int32) × Int32 × Int32 × (Nat → Int32)) :=
  if y0 = 0 then
    f_X8_goes_b81 k pd ln p1 (k14) ms_ so_ po_ wr_ to_ y0 (0 : Int32) x2
  else
    f_X8_goes_b81 k pd ln p1 (k14) ms_ so_ po_ wr_ to_ y0 (1 : Int32) x2
def f_X8_goes_b14 (k : Nat) (pd : Nat → Int32) (ln : Int32) (p1 : Int32)  : Nat → (Nat → Int32) → (Nat → Int32) → Int32 → Int32 → (Nat → Int32) → Int32 → Int32 → Option (Int32 × (Nat → Int32) × (Nat → Int32) × Int32 × Int32 × (Nat → Int32))
  | 0, _, _, _, _, _, _, _ => none
  | n + 1, ms_, so_, po_, wr_, to_, x2, x3 =>
    if x3 = 0 then
      some (x2, ms_, so_, po_, wr_, to_)
    else
      zb3 (f_X8_readOrder k pd ln po_ wr_ to_) fun po3 wr4 to5 =>
      if p1 = 0 then
        f_X8_goes_b68 k pd ln p1 (f_X8_goes_b14 k pd ln p1 n) ms_ so_ po3 wr4 to5 x2 (1 : Int32)
      else
        zl (to5 0) fun v19 =>
        zl (to5 1) fun v20 =>
        zl (to5 2) fun v21 =>
        zl (to5 3) fun v22 =>
        zl (to5 4) fun v23 =>
        zb3 (f_X8_does k ms_ so_ v19 v20 v21 v22 v23) fun v24 ms25 so26 =>
        if v24 < 0 then
          f_X8_goes_b68 k pd ln p1 (f_X8_goes_b14 k pd ln p1 n) ms25 so26 po3 wr4 to5 x2 (0 : Int32)
        else
          f_X8_goes_b68 k pd ln p1 (f_X8_goes_b14 k pd ln p1 n) ms25 so26 po3 wr4 to5 x2 (1 : Int32)
def f_X8_goes (k : Nat) (ms : Nat → Int32) (pd : Nat → Int32) (ln : Int32) (so : Nat → Int32) (po : Int32) (wr : Int32) (to : Nat → Int32) (p1 : Int32) : Option (Int32 × (Nat → Int32) × (Nat → Int32) × Int32 × Int32 × (Nat → Int32)) :=
  zl (0 : Int32) fun po1 =>
  zg (zbo (0 : Int32)) (zl (0 : Int32) fun wr2 =>
  f_X8_goes_b14 k pd ln p1 k ms so po1 wr2 to (0 : Int32) (1 : Int32))
set_option maxRecDepth 100000 in
set_option maxHeartbeats 4000000 in
theorem ct_X8_goes (l : Launch) (D : va_G) (ct a : Nat → Nat) (ms : Nat → Int32) (ah : Nat → Int32) (hi : Nat → Int32) (kp : Int32) (sl : Nat → Int32) (sv : Nat → Int32) (pd : Nat → Int32) (ln : Int32) (so : Nat → Int32) (po : Int32) (wr : Int32) (to : Nat → Int32) (sz : Nat) (p1 : Int32) (k : Nat) (r : Int32) (ms' : Nat → Int32) (so' : Nat → Int32) (po' : Int32) (wr' : Int32) (to' : Nat → Int32) (h : f_X8_goes k ms pd ln so po wr to p1 = some (r, ms', so', po', wr', to')) : Met l yX8_goes (Cond.code yX8_goes cX8_goes 6 (some .int) :: zT) ({ frames := 7, cells := 0, slots := 0, locals := 164 } : Room) (va_Pc [.ref (a 30), .int p1] (zPW D (zTys ct) (wX8 ct a ms ah hi kp sl sv pd ln so po wr to) sz)) (va_Qi (fun r' (_ : Unit) => r' = r) (zQW D (wX8 ct a ms ah hi kp sl sv pd ln so po wr to) sz (wX8 ct a ms' ah hi kp sl sv pd ln so' po' wr' to')) (va_A (wX8 ct a ms ah hi kp sl sv pd ln so po wr to) sz)) 0 0 (va_A (wX8 ct a ms ah hi kp sl sv pd ln so po wr to) sz) := by
  refine zMet (cc := cX8_goes) (maxL := 6) (ret := (some .int)) (av := [.ref (a 30), .int p1]) (by decide) (Nat.le_of_ble_eq_true rfl) (fun p e s m below meth c ls hx hb hr hml hts hown hlocks hin hB hl => ?_)
  have hl : lv_has ls 6 [(0, .ref (a 30)), (1, .int p1)] := hl
  have hown : s.vm.findClass RX8 = some m.cls := hown
  obtain ⟨hsz, hP, hK, hD0⟩ := hB
  subst hsz
  have hD := hD0.self (sz := s.heap.size)
  obtain ⟨A, hAe⟩ : ∃ A, A = va_A (wX8 ct a ms ah hi kp sl sv pd ln so po wr to) s.heap.size := ⟨_, rfl⟩
  rw [← hAe] at hD
  have hA : ∀ q : Nat, s.heap.size ≤ q → A q := fun q h => by rw [hAe]; exact Or.inr h
  have hS : va_S A s.heap s.heap [] := va_S.rf
  have B81 : ∀ (k14 : (Nat → Int32) → (Nat → Int32) → Int32 → Int32 → (Nat → Int32) → Int32 → Int32 → Option (Int32 × (Nat → Int32) × (Nat → Int32) × Int32 × Int32 × (Nat → Int32))) (hk14 : ∀ (ms_ : Nat → Int32) (so_ : Nat → Int32) (po_ : Int32) (wr_ : Int32) (to_ : Nat → Int32) (x2 : Int32) (x3 : Int32), k14 ms_ so_ po_ wr_ to_ x2 x3 = some (r, ms', so', po', wr', to') → ∀ (H : Heap) (locs : List Loc), va_P D vwCl (wX8 ct a ms_ ah hi kp sl sv pd ln so_ po_ wr_ to_) H → va_D A (wX8 ct a ms_ ah hi kp sl sv pd ln so_ po_ wr_ to_) → va_S A s.heap H locs → ∀ (ls : Array Slot), lv_has ls 6 [(0, .ref (a 30)), (1, .int p1), (2, .int x2), (3, .int x3)] → W p l e ({ frames := 7, cells := 0, slots := 0, locals := 164 } : Room) s m ([.ref (a 30), .int p1] : List Value).toArray below meth c H locs 0 0 (MQ below (va_Qi (fun r' (_ : Unit) => r' = r) (zQW D (wX8 ct a ms ah hi kp sl sv pd ln so po wr to) s.heap.size (wX8 ct a ms' ah hi kp sl sv pd ln so' po' wr' to')) (va_A (wX8 ct a ms ah hi kp sl sv pd ln so po wr to) s.heap.size)) ([.ref (a 30), .int p1] : List Value).toArray s 0 0 (va_A (wX8 ct a ms ah hi kp sl sv pd ln so po wr to) s.heap.size)) (F0 m 14 ls [])), ∀ (ms_ : Nat → Int32) (so_ : Nat → Int32) (po_ : Int32) (wr_ : Int32) (to_ : Nat → Int32) (x4 : Int32) (y0 : Int32) (y1 : Int32), f_X8_goes_b81 k pd ln p1 k14 ms_ so_ po_ wr_ to_ x4 y0 y1 = some (r, ms', so', po', wr', to') → ∀ (H : Heap) (locs : List Loc), va_P D vwCl (wX8 ct a ms_ ah hi kp sl sv pd ln so_ po_ wr_ to_) H → va_D A (wX8 ct a ms_ ah hi kp sl sv pd ln so_ po_ wr_ to_) → va_S A s.heap H locs → ∀ (ls : Array Slot), lv_has ls 6 [(0, .ref (a 30)), (1, .int p1), (4, .int x4)] → W p l e ({ frames := 7, cells := 0, slots := 0, locals := 164 } : Room) s m ([.ref (a 30), .int p1] : List Value).toArray below meth c H locs 0 0 (MQ below (va_Qi (fun r' (_ : Unit) => r' = r) (zQW D (wX8 ct a ms ah hi kp sl sv pd ln so po wr to) s.heap.size (wX8 ct a ms' ah hi kp sl sv pd ln so' po' wr' to')) (va_A (wX8 ct a ms ah hi kp sl sv pd ln so po wr to) s.heap.size)) ([.ref (a 30), .int p1] : List Value).toArray s 0 0 (va_A (wX8 ct a ms ah hi kp sl sv pd ln so po wr to) s.heap.size)) (F0 m 81 ls [.int y0, .int y1]) := by
    intro k14 hk14
    intro ms_ so_ po_ wr_ to_ x4 y0 y1 h H locs hP hD hS ls hl
    rw [f_X8_goes_b81] at h
    refine o_iadd hx hb dX8_goes_81 h (fun v6 h => ?_)
    refine lv_istore_n (lv' := [(2, .int v6), (0, .ref (a 30)), (1, .int p1), (4, .int x4)]) hx hb dX8_goes_82 rfl hl (by decide) rfl (fun ls hl => ?_)
    refine lv_iload hx hb dX8_goes_83 (lv_at hl 3 rfl) ?_
    refine zi_eq (tgt := 110) hx hb dX8_goes_85 (by decide) h (fun h => ?_) (fun h => ?_)
    · refine lv_iconst (v := (0 : Int32)) hx hb dX8_goes_110 (by decide) ?_
      refine lv_istore_n (lv' := [(3, .int (0 : Int32)), (2, .int v6), (0, .ref (a 30)), (1, .int p1), (4, .int x4)]) hx hb dX8_goes_111 rfl hl (by decide) rfl (fun ls hl => ?_)
      refine lv_iload_n hx hb dX8_goes_112 rfl (lv_at hl 0 rfl) ?_
      refine zi_eq (tgt := 139) hx hb dX8_goes_113 (by decide) h (fun h => ?_) (fun h => ?_)
      · refine lv_goto (tgt := 14) hx hb dX8_goes_139 (by decide) ?_
        exact hk14 ms_ so_ po_ wr_ to_ v6 (0 : Int32) h _ _ hP hD hS ls (lv_sub hl [2, 3, 1, 0] rfl)
      · refine lv_aload_n hx hb dX8_goes_116 rfl (lv_at hl 2 rfl) ?_
        refine lv_bipush (v := (59 : Int32)) hx hb dX8_goes_117 (by decide) ?_
        refine lv_bipush (v := (59 : Int32)) hx hb dX8_goes_119 (by decide) ?_
        obtain ⟨v7, po8, wr9, hc, h⟩ := zb3_s h
        refine zG_i (w1 := wX8 ct a ms_ ah hi kp sl sv pd ln so_ po8 wr9 to_) (ws' := wX8 ct a ms_ ah hi kp sl sv pd ln so_ po8 wr9 to_) hP hD hS hA [0, 1, 2, 3, 4, 5, 6, 7, 8] [] [0, 1, 2, 3, 4, 5, 6, 7, 8] rfl rfl (by decide) (by decide) rfl (by decide) (zrV (C := RX8) (As := [.int (59 : Int32), .int (59 : Int32)]) (rest := []) hx hb hml hown hts tw1131 mv_X8_takes ⟨Nat.le_of_ble_eq_true rfl, Nat.le_of_ble_eq_true rfl⟩ rfl rfl (ct_X8_takes l D ct a ms_ ah hi kp sl sv pd ln so_ po_ wr_ to_ _ (59 : Int32) (59 : Int32) k v7 po8 wr9 hc) (z_wv hK hP hD [0, 1, 2, 3, 4, 5, 6, 7, 8] (by decide) rfl 0 rfl rfl) hl.1 rfl rfl (Nat.le_of_ble_eq_true rfl) dX8_goes_121 ⟨Nat.le_refl _, Nat.le_refl _⟩) (fun H locs hP hD hS => ?_)
        refine lv_istore (lv' := [(5, .int v7), (3, .int (0 : Int32)), (2, .int v6), (0, .ref (a 30)), (1, .int p1), (4, .int x4)]) hx hb dX8_goes_124 hl (by decide) rfl (fun ls hl => ?_)
        refine lv_aload_n hx hb dX8_goes_126 rfl (lv_at hl 3 rfl) ?_
        refine z_get (C := RX8) (T := TX8) (N := 12) (ci := 7) hx hb hts zin_X8 hown hK.1 hP 0 10 rfl rfl (by decide) tw805 rfl rfl dX8_goes_127 ?_
        refine zi_ne (tgt := 137) hx hb dX8_goes_130 (by decide) h (fun h => ?_) (fun h => ?_)
        · refine lv_iconst (v := (0 : Int32)) hx hb dX8_goes_137 (by decide) ?_
          refine lv_istore_n (lv' := [(3, .int (0 : Int32)), (5, .int v7), (2, .int v6), (0, .ref (a 30)), (1, .int p1), (4, .int x4)]) hx hb dX8_goes_138 rfl hl (by decide) rfl (fun ls hl => ?_)
          refine lv_goto (tgt := 14) hx hb dX8_goes_139 (by decide) ?_
          exact hk14 ms_ so_ po8 wr9 to_ v6 (0 : Int32) h _ _ hP hD hS ls (lv_sub hl [3, 4, 2, 0] rfl)
        · refine lv_iconst (v := (1 : Int32)) hx hb dX8_goes_133 (by decide) ?_
          refine lv_goto (tgt := 138) hx hb dX8_goes_134 (by decide) ?_
          refine lv_istore_n (lv' := [(3, .int (1 : Int32)), (5, .int v7), (2, .int v6), (0, .ref (a 30)), (1, .int p1), (4, .int x4)]) hx hb dX8_goes_138 rfl hl (by decide) rfl (fun ls hl => ?_)
          refine lv_goto (tgt := 14) hx hb dX8_goes_139 (by decide) ?_
          exact hk14 ms_ so_ po8 wr9 to_ v6 (1 : Int32) h _ _ hP hD hS ls (lv_sub hl [3, 4, 2, 0] rfl)
    · refine lv_aload_n hx hb dX8_goes_88 rfl (lv_at hl 1 rfl) ?_
      refine z_get (C := RX8) (T := TX8) (N := 12) (ci := 7) hx hb hts zin_X8 hown hK.1 hP 0 10 rfl rfl (by decide) tw805 rfl rfl dX8_goes_89 ?_
      refine zi_ne (tgt := 110) hx hb dX8_goes_92 (by decide) h (fun h => ?_) (fun h => ?_)
      · refine lv_iconst (v := (0 : Int32)) hx hb dX8_goes_110 (by decide) ?_
        refine lv_istore_n (lv' := [(3, .int (0 : Int32)), (2, .int v6), (0, .ref (a 30)), (1, .int p1), (4, .int x4)]) hx hb dX8_goes_111 rfl hl (by decide) rfl (fun ls hl => ?_)
        refine lv_iload_n hx hb dX8_goes_112 rfl (lv_at hl 0 rfl) ?_
        refine zi_eq (tgt := 139) hx hb dX8_goes_113 (by decide) h (fun h => ?_) (fun h => ?_)
        · refine lv_goto (tgt := 14) hx hb dX8_goes_139 (by decide) ?_
          exact hk14 ms_ so_ po_ wr_ to_ v6 (0 : Int32) h _ _ hP hD hS ls (lv_sub hl [2, 3, 1, 0] rfl)
        · refine lv_aload_n hx hb dX8_goes_116 rfl (lv_at hl 2 rfl) ?_
          refine lv_bipush (v := (59 : Int32)) hx hb dX8_goes_117 (by decide) ?_
          refine lv_bipush (v := (59 : Int32)) hx hb dX8_goes_119 (by decide) ?_
          obtain ⟨v10, po11, wr12, hc, h⟩ := zb3_s h
          refine zG_i (w1 := wX8 ct a ms_ ah hi kp sl sv pd ln so_ po11 wr12 to_) (ws' := wX8 ct a ms_ ah hi kp sl sv pd ln so_ po11 wr12 to_) hP hD hS hA [0, 1, 2, 3, 4, 5, 6, 7, 8] [] [0, 1, 2, 3, 4, 5, 6, 7, 8] rfl rfl (by decide) (by decide) rfl (by decide) (zrV (C := RX8) (As := [.int (59 : Int32), .int (59 : Int32)]) (rest := []) hx hb hml hown hts tw1131 mv_X8_takes ⟨Nat.le_of_ble_eq_true rfl, Nat.le_of_ble_eq_true rfl⟩ rfl rfl (ct_X8_takes l D ct a ms_ ah hi kp sl sv pd ln so_ po_ wr_ to_ _ (59 : Int32) (59 : Int32) k v10 po11 wr12 hc) (z_wv hK hP hD [0, 1, 2, 3, 4, 5, 6, 7, 8] (by decide) rfl 0 rfl rfl) hl.1 rfl rfl (Nat.le_of_ble_eq_true rfl) dX8_goes_121 ⟨Nat.le_refl _, Nat.le_refl _⟩) (fun H locs hP hD hS => ?_)
          refine lv_istore (lv' := [(5, .int v10), (3, .int (0 : Int32)), (2, .int v6), (0, .ref (a 30)), (1, .int p1), (4, .int x4)]) hx hb dX8_goes_124 hl (by decide) rfl (fun ls hl => ?_)
          refine lv_aload_n hx hb dX8_goes_126 rfl (lv_at hl 3 rfl) ?_
          refine z_get (C := RX8) (T := TX8) (N := 12) (ci := 7) hx hb hts zin_X8 hown hK.1 hP 0 10 rfl rfl (by decide) tw805 rfl rfl dX8_goes_127 ?_
          refine zi_ne (tgt := 137) hx hb dX8_goes_130 (by decide) h (fun h => ?_) (fun h => ?_)
          · refine lv_iconst (v := (0 : Int32)) hx hb dX8_goes_137 (by decide) ?_
            refine lv_istore_n (lv' := [(3, .int (0 : Int32)), (5, .int v10), (2, .int v6), (0, .ref (a 30)), (1, .int p1), (4, .int x4)]) hx hb dX8_goes_138 rfl hl (by decide) rfl (fun ls hl => ?_)
            refine lv_goto (tgt := 14) hx hb dX8_goes_139 (by decide) ?_
            exact hk14 ms_ so_ po11 wr12 to_ v6 (0 : Int32) h _ _ hP hD hS ls (lv_sub hl [3, 4, 2, 0] rfl)
          · refine lv_iconst (v := (1 : Int32)) hx hb dX8_goes_133 (by decide) ?_
            refine lv_goto (tgt := 138) hx hb dX8_goes_134 (by decide) ?_
            refine lv_istore_n (lv' := [(3, .int (1 : Int32)), (5, .int v10), (2, .int v6), (0, .ref (a 30)), (1, .int p1), (4, .int x4)]) hx hb dX8_goes_138 rfl hl (by decide) rfl (fun ls hl => ?_)
            refine lv_goto (tgt := 14) hx hb dX8_goes_139 (by decide) ?_
            exact hk14 ms_ so_ po11 wr12 to_ v6 (1 : Int32) h _ _ hP hD hS ls (lv_sub hl [3, 4, 2, 0] rfl)
      · refine lv_aload_n hx hb dX8_goes_95 rfl (lv_at hl 1 rfl) ?_
        refine z_get (C := RX8) (T := TX8) (N := 12) (ci := 7) hx hb hts zin_X8 hown hK.1 hP 0 9 rfl rfl (by decide) tw804 rfl rfl dX8_goes_96 ?_
        refine lv_aload_n hx hb dX8_goes_99 rfl (lv_at hl 1 rfl) ?_
        refine z_get (C := RX8) (T := TX8) (N := 12) (ci := 7) hx hb hts zin_X8 hown hK.1 hP 0 7 rfl rfl (by decide) tw802 rfl rfl dX8_goes_100 ?_
        refine zc_ge (tgt := 110) hx hb dX8_goes_103 (by decide) h (fun h => ?_) (fun h => ?_)
        · refine lv_iconst (v := (0 : Int32)) hx hb dX8_goes_110 (by decide) ?_
          refine lv_istore_n (lv' := [(3, .int (0 : Int32)), (2, .int v6), (0, .ref (a 30)), (1, .int p1), (4, .int x4)]) hx hb dX8_goes_111 rfl hl (by decide) rfl (fun ls hl => ?_)
          refine lv_iload_n hx hb dX8_goes_112 rfl (lv_at hl 0 rfl) ?_
          refine zi_eq (tgt := 139) hx hb dX8_goes_113 (by decide) h (fun h => ?_) (fun h => ?_)
          · refine lv_goto (tgt := 14) hx hb dX8_goes_139 (by decide) ?_
            exact hk14 ms_ so_ po_ wr_ to_ v6 (0 : Int32) h _ _ hP hD hS ls (lv_sub hl [2, 3, 1, 0] rfl)
          · refine lv_aload_n hx hb dX8_goes_116 rfl (lv_at hl 2 rfl) ?_
            refine lv_bipush (v := (59 : Int32)) hx hb dX8_goes_117 (by decide) ?_
            refine lv_bipush (v := (59 : Int32)) hx hb dX8_goes_119 (by decide) ?_
            obtain ⟨v13, po14, wr15, hc, h⟩ := zb3_s h
            refine zG_i (w1 := wX8 ct a ms_ ah hi kp sl sv pd ln so_ po14 wr15 to_) (ws' := wX8 ct a ms_ ah hi kp sl sv pd ln so_ po14 wr15 to_) hP hD hS hA [0, 1, 2, 3, 4, 5, 6, 7, 8] [] [0, 1, 2, 3, 4, 5, 6, 7, 8] rfl rfl (by decide) (by decide) rfl (by decide) (zrV (C := RX8) (As := [.int (59 : Int32), .int (59 : Int32)]) (rest := []) hx hb hml hown hts tw1131 mv_X8_takes ⟨Nat.le_of_ble_eq_true rfl, Nat.le_of_ble_eq_true rfl⟩ rfl rfl (ct_X8_takes l D ct a ms_ ah hi kp sl sv pd ln so_ po_ wr_ to_ _ (59 : Int32) (59 : Int32) k v13 po14 wr15 hc) (z_wv hK hP hD [0, 1, 2, 3, 4, 5, 6, 7, 8] (by decide) rfl 0 rfl rfl) hl.1 rfl rfl (Nat.le_of_ble_eq_true rfl) dX8_goes_121 ⟨Nat.le_refl _, Nat.le_refl _⟩) (fun H locs hP hD hS => ?_)
            refine lv_istore (lv' := [(5, .int v13), (3, .int (0 : Int32)), (2, .int v6), (0, .ref (a 30)), (1, .int p1), (4, .int x4)]) hx hb dX8_goes_124 hl (by decide) rfl (fun ls hl => ?_)
            refine lv_aload_n hx hb dX8_goes_126 rfl (lv_at hl 3 rfl) ?_
            refine z_get (C := RX8) (T := TX8) (N := 12) (ci := 7) hx hb hts zin_X8 hown hK.1 hP 0 10 rfl rfl (by decide) tw805 rfl rfl dX8_goes_127 ?_
            refine zi_ne (tgt := 137) hx hb dX8_goes_130 (by decide) h (fun h => ?_) (fun h => ?_)
            · refine lv_iconst (v := (0 : Int32)) hx hb dX8_goes_137 (by decide) ?_
              refine lv_istore_n (lv' := [(3, .int (0 : Int32)), (5, .int v13), (2, .int v6), (0, .ref (a 30)), (1, .int p1), (4, .int x4)]) hx hb dX8_goes_138 rfl hl (by decide) rfl (fun ls hl => ?_)
              refine lv_goto (tgt := 14) hx hb dX8_goes_139 (by decide) ?_
              exact hk14 ms_ so_ po14 wr15 to_ v6 (0 : Int32) h _ _ hP hD hS ls (lv_sub hl [3, 4, 2, 0] rfl)
            · refine lv_iconst (v := (1 : Int32)) hx hb dX8_goes_133 (by decide) ?_
              refine lv_goto (tgt := 138) hx hb dX8_goes_134 (by decide) ?_
              refine lv_istore_n (lv' := [(3, .int (1 : Int32)), (5, .int v13), (2, .int v6), (0, .ref (a 30)), (1, .int p1), (4, .int x4)]) hx hb dX8_goes_138 rfl hl (by decide) rfl (fun ls hl => ?_)
              refine lv_goto (tgt := 14) hx hb dX8_goes_139 (by decide) ?_
              exact hk14 ms_ so_ po14 wr15 to_ v6 (1 : Int32) h _ _ hP hD hS ls (lv_sub hl [3, 4, 2, 0] rfl)
        · refine lv_iconst (v := (1 : Int32)) hx hb dX8_goes_106 (by decide) ?_
          refine lv_goto (tgt := 111) hx hb dX8_goes_107 (by decide) ?_
          refine lv_istore_n (lv' := [(3, .int (1 : Int32)), (2, .int v6), (0, .ref (a 30)), (1, .int p1), (4, .int x4)]) hx hb dX8_goes_111 rfl hl (by decide) rfl (fun ls hl => ?_)
          refine lv_iload_n hx hb dX8_goes_112 rfl (lv_at hl 0 rfl) ?_
          refine zi_eq (tgt := 139) hx hb dX8_goes_113 (by decide) h (fun h => ?_) (fun h => ?_)
          · refine lv_goto (tgt := 14) hx hb dX8_goes_139 (by decide) ?_
            exact hk14 ms_ so_ po_ wr_ to_ v6 (1 : Int32) h _ _ hP hD hS ls (lv_sub hl [2, 3, 1, 0] rfl)
          · refine lv_aload_n hx hb dX8_goes_116 rfl (lv_at hl 2 rfl) ?_
            refine lv_bipush (v := (59 : Int32)) hx hb dX8_goes_117 (by decide) ?_
            refine lv_bipush (v := (59 : Int32)) hx hb dX8_goes_119 (by decide) ?_
            obtain ⟨v16, po17, wr18, hc, h⟩ := zb3_s h
            refine zG_i (w1 := wX8 ct a ms_ ah hi kp sl sv pd ln so_ po17 wr18 to_) (ws' := wX8 ct a ms_ ah hi kp sl sv pd ln so_ po17 wr18 to_) hP hD hS hA [0, 1, 2, 3, 4, 5, 6, 7, 8] [] [0, 1, 2, 3, 4, 5, 6, 7, 8] rfl rfl (by decide) (by decide) rfl (by decide) (zrV (C := RX8) (As := [.int (59 : Int32), .int (59 : Int32)]) (rest := []) hx hb hml hown hts tw1131 mv_X8_takes ⟨Nat.le_of_ble_eq_true rfl, Nat.le_of_ble_eq_true rfl⟩ rfl rfl (ct_X8_takes l D ct a ms_ ah hi kp sl sv pd ln so_ po_ wr_ to_ _ (59 : Int32) (59 : Int32) k v16 po17 wr18 hc) (z_wv hK hP hD [0, 1, 2, 3, 4, 5, 6, 7, 8] (by decide) rfl 0 rfl rfl) hl.1 rfl rfl (Nat.le_of_ble_eq_true rfl) dX8_goes_121 ⟨Nat.le_refl _, Nat.le_refl _⟩) (fun H locs hP hD hS => ?_)
            refine lv_istore (lv' := [(5, .int v16), (3, .int (1 : Int32)), (2, .int v6), (0, .ref (a 30)), (1, .int p1), (4, .int x4)]) hx hb dX8_goes_124 hl (by decide) rfl (fun ls hl => ?_)
            refine lv_aload_n hx hb dX8_goes_126 rfl (lv_at hl 3 rfl) ?_
            refine z_get (C := RX8) (T := TX8) (N := 12) (ci := 7) hx hb hts zin_X8 hown hK.1 hP 0 10 rfl rfl (by decide) tw805 rfl rfl dX8_goes_127 ?_
            refine zi_ne (tgt := 137) hx hb dX8_goes_130 (by decide) h (fun h => ?_) (fun h => ?_)
            · refine lv_iconst (v := (0 : Int32)) hx hb dX8_goes_137 (by decide) ?_
              refine lv_istore_n (lv' := [(3, .int (0 : Int32)), (5, .int v16), (2, .int v6), (0, .ref (a 30)), (1, .int p1), (4, .int x4)]) hx hb dX8_goes_138 rfl hl (by decide) rfl (fun ls hl => ?_)
              refine lv_goto (tgt := 14) hx hb dX8_goes_139 (by decide) ?_
              exact hk14 ms_ so_ po17 wr18 to_ v6 (0 : Int32) h _ _ hP hD hS ls (lv_sub hl [3, 4, 2, 0] rfl)
            · refine lv_iconst (v := (1 : Int32)) hx hb dX8_goes_133 (by decide) ?_
              refine lv_goto (tgt := 138) hx hb dX8_goes_134 (by decide) ?_
              refine lv_istore_n (lv' := [(3, .int (1 : Int32)), (5, .int v16), (2, .int v6), (0, .ref (a 30)), (1, .int p1), (4, .int x4)]) hx hb dX8_goes_138 rfl hl (by decide) rfl (fun ls hl => ?_)
              refine lv_goto (tgt := 14) hx hb dX8_goes_139 (by decide) ?_
              exact hk14 ms_ so_ po17 wr18 to_ v6 (1 : Int32) h _ _ hP hD hS ls (lv_sub hl [3, 4, 2, 0] rfl)
  have B68 : ∀ (k14 : (Nat → Int32) → (Nat → Int32) → Int32 → Int32 → (Nat → Int32) → Int32 → Int32 → Option (Int32 × (Nat → Int32) × (Nat → Int32) × Int32 × Int32 × (Nat → Int32))) (hk14 : ∀ (ms_ : Nat → Int32) (so_ : Nat → Int32) (po_ : Int32) (wr_ : Int32) (to_ : Nat → Int32) (x2 : Int32) (x3 : Int32), k14 ms_ so_ po_ wr_ to_ x2 x3 = some (r, ms', so', po', wr', to') → ∀ (H : Heap) (locs : List Loc), va_P D vwCl (wX8 ct a ms_ ah hi kp sl sv pd ln so_ po_ wr_ to_) H → va_D A (wX8 ct a ms_ ah hi kp sl sv pd ln so_ po_ wr_ to_) → va_S A s.heap H locs → ∀ (ls : Array Slot), lv_has ls 6 [(0, .ref (a 30)), (1, .int p1), (2, .int x2), (3, .int x3)] → W p l e ({ frames := 7, cells := 0, slots := 0, locals := 164 } : Room) s m ([.ref (a 30), .int p1] : List Value).toArray below meth c H locs 0 0 (MQ below (va_Qi (fun r' (_ : Unit) => r' = r) (zQW D (wX8 ct a ms ah hi kp sl sv pd ln so po wr to) s.heap.size (wX8 ct a ms' ah hi kp sl sv pd ln so' po' wr' to')) (va_A (wX8 ct a ms ah hi kp sl sv pd ln so po wr to) s.heap.size)) ([.ref (a 30), .int p1] : List Value).toArray s 0 0 (va_A (wX8 ct a ms ah hi kp sl sv pd ln so po wr to) s.heap.size)) (F0 m 14 ls [])), ∀ (ms_ : Nat → Int32) (so_ : Nat → Int32) (po_ : Int32) (wr_ : Int32) (to_ : Nat → Int32) (x2 : Int32) (y0 : Int32), f_X8_goes_b68 k pd ln p1 k14 ms_ so_ po_ wr_ to_ x2 y0 = some (r, ms', so', po', wr', to') → ∀ (H : Heap) (locs : List Loc), va_P D vwCl (wX8 ct a ms_ ah hi kp sl sv pd ln so_ po_ wr_ to_) H → va_D A (wX8 ct a ms_ ah hi kp sl sv pd ln so_ po_ wr_ to_) → va_S A s.heap H locs → ∀ (ls : Array Slot), lv_has ls 6 [(0, .ref (a 30)), (1, .int p1), (2, .int x2)] → W p l e ({ frames := 7, cells := 0, slots := 0, locals := 164 } : Room) s m ([.ref (a 30), .int p1] : List Value).toArray below meth c H locs 0 0 (MQ below (va_Qi (fun r' (_ : Unit) => r' = r) (zQW D (wX8 ct a ms ah hi kp sl sv pd ln so po wr to) s.heap.size (wX8 ct a ms' ah hi kp sl sv pd ln so' po' wr' to')) (va_A (wX8 ct a ms ah hi kp sl sv pd ln so po wr to) s.heap.size)) ([.ref (a 30), .int p1] : List Value).toArray s 0 0 (va_A (wX8 ct a ms ah hi kp sl sv pd ln so po wr to) s.heap.size)) (F0 m 68 ls [.int y0]) := by
    intro k14 hk14
    intro ms_ so_ po_ wr_ to_ x2 y0 h H locs hP hD hS ls hl
    rw [f_X8_goes_b68] at h
    refine lv_istore (lv' := [(4, .int y0), (0, .ref (a 30)), (1, .int p1), (2, .int x2)]) hx hb dX8_goes_68 hl (by decide) rfl (fun ls hl => ?_)
    refine lv_iload_n hx hb dX8_goes_70 rfl (lv_at hl 3 rfl) ?_
    refine lv_iload hx hb dX8_goes_71 (lv_at hl 0 rfl) ?_
    refine zi_eq (tgt := 80) hx hb dX8_goes_73 (by decide) h (fun h => ?_) (fun h => ?_)
    · refine lv_iconst (v := (0 : Int32)) hx hb dX8_goes_80 (by decide) ?_
      exact B81 (k14) hk14 ms_ so_ po_ wr_ to_ y0 (0 : Int32) x2 h _ _ hP hD hS ls (lv_sub hl [1, 2, 0] rfl)
    · refine lv_iconst (v := (1 : Int32)) hx hb dX8_goes_76 (by decide) ?_
      refine lv_goto (tgt := 81) hx hb dX8_goes_77 (by decide) ?_
      exact B81 (k14) hk14 ms_ so_ po_ wr_ to_ y0 (1 : Int32) x2 h _ _ hP hD hS ls (lv_sub hl [1, 2, 0] rfl)
  have B14 : ∀ (n : Nat), ∀ (ms_ : Nat → Int32) (so_ : Nat → Int32) (po_ : Int32) (wr_ : Int32) (to_ : Nat → Int32) (x2 : Int32) (x3 : Int32), f_X8_goes_b14 k pd ln p1 n ms_ so_ po_ wr_ to_ x2 x3 = some (r, ms', so', po', wr', to') → ∀ (H : Heap) (locs : List Loc), va_P D vwCl (wX8 ct a ms_ ah hi kp sl sv pd ln so_ po_ wr_ to_) H → va_D A (wX8 ct a ms_ ah hi kp sl sv pd ln so_ po_ wr_ to_) → va_S A s.heap H locs → ∀ (ls : Array Slot), lv_has ls 6 [(0, .ref (a 30)), (1, .int p1), (2, .int x2), (3, .int x3)] → W p l e ({ frames := 7, cells := 0, slots := 0, locals := 164 } : Room) s m ([.ref (a 30), .int p1] : List Value).toArray below meth c H locs 0 0 (MQ below (va_Qi (fun r' (_ : Unit) => r' = r) (zQW D (wX8 ct a ms ah hi kp sl sv pd ln so po wr to) s.heap.size (wX8 ct a ms' ah hi kp sl sv pd ln so' po' wr' to')) (va_A (wX8 ct a ms ah hi kp sl sv pd ln so po wr to) s.heap.size)) ([.ref (a 30), .int p1] : List Value).toArray s 0 0 (va_A (wX8 ct a ms ah hi kp sl sv pd ln so po wr to) s.heap.size)) (F0 m 14 ls []) := by
    intro n
    induction n with
    | zero => intro ms_ so_ po_ wr_ to_ x2 x3 h; exact absurd h (by rw [f_X8_goes_b14]; exact fun q => nomatch q)
    | succ n ih14 =>
      intro ms_ so_ po_ wr_ to_ x2 x3 h H locs hP hD hS ls hl
      rw [f_X8_goes_b14] at h
      refine lv_iload_n hx hb dX8_goes_14 rfl (lv_at hl 3 rfl) ?_
      refine zi_eq (tgt := 142) hx hb dX8_goes_15 (by decide) h (fun h => ?_) (fun h => ?_)
      · refine lv_iload_n hx hb dX8_goes_142 rfl (lv_at hl 2 rfl) ?_
        cases h
        exact zX_i hx hb hr hlocks hP hD hS hAe dX8_goes_143 rfl
      · refine lv_aload_n hx hb dX8_goes_18 rfl (lv_at hl 0 rfl) ?_
        obtain ⟨po3, wr4, to5, hc, h⟩ := zb3_s h
        refine zG_v (w1 := wX8 ct a ms_ ah hi kp sl sv pd ln so_ po3 wr4 to5) (ws' := wX8 ct a ms_ ah hi kp sl sv pd ln so_ po3 wr4 to5) hP hD hS hA [0, 1, 2, 3, 4, 5, 6, 7, 8] [] [0, 1, 2, 3, 4, 5, 6, 7, 8] rfl rfl (by decide) (by decide) rfl (by decide) (zrV (C := RX8) (As := []) (rest := []) hx hb hml hown hts tw1123 mv_X8_readOrder ⟨Nat.le_of_ble_eq_true rfl, Nat.le_of_ble_eq_true rfl⟩ rfl rfl (ct_X8_readOrder l D ct a ms_ ah hi kp sl sv pd ln so_ po_ wr_ to_ _  k po3 wr4 to5 hc) (z_wv hK hP hD [0, 1, 2, 3, 4, 5, 6, 7, 8] (by decide) rfl 0 rfl rfl) hl.1 rfl rfl (Nat.le_of_ble_eq_true rfl) dX8_goes_19 ⟨Nat.le_refl _, Nat.le_refl _⟩) (fun H locs hP hD hS => ?_)
        refine lv_iload_n hx hb dX8_goes_22 rfl (lv_at hl 1 rfl) ?_
        refine zi_eq (tgt := 63) hx hb dX8_goes_23 (by decide) h (fun h => ?_) (fun h => ?_)
        · refine lv_iconst (v := (1 : Int32)) hx hb dX8_goes_63 (by decide) ?_
          refine lv_goto (tgt := 68) hx hb dX8_goes_64 (by decide) ?_
          exact B68 (f_X8_goes_b14 k pd ln p1 n) ih14 ms_ so_ po3 wr4 to5 x2 (1 : Int32) h _ _ hP hD hS ls (lv_sub hl [0, 1, 2] rfl)
        · refine lv_aload_n hx hb dX8_goes_26 rfl (lv_at hl 0 rfl) ?_
          refine lv_aload_n hx hb dX8_goes_27 rfl (lv_at hl 0 rfl) ?_
          refine z_get (C := RX8) (T := TX8) (N := 12) (ci := 7) hx hb hts zin_X8 hown hK.1 hP 0 11 rfl rfl (by decide) tw806 rfl rfl dX8_goes_28 ?_
          refine lv_iconst (v := (0 : Int32)) hx hb dX8_goes_31 (by decide) ?_
          refine y_ialdc hx hb hK hP 8 0 0 rfl rfl (by decide) (by decide) h dX8_goes_32 (fun v19 h => ?_)
          refine lv_aload_n hx hb dX8_goes_33 rfl (lv_at hl 0 rfl) ?_
          refine z_get (C := RX8) (T := TX8) (N := 12) (ci := 7) hx hb hts zin_X8 hown hK.1 hP 0 11 rfl rfl (by decide) tw806 rfl rfl dX8_goes_34 ?_
          refine lv_iconst (v := (1 : Int32)) hx hb dX8_goes_37 (by decide) ?_
          refine y_ialdc hx hb hK hP 8 0 1 rfl rfl (by decide) (by decide) h dX8_goes_38 (fun v20 h => ?_)
          refine lv_aload_n hx hb dX8_goes_39 rfl (lv_at hl 0 rfl) ?_
          refine z_get (C := RX8) (T := TX8) (N := 12) (ci := 7) hx hb hts zin_X8 hown hK.1 hP 0 11 rfl rfl (by decide) tw806 rfl rfl dX8_goes_40 ?_
          refine lv_iconst (v := (2 : Int32)) hx hb dX8_goes_43 (by decide) ?_
          refine y_ialdc hx hb hK hP 8 0 2 rfl rfl (by decide) (by decide) h dX8_goes_44 (fun v21 h => ?_)
          refine lv_aload_n hx hb dX8_goes_45 rfl (lv_at hl 0 rfl) ?_
          refine z_get (C := RX8) (T := TX8) (N := 12) (ci := 7) hx hb hts zin_X8 hown hK.1 hP 0 11 rfl rfl (by decide) tw806 rfl rfl dX8_goes_46 ?_
          refine lv_iconst (v := (3 : Int32)) hx hb dX8_goes_49 (by decide) ?_
          refine y_ialdc hx hb hK hP 8 0 3 rfl rfl (by decide) (by decide) h dX8_goes_50 (fun v22 h => ?_)
          refine lv_aload_n hx hb dX8_goes_51 rfl (lv_at hl 0 rfl) ?_
          refine z_get (C := RX8) (T := TX8) (N := 12) (ci := 7) hx hb hts zin_X8 hown hK.1 hP 0 11 rfl rfl (by decide) tw806 rfl rfl dX8_goes_52 ?_
          refine lv_iconst (v := (4 : Int32)) hx hb dX8_goes_55 (by decide) ?_
          refine y_ialdc hx hb hK hP 8 0 4 rfl rfl (by decide) (by decide) h dX8_goes_56 (fun v23 h => ?_)
          obtain ⟨v24, ms25, so26, hc, h⟩ := zb3_s h
          refine zG_i (w1 := wX8 ct a ms25 ah hi kp sl sv pd ln so26 po3 wr4 to5) (ws' := wX8 ct a ms25 ah hi kp sl sv pd ln so26 po3 wr4 to5) hP hD hS hA [0, 1, 2, 3, 4, 5, 6, 7, 8] [] [0, 1, 2, 3, 4, 5, 6, 7, 8] rfl rfl (by decide) (by decide) rfl (by decide) (zrV (C := RX8) (As := [.int v19, .int v20, .int v21, .int v22, .int v23]) (rest := []) hx hb hml hown hts tw859 mv_X8_does ⟨Nat.le_of_ble_eq_true rfl, Nat.le_of_ble_eq_true rfl⟩ rfl rfl (ct_X8_does l D ct a ms_ ah hi kp sl sv pd ln so_ po3 wr4 to5 _ v19 v20 v21 v22 v23 k v24 ms25 so26 hc) (z_wv hK hP hD [0, 1, 2, 3, 4, 5, 6, 7, 8] (by decide) rfl 0 rfl rfl) hl.1 rfl rfl (Nat.le_of_ble_eq_true rfl) dX8_goes_57 ⟨Nat.le_refl _, Nat.le_refl _⟩) (fun H locs hP hD hS => ?_)
          refine zi_lt (tgt := 67) hx hb dX8_goes_60 (by decide) h (fun h => ?_) (fun h => ?_)
          · refine lv_iconst (v := (0 : Int32)) hx hb dX8_goes_67 (by decide) ?_
            exact B68 (f_X8_goes_b14 k pd ln p1 n) ih14 ms25 so26 po3 wr4 to5 x2 (0 : Int32) h _ _ hP hD hS ls (lv_sub hl [0, 1, 2] rfl)
          · refine lv_iconst (v := (1 : Int32)) hx hb dX8_goes_63 (by decide) ?_
            refine lv_goto (tgt := 68) hx hb dX8_goes_64 (by decide) ?_
            exact B68 (f_X8_goes_b14 k pd ln p1 n) ih14 ms25 so26 po3 wr4 to5 x2 (1 : Int32) h _ _ hP hD hS ls (lv_sub hl [0, 1, 2] rfl)
  rw [f_X8_goes] at h
  refine lv_aload_n hx hb dX8_goes_0 rfl (lv_at hl 0 rfl) ?_
  refine lv_iconst (v := (0 : Int32)) hx hb dX8_goes_1 (by decide) ?_
  refine z_puti (C := RX8) (T := TX8) (N := 12) (ci := 7) hx hb hts zin_X8 tyX8 tyX8_ok nmX8 hown hK.1 hP hD hS 0 9 rfl rfl (by decide) tw804 rfl rfl (by decide +kernel) (Nat.le_of_ble_eq_true rfl) h dX8_goes_2 (fun po1 H locs h hP hD hS => ?_)
  have hP : va_P D vwCl (wX8 ct a ms ah hi kp sl sv pd ln so po1 wr to) H := hP
  have hD : va_D A (wX8 ct a ms ah hi kp sl sv pd ln so po1 wr to) := hD
  refine lv_aload_n hx hb dX8_goes_5 rfl (lv_at hl 0 rfl) ?_
  refine lv_iconst (v := (0 : Int32)) hx hb dX8_goes_6 (by decide) ?_
  refine z_putz (C := RX8) (T := TX8) (N := 12) (ci := 7) hx hb hts zin_X8 tyX8 tyX8_ok nmX8 hown hK.1 hP hD hS 0 10 rfl rfl (by decide) tw805 rfl rfl (by decide +kernel) (Nat.le_of_ble_eq_true rfl) h dX8_goes_7 (fun wr2 H locs h hP hD hS => ?_)
  have hP : va_P D vwCl (wX8 ct a ms ah hi kp sl sv pd ln so po1 wr2 to) H := hP
  have hD : va_D A (wX8 ct a ms ah hi kp sl sv pd ln so po1 wr2 to) := hD
  refine lv_iconst (v := (0 : Int32)) hx hb dX8_goes_10 (by decide) ?_
  refine lv_istore_n (lv' := [(2, .int (0 : Int32)), (0, .ref (a 30)), (1, .int p1)]) hx hb dX8_goes_11 rfl hl (by decide) rfl (fun ls hl => ?_)
  refine lv_iconst (v := (1 : Int32)) hx hb dX8_goes_12 (by decide) ?_
  refine lv_istore_n (lv' := [(3, .int (1 : Int32)), (2, .int (0 : Int32)), (0, .ref (a 30)), (1, .int p1)]) hx hb dX8_goes_13 rfl hl (by decide) rfl (fun ls hl => ?_)
  exact B14 k ms so po1 wr2 to (0 : Int32) (1 : Int32) h _ _ hP hD hS ls (lv_sub hl [2, 3, 1, 0] rfl)

def f_X8_fault (k : Nat) (ms : Nat → Int32) (pd : Nat → Int32) (ln : Int32) (so : Nat → Int32) (po : Int32) (wr : Int32) (to : Nat → Int32) : Option (Int32 × (Nat → Int32) × (Nat → Int32) × Int32 × Int32 × (Nat → Int32)) :=
  zb6 (f_X8_goes k ms pd ln so po wr to (0 : Int32)) fun v1 ms2 so3 po4 wr5 to6 =>
  if wr5 = 0 then
    some ((-6 : Int32), ms2, so3, po4, wr5, to6)
  else
    some (po4, ms2, so3, po4, wr5, to6)
set_option maxRecDepth 100000 in
set_option maxHeartbeats 4000000 in
theorem ct_X8_fault (l : Launch) (D : va_G) (ct a : Nat → Nat) (ms : Nat → Int32) (ah : Nat → Int32) (hi : Nat → Int32) (kp : Int32) (sl : Nat → Int32) (sv : Nat → Int32) (pd : Nat → Int32) (ln : Int32) (so : Nat → Int32) (po : Int32) (wr : Int32) (to : Nat → Int32) (sz : Nat) (k : Nat) (r : Int32) (ms' : Nat → Int32) (so' : Nat → Int32) (po' : Int32) (wr' : Int32) (to' : Nat → Int32) (h : f_X8_fault k ms pd ln so po wr to = some (r, ms', so', po', wr', to')) : Met l yX8_fault (Cond.code yX8_fault cX8_fault 2 (some .int) :: zT) ({ frames := 8, cells := 0, slots := 0, locals := 189 } : Room) (va_Pc [.ref (a 30)] (zPW D (zTys ct) (wX8 ct a ms ah hi kp sl sv pd ln so po wr to) sz)) (va_Qi (fun r' (_ : Unit) => r' = r) (zQW D (wX8 ct a ms ah hi kp sl sv pd ln so po wr to) sz (wX8 ct a ms' ah hi kp sl sv pd ln so' po' wr' to')) (va_A (wX8 ct a ms ah hi kp sl sv pd ln so po wr to) sz)) 0 0 (va_A (wX8 ct a ms ah hi kp sl sv pd ln so po wr to) sz) := by
  refine zMet (cc := cX8_fault) (maxL := 2) (ret := (some .int)) (av := [.ref (a 30)]) (by decide) (Nat.le_of_ble_eq_true rfl) (fun p e s m below meth c ls hx hb hr hml hts hown hlocks hin hB hl => ?_)
  have hl : lv_has ls 2 [(0, .ref (a 30))] := hl
  have hown : s.vm.findClass RX8 = some m.cls := hown
  obtain ⟨hsz, hP, hK, hD0⟩ := hB
  subst hsz
  have hD := hD0.self (sz := s.heap.size)
  obtain ⟨A, hAe⟩ : ∃ A, A = va_A (wX8 ct a ms ah hi kp sl sv pd ln so po wr to) s.heap.size := ⟨_, rfl⟩
  rw [← hAe] at hD
  have hA : ∀ q : Nat, s.heap.size ≤ q → A q := fun q h => by rw [hAe]; exact Or.inr h
  have hS : va_S A s.heap s.heap [] := va_S.rf
  rw [f_X8_fault] at h
  refine lv_aload_n hx hb dX8_fault_0 rfl (lv_at hl 0 rfl) ?_
  refine lv_iconst (v := (0 : Int32)) hx hb dX8_fault_1 (by decide) ?_
  obtain ⟨v1, ms2, so3, po4, wr5, to6, hc, h⟩ := zb6_s h
  refine zG_i (w1 := wX8 ct a ms2 ah hi kp sl sv pd ln so3 po4 wr5 to6) (ws' := wX8 ct a ms2 ah hi kp sl sv pd ln so3 po4 wr5 to6) hP hD hS hA [0, 1, 2, 3, 4, 5, 6, 7, 8] [] [0, 1, 2, 3, 4, 5, 6, 7, 8] rfl rfl (by decide) (by decide) rfl (by decide) (zrV (C := RX8) (As := [.int (0 : Int32)]) (rest := []) hx hb hml hown hts tw1119 mv_X8_goes ⟨Nat.le_of_ble_eq_true rfl, Nat.le_of_ble_eq_true rfl⟩ rfl rfl (ct_X8_goes l D ct a ms ah hi kp sl sv pd ln so po wr to _ (0 : Int32) k v1 ms2 so3 po4 wr5 to6 hc) (z_wv hK hP hD [0, 1, 2, 3, 4, 5, 6, 7, 8] (by decide) rfl 0 rfl rfl) hl.1 rfl rfl (Nat.le_of_ble_eq_true rfl) dX8_fault_2 ⟨Nat.le_refl _, Nat.le_refl _⟩) (fun H locs hP hD hS => ?_)
  refine lv_istore_n (lv' := [(1, .int v1), (0, .ref (a 30))]) hx hb dX8_fault_5 rfl hl (by decide) rfl (fun ls hl => ?_)
  refine lv_aload_n hx hb dX8_fault_6 rfl (lv_at hl 1 rfl) ?_
  refine z_get (C := RX8) (T := TX8) (N := 12) (ci := 7) hx hb hts zin_X8 hown hK.1 hP 0 10 rfl rfl (by decide) tw805 rfl rfl dX8_fault_7 ?_
  refine zi_eq (tgt := 20) hx hb dX8_fault_10 (by decide) h (fun h => ?_) (fun h => ?_)
  · refine lv_bipush (v := (-6 : Int32)) hx hb dX8_fault_20 (by decide) ?_
    cases h
    exact zX_i hx hb hr hlocks hP hD hS hAe dX8_fault_22 rfl
  · refine lv_aload_n hx hb dX8_fault_13 rfl (lv_at hl 1 rfl) ?_
    refine z_get (C := RX8) (T := TX8) (N := 12) (ci := 7) hx hb hts zin_X8 hown hK.1 hP 0 9 rfl rfl (by decide) tw804 rfl rfl dX8_fault_14 ?_
    refine lv_goto (tgt := 22) hx hb dX8_fault_17 (by decide) ?_
    cases h
    exact zX_i hx hb hr hlocks hP hD hS hAe dX8_fault_22 rfl

def f_X8_carryOut (k : Nat) (ms : Nat → Int32) (ah : Nat → Int32) (hi : Nat → Int32) (kp : Int32) (pd : Nat → Int32) (ln : Int32) (so : Nat → Int32) (po : Int32) (wr : Int32) (to : Nat → Int32) : Option (Int32 × (Nat → Int32) × (Nat → Int32) × (Nat → Int32) × Int32 × Int32 × (Nat → Int32) × Int32 × Int32 × (Nat → Int32)) :=
  zb6 (f_X8_goes k ms pd ln so po wr to (0 : Int32)) fun v1 ms2 so3 po4 wr5 to6 =>
  if wr5 = 0 then
    zb1 (f_X8_looks k ms2 ah) fun ah7 =>
    zb2 (f_X8_records k ah7 hi kp) fun hi8 kp9 =>
    zb6 (f_X8_goes k ms2 pd ln so3 po4 wr5 to6 (1 : Int32)) fun v10 ms11 so12 po13 wr14 to15 =>
    zl (0 : Int32) fun ln16 =>
    some (v10, ms11, ah7, hi8, kp9, ln16, so12, po13, wr14, to15)
  else
    some ((-3 : Int32), ms2, ah, hi, kp, ln, so3, po4, wr5, to6)
set_option maxRecDepth 100000 in
set_option maxHeartbeats 4000000 in
theorem ct_X8_carryOut (l : Launch) (D : va_G) (ct a : Nat → Nat) (ms : Nat → Int32) (ah : Nat → Int32) (hi : Nat → Int32) (kp : Int32) (sl : Nat → Int32) (sv : Nat → Int32) (pd : Nat → Int32) (ln : Int32) (so : Nat → Int32) (po : Int32) (wr : Int32) (to : Nat → Int32) (sz : Nat) (k : Nat) (r : Int32) (ms' : Nat → Int32) (ah' : Nat → Int32) (hi' : Nat → Int32) (kp' : Int32) (ln' : Int32) (so' : Nat → Int32) (po' : Int32) (wr' : Int32) (to' : Nat → Int32) (h : f_X8_carryOut k ms ah hi kp pd ln so po wr to = some (r, ms', ah', hi', kp', ln', so', po', wr', to')) : Met l yX8_carryOut (Cond.code yX8_carryOut cX8_carryOut 3 (some .int) :: zT) ({ frames := 8, cells := 0, slots := 0, locals := 189 } : Room) (va_Pc [.ref (a 30)] (zPW D (zTys ct) (wX8 ct a ms ah hi kp sl sv pd ln so po wr to) sz)) (va_Qi (fun r' (_ : Unit) => r' = r) (zQW D (wX8 ct a ms ah hi kp sl sv pd ln so po wr to) sz (wX8 ct a ms' ah' hi' kp' sl sv pd ln' so' po' wr' to')) (va_A (wX8 ct a ms ah hi kp sl sv pd ln so po wr to) sz)) 0 0 (va_A (wX8 ct a ms ah hi kp sl sv pd ln so po wr to) sz) := by
  refine zMet (cc := cX8_carryOut) (maxL := 3) (ret := (some .int)) (av := [.ref (a 30)]) (by decide) (Nat.le_of_ble_eq_true rfl) (fun p e s m below meth c ls hx hb hr hml hts hown hlocks hin hB hl => ?_)
  have hl : lv_has ls 3 [(0, .ref (a 30))] := hl
  have hown : s.vm.findClass RX8 = some m.cls := hown
  obtain ⟨hsz, hP, hK, hD0⟩ := hB
  subst hsz
  have hD := hD0.self (sz := s.heap.size)
  obtain ⟨A, hAe⟩ : ∃ A, A = va_A (wX8 ct a ms ah hi kp sl sv pd ln so po wr to) s.heap.size := ⟨_, rfl⟩
  rw [← hAe] at hD
  have hA : ∀ q : Nat, s.heap.size ≤ q → A q := fun q h => by rw [hAe]; exact Or.inr h
  have hS : va_S A s.heap s.heap [] := va_S.rf
  rw [f_X8_carryOut] at h
  refine lv_aload_n hx hb dX8_carryOut_0 rfl (lv_at hl 0 rfl) ?_
  refine lv_iconst (v := (0 : Int32)) hx hb dX8_carryOut_1 (by decide) ?_
  obtain ⟨v1, ms2, so3, po4, wr5, to6, hc, h⟩ := zb6_s h
  refine zG_i (w1 := wX8 ct a ms2 ah hi kp sl sv pd ln so3 po4 wr5 to6) (ws' := wX8 ct a ms2 ah hi kp sl sv pd ln so3 po4 wr5 to6) hP hD hS hA [0, 1, 2, 3, 4, 5, 6, 7, 8] [] [0, 1, 2, 3, 4, 5, 6, 7, 8] rfl rfl (by decide) (by decide) rfl (by decide) (zrV (C := RX8) (As := [.int (0 : Int32)]) (rest := []) hx hb hml hown hts tw1119 mv_X8_goes ⟨Nat.le_of_ble_eq_true rfl, Nat.le_of_ble_eq_true rfl⟩ rfl rfl (ct_X8_goes l D ct a ms ah hi kp sl sv pd ln so po wr to _ (0 : Int32) k v1 ms2 so3 po4 wr5 to6 hc) (z_wv hK hP hD [0, 1, 2, 3, 4, 5, 6, 7, 8] (by decide) rfl 0 rfl rfl) hl.1 rfl rfl (Nat.le_of_ble_eq_true rfl) dX8_carryOut_2 ⟨Nat.le_refl _, Nat.le_refl _⟩) (fun H locs hP hD hS => ?_)
  refine lv_istore_n (lv' := [(1, .int v1), (0, .ref (a 30))]) hx hb dX8_carryOut_5 rfl hl (by decide) rfl (fun ls hl => ?_)
  refine lv_aload_n hx hb dX8_carryOut_6 rfl (lv_at hl 1 rfl) ?_
  refine z_get (C := RX8) (T := TX8) (N := 12) (ci := 7) hx hb hts zin_X8 hown hK.1 hP 0 10 rfl rfl (by decide) tw805 rfl rfl dX8_carryOut_7 ?_
  refine zi_eq (tgt := 16) hx hb dX8_carryOut_10 (by decide) h (fun h => ?_) (fun h => ?_)
  · refine lv_aload_n hx hb dX8_carryOut_16 rfl (lv_at hl 1 rfl) ?_
    obtain ⟨ah7, hc, h⟩ := zb1_s h
    refine zG_v (w1 := wX8 ct a ms2 ah7 hi kp sl sv pd ln so3 po4 wr5 to6) (ws' := wX8 ct a ms2 ah7 hi kp sl sv pd ln so3 po4 wr5 to6) hP hD hS hA [0, 1, 2, 3, 4, 5, 6, 7, 8] [] [0, 1, 2, 3, 4, 5, 6, 7, 8] rfl rfl (by decide) (by decide) rfl (by decide) (zrV (C := RX8) (As := []) (rest := []) hx hb hml hown hts tw843 mv_X8_looks ⟨Nat.le_of_ble_eq_true rfl, Nat.le_of_ble_eq_true rfl⟩ rfl rfl (ct_X8_looks l D ct a ms2 ah hi kp sl sv pd ln so3 po4 wr5 to6 _  k ah7 hc) (z_wv hK hP hD [0, 1, 2, 3, 4, 5, 6, 7, 8] (by decide) rfl 0 rfl rfl) hl.1 rfl rfl (Nat.le_of_ble_eq_true rfl) dX8_carryOut_17 ⟨Nat.le_refl _, Nat.le_refl _⟩) (fun H locs hP hD hS => ?_)
    refine lv_aload_n hx hb dX8_carryOut_20 rfl (lv_at hl 1 rfl) ?_
    obtain ⟨hi8, kp9, hc, h⟩ := zb2_s h
    refine zG_v (w1 := wX8 ct a ms2 ah7 hi8 kp9 sl sv pd ln so3 po4 wr5 to6) (ws' := wX8 ct a ms2 ah7 hi8 kp9 sl sv pd ln so3 po4 wr5 to6) hP hD hS hA [0, 1, 2, 3, 4, 5, 6, 7, 8] [] [0, 1, 2, 3, 4, 5, 6, 7, 8] rfl rfl (by decide) (by decide) rfl (by decide) (zrV (C := RX8) (As := []) (rest := []) hx hb hml hown hts tw847 mv_X8_records ⟨Nat.le_of_ble_eq_true rfl, Nat.le_of_ble_eq_true rfl⟩ rfl rfl (ct_X8_records l D ct a ms2 ah7 hi kp sl sv pd ln so3 po4 wr5 to6 _  k hi8 kp9 hc) (z_wv hK hP hD [0, 1, 2, 3, 4, 5, 6, 7, 8] (by decide) rfl 0 rfl rfl) hl.1 rfl rfl (Nat.le_of_ble_eq_true rfl) dX8_carryOut_21 ⟨Nat.le_refl _, Nat.le_refl _⟩) (fun H locs hP hD hS => ?_)
    refine lv_aload_n hx hb dX8_carryOut_24 rfl (lv_at hl 1 rfl) ?_
    refine lv_iconst (v := (1 : Int32)) hx hb dX8_carryOut_25 (by decide) ?_
    obtain ⟨v10, ms11, so12, po13, wr14, to15, hc, h⟩ := zb6_s h
    refine zG_i (w1 := wX8 ct a ms11 ah7 hi8 kp9 sl sv pd ln so12 po13 wr14 to15) (ws' := wX8 ct a ms11 ah7 hi8 kp9 sl sv pd ln so12 po13 wr14 to15) hP hD hS hA [0, 1, 2, 3, 4, 5, 6, 7, 8] [] [0, 1, 2, 3, 4, 5, 6, 7, 8] rfl rfl (by decide) (by decide) rfl (by decide) (zrV (C := RX8) (As := [.int (1 : Int32)]) (rest := []) hx hb hml hown hts tw1119 mv_X8_goes ⟨Nat.le_of_ble_eq_true rfl, Nat.le_of_ble_eq_true rfl⟩ rfl rfl (ct_X8_goes l D ct a ms2 ah7 hi8 kp9 sl sv pd ln so3 po4 wr5 to6 _ (1 : Int32) k v10 ms11 so12 po13 wr14 to15 hc) (z_wv hK hP hD [0, 1, 2, 3, 4, 5, 6, 7, 8] (by decide) rfl 0 rfl rfl) hl.1 rfl rfl (Nat.le_of_ble_eq_true rfl) dX8_carryOut_26 ⟨Nat.le_refl _, Nat.le_refl _⟩) (fun H locs hP hD hS => ?_)
    refine lv_istore_n (lv' := [(2, .int v10), (1, .int v1), (0, .ref (a 30))]) hx hb dX8_carryOut_29 rfl hl (by decide) rfl (fun ls hl => ?_)
    refine lv_aload_n hx hb dX8_carryOut_30 rfl (lv_at hl 2 rfl) ?_
    refine lv_iconst (v := (0 : Int32)) hx hb dX8_carryOut_31 (by decide) ?_
    refine z_puti (C := RX8) (T := TX8) (N := 12) (ci := 7) hx hb hts zin_X8 tyX8 tyX8_ok nmX8 hown hK.1 hP hD hS 0 7 rfl rfl (by decide) tw802 rfl rfl (by decide +kernel) (Nat.le_of_ble_eq_true rfl) h dX8_carryOut_32 (fun ln16 H locs h hP hD hS => ?_)
    have hP : va_P D vwCl (wX8 ct a ms11 ah7 hi8 kp9 sl sv pd ln16 so12 po13 wr14 to15) H := hP
    have hD : va_D A (wX8 ct a ms11 ah7 hi8 kp9 sl sv pd ln16 so12 po13 wr14 to15) := hD
    refine lv_iload_n hx hb dX8_carryOut_35 rfl (lv_at hl 0 rfl) ?_
    cases h
    exact zX_i hx hb hr hlocks hP hD hS hAe dX8_carryOut_36 rfl
  · refine lv_bipush (v := (-3 : Int32)) hx hb dX8_carryOut_13 (by decide) ?_
    cases h
    exact zX_i hx hb hr hlocks hP hD hS hAe dX8_carryOut_15 rfl

def f_X8_undo_b22 (k : Nat) (hi : Nat → Int32)  : Nat → (Nat → Int32) → Int32 → Int32 → Option (Int32 × (Nat → Int32) × Int32)
  | 0, _, _, _ => none
  | n + 1, ms_, kp_, x1 =>
    if (324 : Int32) ≤ x1 then
      some (kp_, ms_, kp_)
    else
      zl ((324 : Int32) * kp_) fun v3 =>
      zl (v3 + x1) fun v4 =>
      zg (zin v4 1944) (zl (hi v4.toNatClampNeg) fun v5 =>
      zg (zin x1 324) (zl (upd ms_ x1.toNatClampNeg v5) fun ms6 =>
      zl (x1 + (1 : Int32)) fun v7 =>
      f_X8_undo_b22 k hi n ms6 kp_ v7))
def f_X8_undo (k : Nat) (ms : Nat → Int32) (hi : Nat → Int32) (kp : Int32) : Option (Int32 × (Nat → Int32) × Int32) :=
  if kp = 0 then
    some ((-5 : Int32), ms, kp)
  else
    zl (kp - (1 : Int32)) fun v1 =>
    zl v1 fun kp2 =>
    f_X8_undo_b22 k hi k ms kp2 (0 : Int32)
set_option maxRecDepth 100000 in
set_option maxHeartbeats 4000000 in
theorem ct_X8_undo (l : Launch) (D : va_G) (ct a : Nat → Nat) (ms : Nat → Int32) (ah : Nat → Int32) (hi : Nat → Int32) (kp : Int32) (sl : Nat → Int32) (sv : Nat → Int32) (pd : Nat → Int32) (ln : Int32) (so : Nat → Int32) (po : Int32) (wr : Int32) (to : Nat → Int32) (sz : Nat) (k : Nat) (r : Int32) (ms' : Nat → Int32) (kp' : Int32) (h : f_X8_undo k ms hi kp = some (r, ms', kp')) : Met l yX8_undo (Cond.code yX8_undo cX8_undo 2 (some .int) :: zT) ({ frames := 0, cells := 0, slots := 0, locals := 0 } : Room) (va_Pc [.ref (a 30)] (zPW D (zTys ct) (wX8 ct a ms ah hi kp sl sv pd ln so po wr to) sz)) (va_Qi (fun r' (_ : Unit) => r' = r) (zQW D (wX8 ct a ms ah hi kp sl sv pd ln so po wr to) sz (wX8 ct a ms' ah hi kp' sl sv pd ln so po wr to)) (va_A (wX8 ct a ms ah hi kp sl sv pd ln so po wr to) sz)) 0 0 (va_A (wX8 ct a ms ah hi kp sl sv pd ln so po wr to) sz) := by
  refine zMet (cc := cX8_undo) (maxL := 2) (ret := (some .int)) (av := [.ref (a 30)]) (by decide) (Nat.le_of_ble_eq_true rfl) (fun p e s m below meth c ls hx hb hr hml hts hown hlocks hin hB hl => ?_)
  have hl : lv_has ls 2 [(0, .ref (a 30))] := hl
  have hown : s.vm.findClass RX8 = some m.cls := hown
  obtain ⟨hsz, hP, hK, hD0⟩ := hB
  subst hsz
  have hD := hD0.self (sz := s.heap.size)
  obtain ⟨A, hAe⟩ : ∃ A, A = va_A (wX8 ct a ms ah hi kp sl sv pd ln so po wr to) s.heap.size := ⟨_, rfl⟩
  rw [← hAe] at hD
  have hA : ∀ q : Nat, s.heap.size ≤ q → A q := fun q h => by rw [hAe]; exact Or.inr h
  have hS : va_S A s.heap s.heap [] := va_S.rf
  have B22 : ∀ (n : Nat), ∀ (ms_ : Nat → Int32) (kp_ : Int32) (x1 : Int32), f_X8_undo_b22 k hi n ms_ kp_ x1 = some (r, ms', kp') → ∀ (H : Heap) (locs : List Loc), va_P D vwCl (wX8 ct a ms_ ah hi kp_ sl sv pd ln so po wr to) H → va_D A (wX8 ct a ms_ ah hi kp_ sl sv pd ln so po wr to) → va_S A s.heap H locs → ∀ (ls : Array Slot), lv_has ls 2 [(0, .ref (a 30)), (1, .int x1)] → W p l e ({ frames := 0, cells := 0, slots := 0, locals := 0 } : Room) s m ([.ref (a 30)] : List Value).toArray below meth c H locs 0 0 (MQ below (va_Qi (fun r' (_ : Unit) => r' = r) (zQW D (wX8 ct a ms ah hi kp sl sv pd ln so po wr to) s.heap.size (wX8 ct a ms' ah hi kp' sl sv pd ln so po wr to)) (va_A (wX8 ct a ms ah hi kp sl sv pd ln so po wr to) s.heap.size)) ([.ref (a 30)] : List Value).toArray s 0 0 (va_A (wX8 ct a ms ah hi kp sl sv pd ln so po wr to) s.heap.size)) (F0 m 22 ls []) := by
    intro n
    induction n with
    | zero => intro ms_ kp_ x1 h; exact absurd h (by rw [f_X8_undo_b22]; exact fun q => nomatch q)
    | succ n ih22 =>
      intro ms_ kp_ x1 h H locs hP hD hS ls hl
      rw [f_X8_undo_b22] at h
      refine lv_iload_n hx hb dX8_undo_22 rfl (lv_at hl 1 rfl) ?_
      refine lv_sipush (v := (324 : Int32)) hx hb dX8_undo_23 (by decide) ?_
      refine zc_ge (tgt := 56) hx hb dX8_undo_26 (by decide) h (fun h => ?_) (fun h => ?_)
      · refine lv_aload_n hx hb dX8_undo_56 rfl (lv_at hl 0 rfl) ?_
        refine z_get (C := RX8) (T := TX8) (N := 12) (ci := 7) hx hb hts zin_X8 hown hK.1 hP 0 3 rfl rfl (by decide) tw798 rfl rfl dX8_undo_57 ?_
        cases h
        exact zX_i hx hb hr hlocks hP hD hS hAe dX8_undo_60 rfl
      · refine lv_aload_n hx hb dX8_undo_29 rfl (lv_at hl 0 rfl) ?_
        refine z_get (C := RX8) (T := TX8) (N := 12) (ci := 7) hx hb hts zin_X8 hown hK.1 hP 0 0 rfl rfl (by decide) tw795 rfl rfl dX8_undo_30 ?_
        refine lv_iload_n hx hb dX8_undo_33 rfl (lv_at hl 1 rfl) ?_
        refine lv_aload_n hx hb dX8_undo_34 rfl (lv_at hl 0 rfl) ?_
        refine z_get (C := RX8) (T := TX8) (N := 12) (ci := 7) hx hb hts zin_X8 hown hK.1 hP 0 2 rfl rfl (by decide) tw797 rfl rfl dX8_undo_35 ?_
        refine lv_sipush (v := (324 : Int32)) hx hb dX8_undo_38 (by decide) ?_
        refine lv_aload_n hx hb dX8_undo_41 rfl (lv_at hl 0 rfl) ?_
        refine z_get (C := RX8) (T := TX8) (N := 12) (ci := 7) hx hb hts zin_X8 hown hK.1 hP 0 3 rfl rfl (by decide) tw798 rfl rfl dX8_undo_42 ?_
        refine o_imul hx hb dX8_undo_45 h (fun v3 h => ?_)
        refine lv_iload_n hx hb dX8_undo_46 rfl (lv_at hl 1 rfl) ?_
        refine o_iadd hx hb dX8_undo_47 h (fun v4 h => ?_)
        refine y_iald hx hb hK hP 3 0 rfl rfl h dX8_undo_48 (fun v5 h => ?_)
        refine z_iast hx hb hK.1 hP hD hS 1 0 rfl rfl h dX8_undo_49 (fun ms6 H locs h hP hD hS => ?_)
        have hP : va_P D vwCl (wX8 ct a ms6 ah hi kp_ sl sv pd ln so po wr to) H := hP
        have hD : va_D A (wX8 ct a ms6 ah hi kp_ sl sv pd ln so po wr to) := hD
        refine o_nm h (fun v7 ey h => ?_)
        refine lv_iinc (v := v7) (lv' := [(1, .int v7), (0, .ref (a 30))]) hx hb dX8_undo_50 hl (k := 1) rfl (Eq.trans rfl ey) (by decide) rfl (fun ls hl => ?_)
        refine lv_goto (tgt := 22) hx hb dX8_undo_53 (by decide) ?_
        exact ih22 ms6 kp_ v7 h _ _ hP hD hS ls (lv_sub hl [1, 0] rfl)
  rw [f_X8_undo] at h
  refine lv_aload_n hx hb dX8_undo_0 rfl (lv_at hl 0 rfl) ?_
  refine z_get (C := RX8) (T := TX8) (N := 12) (ci := 7) hx hb hts zin_X8 hown hK.1 hP 0 3 rfl rfl (by decide) tw798 rfl rfl dX8_undo_1 ?_
  refine zi_ne (tgt := 10) hx hb dX8_undo_4 (by decide) h (fun h => ?_) (fun h => ?_)
  · refine lv_aload_n hx hb dX8_undo_10 rfl (lv_at hl 0 rfl) ?_
    refine lv_dup hx hb dX8_undo_11 rfl ?_
    refine z_get (C := RX8) (T := TX8) (N := 12) (ci := 7) hx hb hts zin_X8 hown hK.1 hP 0 3 rfl rfl (by decide) tw798 rfl rfl dX8_undo_12 ?_
    refine lv_iconst (v := (1 : Int32)) hx hb dX8_undo_15 (by decide) ?_
    refine o_isub hx hb dX8_undo_16 h (fun v1 h => ?_)
    refine z_puti (C := RX8) (T := TX8) (N := 12) (ci := 7) hx hb hts zin_X8 tyX8 tyX8_ok nmX8 hown hK.1 hP hD hS 0 3 rfl rfl (by decide) tw798 rfl rfl (by decide +kernel) (Nat.le_of_ble_eq_true rfl) h dX8_undo_17 (fun kp2 H locs h hP hD hS => ?_)
    have hP : va_P D vwCl (wX8 ct a ms ah hi kp2 sl sv pd ln so po wr to) H := hP
    have hD : va_D A (wX8 ct a ms ah hi kp2 sl sv pd ln so po wr to) := hD
    refine lv_iconst (v := (0 : Int32)) hx hb dX8_undo_20 (by decide) ?_
    refine lv_istore_n (lv' := [(1, .int (0 : Int32)), (0, .ref (a 30))]) hx hb dX8_undo_21 rfl hl (by decide) rfl (fun ls hl => ?_)
    exact B22 k ms kp2 (0 : Int32) h _ _ hP hD hS ls (lv_sub hl [1, 0] rfl)
  · refine lv_bipush (v := (-5 : Int32)) hx hb dX8_undo_7 (by decide) ?_
    cases h
    exact zX_i hx hb hr hlocks hP hD hS hAe dX8_undo_9 rfl

def f_X8_save_b14 (k : Nat) (ms : Nat → Int32) (p1 : Int32)  : Nat → (Nat → Int32) → (Nat → Int32) → Int32 → Option (Int32 × (Nat → Int32) × (Nat → Int32))
  | 0, _, _, _ => none
  | n + 1, sl_, sv_, x2 =>
    if (324 : Int32) ≤ x2 then
      zg (zin p1 2) (zl (upd sv_ p1.toNatClampNeg (vp_nar .boolean (1 : Int32))) fun sv2 =>
      zl (ms 5) fun v3 =>
      some (v3, sl_, sv2))
    else
      zl ((324 : Int32) * p1) fun v4 =>
      zl (v4 + x2) fun v5 =>
      zg (zin x2 324) (zl (ms x2.toNatClampNeg) fun v6 =>
      zg (zin v5 648) (zl (upd sl_ v5.toNatClampNeg v6) fun sl7 =>
      zl (x2 + (1 : Int32)) fun v8 =>
      f_X8_save_b14 k ms p1 n sl7 sv_ v8))
def f_X8_save (k : Nat) (ms : Nat → Int32) (sl : Nat → Int32) (sv : Nat → Int32) (p1 : Int32) : Option (Int32 × (Nat → Int32) × (Nat → Int32)) :=
  zb1 (f_X8_in k p1 (0 : Int32) (1 : Int32)) fun v1 =>
  if v1 = 0 then
    some ((-2 : Int32), sl, sv)
  else
    f_X8_save_b14 k ms p1 k sl sv (0 : Int32)
set_option maxRecDepth 100000 in
set_option maxHeartbeats 4000000 in
theorem ct_X8_save (l : Launch) (D : va_G) (ct a : Nat → Nat) (ms : Nat → Int32) (ah : Nat → Int32) (hi : Nat → Int32) (kp : Int32) (sl : Nat → Int32) (sv : Nat → Int32) (pd : Nat → Int32) (ln : Int32) (so : Nat → Int32) (po : Int32) (wr : Int32) (to : Nat → Int32) (sz : Nat) (p1 : Int32) (k : Nat) (r : Int32) (sl' : Nat → Int32) (sv' : Nat → Int32) (h : f_X8_save k ms sl sv p1 = some (r, sl', sv')) : Met l yX8_save (Cond.code yX8_save cX8_save 3 (some .int) :: zT) ({ frames := 1, cells := 0, slots := 0, locals := 22 } : Room) (va_Pc [.ref (a 30), .int p1] (zPW D (zTys ct) (wX8 ct a ms ah hi kp sl sv pd ln so po wr to) sz)) (va_Qi (fun r' (_ : Unit) => r' = r) (zQW D (wX8 ct a ms ah hi kp sl sv pd ln so po wr to) sz (wX8 ct a ms ah hi kp sl' sv' pd ln so po wr to)) (va_A (wX8 ct a ms ah hi kp sl sv pd ln so po wr to) sz)) 0 0 (va_A (wX8 ct a ms ah hi kp sl sv pd ln so po wr to) sz) := by
  refine zMet (cc := cX8_save) (maxL := 3) (ret := (some .int)) (av := [.ref (a 30), .int p1]) (by decide) (Nat.le_of_ble_eq_true rfl) (fun p e s m below meth c ls hx hb hr hml hts hown hlocks hin hB hl => ?_)
  have hl : lv_has ls 3 [(0, .ref (a 30)), (1, .int p1)] := hl
  have hown : s.vm.findClass RX8 = some m.cls := hown
  obtain ⟨hsz, hP, hK, hD0⟩ := hB
  subst hsz
  have hD := hD0.self (sz := s.heap.size)
  obtain ⟨A, hAe⟩ : ∃ A, A = va_A (wX8 ct a ms ah hi kp sl sv pd ln so po wr to) s.heap.size := ⟨_, rfl⟩
  rw [← hAe] at hD
  have hA : ∀ q : Nat, s.heap.size ≤ q → A q := fun q h => by rw [hAe]; exact Or.inr h
  have hS : va_S A s.heap s.heap [] := va_S.rf
  have B14 : ∀ (n : Nat), ∀ (sl_ : Nat → Int32) (sv_ : Nat → Int32) (x2 : Int32), f_X8_save_b14 k ms p1 n sl_ sv_ x2 = some (r, sl', sv') → ∀ (H : Heap) (locs : List Loc), va_P D vwCl (wX8 ct a ms ah hi kp sl_ sv_ pd ln so po wr to) H → va_D A (wX8 ct a ms ah hi kp sl_ sv_ pd ln so po wr to) → va_S A s.heap H locs → ∀ (ls : Array Slot), lv_has ls 3 [(0, .ref (a 30)), (1, .int p1), (2, .int x2)] → W p l e ({ frames := 1, cells := 0, slots := 0, locals := 22 } : Room) s m ([.ref (a 30), .int p1] : List Value).toArray below meth c H locs 0 0 (MQ below (va_Qi (fun r' (_ : Unit) => r' = r) (zQW D (wX8 ct a ms ah hi kp sl sv pd ln so po wr to) s.heap.size (wX8 ct a ms ah hi kp sl' sv' pd ln so po wr to)) (va_A (wX8 ct a ms ah hi kp sl sv pd ln so po wr to) s.heap.size)) ([.ref (a 30), .int p1] : List Value).toArray s 0 0 (va_A (wX8 ct a ms ah hi kp sl sv pd ln so po wr to) s.heap.size)) (F0 m 14 ls []) := by
    intro n
    induction n with
    | zero => intro sl_ sv_ x2 h; exact absurd h (by rw [f_X8_save_b14]; exact fun q => nomatch q)
    | succ n ih14 =>
      intro sl_ sv_ x2 h H locs hP hD hS ls hl
      rw [f_X8_save_b14] at h
      refine lv_iload_n hx hb dX8_save_14 rfl (lv_at hl 2 rfl) ?_
      refine lv_sipush (v := (324 : Int32)) hx hb dX8_save_15 (by decide) ?_
      refine zc_ge (tgt := 45) hx hb dX8_save_18 (by decide) h (fun h => ?_) (fun h => ?_)
      · refine lv_aload_n hx hb dX8_save_45 rfl (lv_at hl 0 rfl) ?_
        refine z_get (C := RX8) (T := TX8) (N := 12) (ci := 7) hx hb hts zin_X8 hown hK.1 hP 0 5 rfl rfl (by decide) tw800 rfl rfl dX8_save_46 ?_
        refine lv_iload_n hx hb dX8_save_49 rfl (lv_at hl 1 rfl) ?_
        refine lv_iconst (v := (1 : Int32)) hx hb dX8_save_50 (by decide) ?_
        refine z_zast hx hb hK.1 hP hD hS 5 2 rfl rfl h dX8_save_51 (fun sv2 H locs h hP hD hS => ?_)
        have hP : va_P D vwCl (wX8 ct a ms ah hi kp sl_ sv2 pd ln so po wr to) H := hP
        have hD : va_D A (wX8 ct a ms ah hi kp sl_ sv2 pd ln so po wr to) := hD
        refine lv_aload_n hx hb dX8_save_52 rfl (lv_at hl 0 rfl) ?_
        refine z_get (C := RX8) (T := TX8) (N := 12) (ci := 7) hx hb hts zin_X8 hown hK.1 hP 0 0 rfl rfl (by decide) tw795 rfl rfl dX8_save_53 ?_
        refine lv_iconst (v := (5 : Int32)) hx hb dX8_save_56 (by decide) ?_
        refine y_ialdc hx hb hK hP 1 0 5 rfl rfl (by decide) (by decide) h dX8_save_57 (fun v3 h => ?_)
        cases h
        exact zX_i hx hb hr hlocks hP hD hS hAe dX8_save_58 rfl
      · refine lv_aload_n hx hb dX8_save_21 rfl (lv_at hl 0 rfl) ?_
        refine z_get (C := RX8) (T := TX8) (N := 12) (ci := 7) hx hb hts zin_X8 hown hK.1 hP 0 4 rfl rfl (by decide) tw799 rfl rfl dX8_save_22 ?_
        refine lv_sipush (v := (324 : Int32)) hx hb dX8_save_25 (by decide) ?_
        refine lv_iload_n hx hb dX8_save_28 rfl (lv_at hl 1 rfl) ?_
        refine o_imul hx hb dX8_save_29 h (fun v4 h => ?_)
        refine lv_iload_n hx hb dX8_save_30 rfl (lv_at hl 2 rfl) ?_
        refine o_iadd hx hb dX8_save_31 h (fun v5 h => ?_)
        refine lv_aload_n hx hb dX8_save_32 rfl (lv_at hl 0 rfl) ?_
        refine z_get (C := RX8) (T := TX8) (N := 12) (ci := 7) hx hb hts zin_X8 hown hK.1 hP 0 0 rfl rfl (by decide) tw795 rfl rfl dX8_save_33 ?_
        refine lv_iload_n hx hb dX8_save_36 rfl (lv_at hl 2 rfl) ?_
        refine y_iald hx hb hK hP 1 0 rfl rfl h dX8_save_37 (fun v6 h => ?_)
        refine z_iast hx hb hK.1 hP hD hS 4 0 rfl rfl h dX8_save_38 (fun sl7 H locs h hP hD hS => ?_)
        have hP : va_P D vwCl (wX8 ct a ms ah hi kp sl7 sv_ pd ln so po wr to) H := hP
        have hD : va_D A (wX8 ct a ms ah hi kp sl7 sv_ pd ln so po wr to) := hD
        refine o_nm h (fun v8 ey h => ?_)
        refine lv_iinc (v := v8) (lv' := [(2, .int v8), (0, .ref (a 30)), (1, .int p1)]) hx hb dX8_save_39 hl (k := 2) rfl (Eq.trans rfl ey) (by decide) rfl (fun ls hl => ?_)
        refine lv_goto (tgt := 14) hx hb dX8_save_42 (by decide) ?_
        exact ih14 sl7 sv_ v8 h _ _ hP hD hS ls (lv_sub hl [1, 2, 0] rfl)
  rw [f_X8_save] at h
  refine lv_iload_n hx hb dX8_save_0 rfl (lv_at hl 1 rfl) ?_
  refine lv_iconst (v := (0 : Int32)) hx hb dX8_save_1 (by decide) ?_
  refine lv_iconst (v := (1 : Int32)) hx hb dX8_save_2 (by decide) ?_
  obtain ⟨v1, hc, h⟩ := zb1_s h
  refine zE_i (zrS (As := [.int p1, .int (0 : Int32), .int (1 : Int32)]) (rest := []) hx hb hml hown hts tw836 ms_X8_in ⟨Nat.le_of_ble_eq_true rfl, Nat.le_of_ble_eq_true rfl⟩ rfl rfl (ct_X8_in l p1 (0 : Int32) (1 : Int32) k v1 hc) z_p0 hl.1 rfl rfl (Nat.le_of_ble_eq_true rfl) dX8_save_3 ⟨Nat.le_refl _, Nat.le_refl _⟩) ?_
  refine zi_ne (tgt := 12) hx hb dX8_save_6 (by decide) h (fun h => ?_) (fun h => ?_)
  · refine lv_iconst (v := (0 : Int32)) hx hb dX8_save_12 (by decide) ?_
    refine lv_istore_n (lv' := [(2, .int (0 : Int32)), (0, .ref (a 30)), (1, .int p1)]) hx hb dX8_save_13 rfl hl (by decide) rfl (fun ls hl => ?_)
    exact B14 k sl sv (0 : Int32) h _ _ hP hD hS ls (lv_sub hl [1, 2, 0] rfl)
  · refine lv_bipush (v := (-2 : Int32)) hx hb dX8_save_9 (by decide) ?_
    cases h
    exact zX_i hx hb hr hlocks hP hD hS hAe dX8_save_11 rfl

def f_X8_restore_b34 (k : Nat) (sl : Nat → Int32) (sv : Nat → Int32) (p1 : Int32)  : Nat → (Nat → Int32) → (Nat → Int32) → (Nat → Int32) → Int32 → Int32 → Option (Int32 × (Nat → Int32) × (Nat → Int32) × (Nat → Int32) × Int32)
  | 0, _, _, _, _, _ => none
  | n + 1, ms_, ah_, hi_, kp_, x2 =>
    if (324 : Int32) ≤ x2 then
      zl (ms_ 5) fun v6 =>
      some (v6, ms_, ah_, hi_, kp_)
    else
      zl ((324 : Int32) * p1) fun v7 =>
      zl (v7 + x2) fun v8 =>
      zg (zin v8 648) (zl (sl v8.toNatClampNeg) fun v9 =>
      zg (zin x2 324) (zl (upd ms_ x2.toNatClampNeg v9) fun ms10 =>
      zl (x2 + (1 : Int32)) fun v11 =>
      f_X8_restore_b34 k sl sv p1 n ms10 ah_ hi_ kp_ v11))
def f_X8_restore (k : Nat) (ms : Nat → Int32) (ah : Nat → Int32) (hi : Nat → Int32) (kp : Int32) (sl : Nat → Int32) (sv : Nat → Int32) (p1 : Int32) : Option (Int32 × (Nat → Int32) × (Nat → Int32) × (Nat → Int32) × Int32) :=
  zb1 (f_X8_in k p1 (0 : Int32) (1 : Int32)) fun v1 =>
  if v1 = 0 then
    some ((-2 : Int32), ms, ah, hi, kp)
  else
    zg (zin p1 2) (zl (sv p1.toNatClampNeg) fun v2 =>
    if v2 = 0 then
      some ((-5 : Int32), ms, ah, hi, kp)
    else
      zb1 (f_X8_looks k ms ah) fun ah3 =>
      zb2 (f_X8_records k ah3 hi kp) fun hi4 kp5 =>
      f_X8_restore_b34 k sl sv p1 k ms ah3 hi4 kp5 (0 : Int32))
set_option maxRecDepth 100000 in
set_option maxHeartbeats 4000000 in
theorem ct_X8_restore (l : Launch) (D : va_G) (ct a : Nat → Nat) (ms : Nat → Int32) (ah : Nat → Int32) (hi : Nat → Int32) (kp : Int32) (sl : Nat → Int32) (sv : Nat → Int32) (pd : Nat → Int32) (ln : Int32) (so : Nat → Int32) (po : Int32) (wr : Int32) (to : Nat → Int32) (sz : Nat) (p1 : Int32) (k : Nat) (r : Int32) (ms' : Nat → Int32) (ah' : Nat → Int32) (hi' : Nat → Int32) (kp' : Int32) (h : f_X8_restore k ms ah hi kp sl sv p1 = some (r, ms', ah', hi', kp')) : Met l yX8_restore (Cond.code yX8_restore cX8_restore 3 (some .int) :: zT) ({ frames := 1, cells := 0, slots := 0, locals := 22 } : Room) (va_Pc [.ref (a 30), .int p1] (zPW D (zTys ct) (wX8 ct a ms ah hi kp sl sv pd ln so po wr to) sz)) (va_Qi (fun r' (_ : Unit) => r' = r) (zQW D (wX8 ct a ms ah hi kp sl sv pd ln so po wr to) sz (wX8 ct a ms' ah' hi' kp' sl sv pd ln so po wr to)) (va_A (wX8 ct a ms ah hi kp sl sv pd ln so po wr to) sz)) 0 0 (va_A (wX8 ct a ms ah hi kp sl sv pd ln so po wr to) sz) := by
  refine zMet (cc := cX8_restore) (maxL := 3) (ret := (some .int)) (av := [.ref (a 30), .int p1]) (by decide) (Nat.le_of_ble_eq_true rfl) (fun p e s m below meth c ls hx hb hr hml hts hown hlocks hin hB hl => ?_)
  have hl : lv_has ls 3 [(0, .ref (a 30)), (1, .int p1)] := hl
  have hown : s.vm.findClass RX8 = some m.cls := hown
  obtain ⟨hsz, hP, hK, hD0⟩ := hB
  subst hsz
  have hD := hD0.self (sz := s.heap.size)
  obtain ⟨A, hAe⟩ : ∃ A, A = va_A (wX8 ct a ms ah hi kp sl sv pd ln so po wr to) s.heap.size := ⟨_, rfl⟩
  rw [← hAe] at hD
  have hA : ∀ q : Nat, s.heap.size ≤ q → A q := fun q h => by rw [hAe]; exact Or.inr h
  have hS : va_S A s.heap s.heap [] := va_S.rf
  have B34 : ∀ (n : Nat), ∀ (ms_ : Nat → Int32) (ah_ : Nat → Int32) (hi_ : Nat → Int32) (kp_ : Int32) (x2 : Int32), f_X8_restore_b34 k sl sv p1 n ms_ ah_ hi_ kp_ x2 = some (r, ms', ah', hi', kp') → ∀ (H : Heap) (locs : List Loc), va_P D vwCl (wX8 ct a ms_ ah_ hi_ kp_ sl sv pd ln so po wr to) H → va_D A (wX8 ct a ms_ ah_ hi_ kp_ sl sv pd ln so po wr to) → va_S A s.heap H locs → ∀ (ls : Array Slot), lv_has ls 3 [(0, .ref (a 30)), (1, .int p1), (2, .int x2)] → W p l e ({ frames := 1, cells := 0, slots := 0, locals := 22 } : Room) s m ([.ref (a 30), .int p1] : List Value).toArray below meth c H locs 0 0 (MQ below (va_Qi (fun r' (_ : Unit) => r' = r) (zQW D (wX8 ct a ms ah hi kp sl sv pd ln so po wr to) s.heap.size (wX8 ct a ms' ah' hi' kp' sl sv pd ln so po wr to)) (va_A (wX8 ct a ms ah hi kp sl sv pd ln so po wr to) s.heap.size)) ([.ref (a 30), .int p1] : List Value).toArray s 0 0 (va_A (wX8 ct a ms ah hi kp sl sv pd ln so po wr to) s.heap.size)) (F0 m 34 ls []) := by
    intro n
    induction n with
    | zero => intro ms_ ah_ hi_ kp_ x2 h; exact absurd h (by rw [f_X8_restore_b34]; exact fun q => nomatch q)
    | succ n ih34 =>
      intro ms_ ah_ hi_ kp_ x2 h H locs hP hD hS ls hl
      rw [f_X8_restore_b34] at h
      refine lv_iload_n hx hb dX8_restore_34 rfl (lv_at hl 2 rfl) ?_
      refine lv_sipush (v := (324 : Int32)) hx hb dX8_restore_35 (by decide) ?_
      refine zc_ge (tgt := 65) hx hb dX8_restore_38 (by decide) h (fun h => ?_) (fun h => ?_)
      · refine lv_aload_n hx hb dX8_restore_65 rfl (lv_at hl 0 rfl) ?_
        refine z_get (C := RX8) (T := TX8) (N := 12) (ci := 7) hx hb hts zin_X8 hown hK.1 hP 0 0 rfl rfl (by decide) tw795 rfl rfl dX8_restore_66 ?_
        refine lv_iconst (v := (5 : Int32)) hx hb dX8_restore_69 (by decide) ?_
        refine y_ialdc hx hb hK hP 1 0 5 rfl rfl (by decide) (by decide) h dX8_restore_70 (fun v6 h => ?_)
        cases h
        exact zX_i hx hb hr hlocks hP hD hS hAe dX8_restore_71 rfl
      · refine lv_aload_n hx hb dX8_restore_41 rfl (lv_at hl 0 rfl) ?_
        refine z_get (C := RX8) (T := TX8) (N := 12) (ci := 7) hx hb hts zin_X8 hown hK.1 hP 0 0 rfl rfl (by decide) tw795 rfl rfl dX8_restore_42 ?_
        refine lv_iload_n hx hb dX8_restore_45 rfl (lv_at hl 2 rfl) ?_
        refine lv_aload_n hx hb dX8_restore_46 rfl (lv_at hl 0 rfl) ?_
        refine z_get (C := RX8) (T := TX8) (N := 12) (ci := 7) hx hb hts zin_X8 hown hK.1 hP 0 4 rfl rfl (by decide) tw799 rfl rfl dX8_restore_47 ?_
        refine lv_sipush (v := (324 : Int32)) hx hb dX8_restore_50 (by decide) ?_
        refine lv_iload_n hx hb dX8_restore_53 rfl (lv_at hl 1 rfl) ?_
        refine o_imul hx hb dX8_restore_54 h (fun v7 h => ?_)
        refine lv_iload_n hx hb dX8_restore_55 rfl (lv_at hl 2 rfl) ?_
        refine o_iadd hx hb dX8_restore_56 h (fun v8 h => ?_)
        refine y_iald hx hb hK hP 4 0 rfl rfl h dX8_restore_57 (fun v9 h => ?_)
        refine z_iast hx hb hK.1 hP hD hS 1 0 rfl rfl h dX8_restore_58 (fun ms10 H locs h hP hD hS => ?_)
        have hP : va_P D vwCl (wX8 ct a ms10 ah_ hi_ kp_ sl sv pd ln so po wr to) H := hP
        have hD : va_D A (wX8 ct a ms10 ah_ hi_ kp_ sl sv pd ln so po wr to) := hD
        refine o_nm h (fun v11 ey h => ?_)
        refine lv_iinc (v := v11) (lv' := [(2, .int v11), (0, .ref (a 30)), (1, .int p1)]) hx hb dX8_restore_59 hl (k := 2) rfl (Eq.trans rfl ey) (by decide) rfl (fun ls hl => ?_)
        refine lv_goto (tgt := 34) hx hb dX8_restore_62 (by decide) ?_
        exact ih34 ms10 ah_ hi_ kp_ v11 h _ _ hP hD hS ls (lv_sub hl [1, 2, 0] rfl)
  rw [f_X8_restore] at h
  refine lv_iload_n hx hb dX8_restore_0 rfl (lv_at hl 1 rfl) ?_
  refine lv_iconst (v := (0 : Int32)) hx hb dX8_restore_1 (by decide) ?_
  refine lv_iconst (v := (1 : Int32)) hx hb dX8_restore_2 (by decide) ?_
  obtain ⟨v1, hc, h⟩ := zb1_s h
  refine zE_i (zrS (As := [.int p1, .int (0 : Int32), .int (1 : Int32)]) (rest := []) hx hb hml hown hts tw836 ms_X8_in ⟨Nat.le_of_ble_eq_true rfl, Nat.le_of_ble_eq_true rfl⟩ rfl rfl (ct_X8_in l p1 (0 : Int32) (1 : Int32) k v1 hc) z_p0 hl.1 rfl rfl (Nat.le_of_ble_eq_true rfl) dX8_restore_3 ⟨Nat.le_refl _, Nat.le_refl _⟩) ?_
  refine zi_ne (tgt := 12) hx hb dX8_restore_6 (by decide) h (fun h => ?_) (fun h => ?_)
  · refine lv_aload_n hx hb dX8_restore_12 rfl (lv_at hl 0 rfl) ?_
    refine z_get (C := RX8) (T := TX8) (N := 12) (ci := 7) hx hb hts zin_X8 hown hK.1 hP 0 5 rfl rfl (by decide) tw800 rfl rfl dX8_restore_13 ?_
    refine lv_iload_n hx hb dX8_restore_16 rfl (lv_at hl 1 rfl) ?_
    refine y_zald hx hb hK hP 5 2 rfl rfl h dX8_restore_17 (fun v2 h => ?_)
    refine zi_ne (tgt := 24) hx hb dX8_restore_18 (by decide) h (fun h => ?_) (fun h => ?_)
    · refine lv_aload_n hx hb dX8_restore_24 rfl (lv_at hl 0 rfl) ?_
      obtain ⟨ah3, hc, h⟩ := zb1_s h
      refine zG_v (w1 := wX8 ct a ms ah3 hi kp sl sv pd ln so po wr to) (ws' := wX8 ct a ms ah3 hi kp sl sv pd ln so po wr to) hP hD hS hA [0, 1, 2, 3, 4, 5, 6, 7, 8] [] [0, 1, 2, 3, 4, 5, 6, 7, 8] rfl rfl (by decide) (by decide) rfl (by decide) (zrV (C := RX8) (As := []) (rest := []) hx hb hml hown hts tw843 mv_X8_looks ⟨Nat.le_of_ble_eq_true rfl, Nat.le_of_ble_eq_true rfl⟩ rfl rfl (ct_X8_looks l D ct a ms ah hi kp sl sv pd ln so po wr to _  k ah3 hc) (z_wv hK hP hD [0, 1, 2, 3, 4, 5, 6, 7, 8] (by decide) rfl 0 rfl rfl) hl.1 rfl rfl (Nat.le_of_ble_eq_true rfl) dX8_restore_25 ⟨Nat.le_refl _, Nat.le_refl _⟩) (fun H locs hP hD hS => ?_)
      refine lv_aload_n hx hb dX8_restore_28 rfl (lv_at hl 0 rfl) ?_
      obtain ⟨hi4, kp5, hc, h⟩ := zb2_s h
      refine zG_v (w1 := wX8 ct a ms ah3 hi4 kp5 sl sv pd ln so po wr to) (ws' := wX8 ct a ms ah3 hi4 kp5 sl sv pd ln so po wr to) hP hD hS hA [0, 1, 2, 3, 4, 5, 6, 7, 8] [] [0, 1, 2, 3, 4, 5, 6, 7, 8] rfl rfl (by decide) (by decide) rfl (by decide) (zrV (C := RX8) (As := []) (rest := []) hx hb hml hown hts tw847 mv_X8_records ⟨Nat.le_of_ble_eq_true rfl, Nat.le_of_ble_eq_true rfl⟩ rfl rfl (ct_X8_records l D ct a ms ah3 hi kp sl sv pd ln so po wr to _  k hi4 kp5 hc) (z_wv hK hP hD [0, 1, 2, 3, 4, 5, 6, 7, 8] (by decide) rfl 0 rfl rfl) hl.1 rfl rfl (Nat.le_of_ble_eq_true rfl) dX8_restore_29 ⟨Nat.le_refl _, Nat.le_refl _⟩) (fun H locs hP hD hS => ?_)
      refine lv_iconst (v := (0 : Int32)) hx hb dX8_restore_32 (by decide) ?_
      refine lv_istore_n (lv' := [(2, .int (0 : Int32)), (0, .ref (a 30)), (1, .int p1)]) hx hb dX8_restore_33 rfl hl (by decide) rfl (fun ls hl => ?_)
      exact B34 k ms ah3 hi4 kp5 (0 : Int32) h _ _ hP hD hS ls (lv_sub hl [1, 2, 0] rfl)
    · refine lv_bipush (v := (-5 : Int32)) hx hb dX8_restore_21 (by decide) ?_
      cases h
      exact zX_i hx hb hr hlocks hP hD hS hAe dX8_restore_23 rfl
  · refine lv_bipush (v := (-2 : Int32)) hx hb dX8_restore_9 (by decide) ?_
    cases h
    exact zX_i hx hb hr hlocks hP hD hS hAe dX8_restore_11 rfl

