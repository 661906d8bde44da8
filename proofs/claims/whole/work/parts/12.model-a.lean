/-! written by wip/whole/gen.py: each method as a function, and its contract -/
def f_X8_ofLorryAt (k : Nat) (p1 : Int32) (p2 : Int32) : Option (Int32) :=
  zl ((4 : Int32) * p1) fun v1 =>
  zl ((312 : Int32) + v1) fun v2 =>
  zl (v2 + p2) fun v3 =>
  some v3
set_option maxRecDepth 100000 in
set_option maxHeartbeats 4000000 in
theorem ct_X8_ofLorryAt (l : Launch) (p1 : Int32) (p2 : Int32) (k : Nat) (r : Int32) (h : f_X8_ofLorryAt k p1 p2 = some r) : Met l yX8_ofLorryAt (Cond.code yX8_ofLorryAt cX8_ofLorryAt 2 (some .int) :: zT) ({ frames := 0, cells := 0, slots := 0, locals := 0 } : Room) (va_Pc [.int p1, .int p2] (fun _ => True)) (vp_Si (fun r' => r' = r)) 0 0 (fun _ => False) := by
  refine zMet (cc := cX8_ofLorryAt) (maxL := 2) (ret := (some .int)) (av := [.int p1, .int p2]) (by decide) (Nat.le_of_ble_eq_true rfl) (fun p e s m below meth c ls hx hb hr hml hts hown hlocks hin hB hl => ?_)
  have hl : lv_has ls 2 [(0, .int p1), (1, .int p2)] := hl
  have hown : s.vm.findClass RX8 = some m.cls := hown
  rw [f_X8_ofLorryAt] at h
  refine lv_sipush (v := (312 : Int32)) hx hb dX8_ofLorryAt_0 (by decide) ?_
  refine lv_iconst (v := (4 : Int32)) hx hb dX8_ofLorryAt_3 (by decide) ?_
  refine lv_iload_n hx hb dX8_ofLorryAt_4 rfl (lv_at hl 0 rfl) ?_
  refine o_imul hx hb dX8_ofLorryAt_5 h (fun v1 h => ?_)
  refine o_iadd hx hb dX8_ofLorryAt_6 h (fun v2 h => ?_)
  refine lv_iload_n hx hb dX8_ofLorryAt_7 rfl (lv_at hl 1 rfl) ?_
  refine o_iadd hx hb dX8_ofLorryAt_8 h (fun v3 h => ?_)
  exact zR_i hx hb hr hlocks dX8_ofLorryAt_9 h

def f_X8_in (k : Nat) (p1 : Int32) (p2 : Int32) (p3 : Int32) : Option (Int32) :=
  if p1 < p2 then
    some (0 : Int32)
  else
    if p3 < p1 then
      some (0 : Int32)
    else
      some (1 : Int32)
set_option maxRecDepth 100000 in
set_option maxHeartbeats 4000000 in
theorem ct_X8_in (l : Launch) (p1 : Int32) (p2 : Int32) (p3 : Int32) (k : Nat) (r : Int32) (h : f_X8_in k p1 p2 p3 = some r) : Met l yX8_in (Cond.code yX8_in cX8_in 3 (some .boolean) :: zT) ({ frames := 0, cells := 0, slots := 0, locals := 0 } : Room) (va_Pc [.int p1, .int p2, .int p3] (fun _ => True)) (vp_Si (fun r' => r' = r)) 0 0 (fun _ => False) := by
  refine zMet (cc := cX8_in) (maxL := 3) (ret := (some .boolean)) (av := [.int p1, .int p2, .int p3]) (by decide) (Nat.le_of_ble_eq_true rfl) (fun p e s m below meth c ls hx hb hr hml hts hown hlocks hin hB hl => ?_)
  have hl : lv_has ls 3 [(0, .int p1), (1, .int p2), (2, .int p3)] := hl
  have hown : s.vm.findClass RX8 = some m.cls := hown
  rw [f_X8_in] at h
  refine lv_iload_n hx hb dX8_in_0 rfl (lv_at hl 0 rfl) ?_
  refine lv_iload_n hx hb dX8_in_1 rfl (lv_at hl 1 rfl) ?_
  refine zc_lt (tgt := 14) hx hb dX8_in_2 (by decide) h (fun h => ?_) (fun h => ?_)
  · refine lv_iconst (v := (0 : Int32)) hx hb dX8_in_14 (by decide) ?_
    exact zR_z hx hb hr hlocks dX8_in_15 h
  · refine lv_iload_n hx hb dX8_in_5 rfl (lv_at hl 0 rfl) ?_
    refine lv_iload_n hx hb dX8_in_6 rfl (lv_at hl 2 rfl) ?_
    refine zc_gt (tgt := 14) hx hb dX8_in_7 (by decide) h (fun h => ?_) (fun h => ?_)
    · refine lv_iconst (v := (0 : Int32)) hx hb dX8_in_14 (by decide) ?_
      exact zR_z hx hb hr hlocks dX8_in_15 h
    · refine lv_iconst (v := (1 : Int32)) hx hb dX8_in_10 (by decide) ?_
      refine lv_goto (tgt := 15) hx hb dX8_in_11 (by decide) ?_
      exact zR_z hx hb hr hlocks dX8_in_15 h

def f_X8_looks_b2 (k : Nat) (ms : Nat → Int32)  : Nat → (Nat → Int32) → Int32 → Option ((Nat → Int32))
  | 0, _, _ => none
  | n + 1, ah_, x1 =>
    if (324 : Int32) ≤ x1 then
      some ah_
    else
      zg (zin x1 324) (zl (ms x1.toNatClampNeg) fun v1 =>
      zg (zin x1 324) (zl (upd ah_ x1.toNatClampNeg v1) fun ah2 =>
      zl (x1 + (1 : Int32)) fun v3 =>
      f_X8_looks_b2 k ms n ah2 v3))
def f_X8_looks (k : Nat) (ms : Nat → Int32) (ah : Nat → Int32) : Option ((Nat → Int32)) :=
  f_X8_looks_b2 k ms k ah (0 : Int32)
set_option maxRecDepth 100000 in
set_option maxHeartbeats 4000000 in
theorem ct_X8_looks (l : Launch) (D : va_G) (ct a : Nat → Nat) (ms : Nat → Int32) (ah : Nat → Int32) (hi : Nat → Int32) (kp : Int32) (sl : Nat → Int32) (sv : Nat → Int32) (pd : Nat → Int32) (ln : Int32) (so : Nat → Int32) (po : Int32) (wr : Int32) (to : Nat → Int32) (sz : Nat) (k : Nat) (ah' : Nat → Int32) (h : f_X8_looks k ms ah = some ah') : Met l yX8_looks (Cond.code yX8_looks cX8_looks 2 none :: zT) ({ frames := 0, cells := 0, slots := 0, locals := 0 } : Room) (va_Pc [.ref (a 30)] (zPW D (zTys ct) (wX8 ct a ms ah hi kp sl sv pd ln so po wr to) sz)) (va_Qv (fun (_ : Unit) => True) (zQW D (wX8 ct a ms ah hi kp sl sv pd ln so po wr to) sz (wX8 ct a ms ah' hi kp sl sv pd ln so po wr to)) (va_A (wX8 ct a ms ah hi kp sl sv pd ln so po wr to) sz)) 0 0 (va_A (wX8 ct a ms ah hi kp sl sv pd ln so po wr to) sz) := by
  refine zMet (cc := cX8_looks) (maxL := 2) (ret := none) (av := [.ref (a 30)]) (by decide) (Nat.le_of_ble_eq_true rfl) (fun p e s m below meth c ls hx hb hr hml hts hown hlocks hin hB hl => ?_)
  have hl : lv_has ls 2 [(0, .ref (a 30))] := hl
  have hown : s.vm.findClass RX8 = some m.cls := hown
  obtain ⟨hsz, hP, hK, hD0⟩ := hB
  subst hsz
  have hD := hD0.self (sz := s.heap.size)
  obtain ⟨A, hAe⟩ : ∃ A, A = va_A (wX8 ct a ms ah hi kp sl sv pd ln so po wr to) s.heap.size := ⟨_, rfl⟩
  rw [← hAe] at hD
  have hA : ∀ q : Nat, s.heap.size ≤ q → A q := fun q h => by rw [hAe]; exact Or.inr h
  have hS : va_S A s.heap s.heap [] := va_S.rf
  have B2 : ∀ (n : Nat), ∀ (ah_ : Nat → Int32) (x1 : Int32), f_X8_looks_b2 k ms n ah_ x1 = some ah' → ∀ (H : Heap) (locs : List Loc), va_P D vwCl (wX8 ct a ms ah_ hi kp sl sv pd ln so po wr to) H → va_D A (wX8 ct a ms ah_ hi kp sl sv pd ln so po wr to) → va_S A s.heap H locs → ∀ (ls : Array Slot), lv_has ls 2 [(0, .ref (a 30)), (1, .int x1)] → W p l e ({ frames := 0, cells := 0, slots := 0, locals := 0 } : Room) s m ([.ref (a 30)] : List Value).toArray below meth c H locs 0 0 (MQ below (va_Qv (fun (_ : Unit) => True) (zQW D (wX8 ct a ms ah hi kp sl sv pd ln so po wr to) s.heap.size (wX8 ct a ms ah' hi kp sl sv pd ln so po wr to)) (va_A (wX8 ct a ms ah hi kp sl sv pd ln so po wr to) s.heap.size)) ([.ref (a 30)] : List Value).toArray s 0 0 (va_A (wX8 ct a ms ah hi kp sl sv pd ln so po wr to) s.heap.size)) (F0 m 2 ls []) := by
    intro n
    induction n with
    | zero => intro ah_ x1 h; exact absurd h (by rw [f_X8_looks_b2]; exact fun q => nomatch q)
    | succ n ih2 =>
      intro ah_ x1 h H locs hP hD hS ls hl
      rw [f_X8_looks_b2] at h
      refine lv_iload_n hx hb dX8_looks_2 rfl (lv_at hl 1 rfl) ?_
      refine lv_sipush (v := (324 : Int32)) hx hb dX8_looks_3 (by decide) ?_
      refine zc_ge (tgt := 27) hx hb dX8_looks_6 (by decide) h (fun h => ?_) (fun h => ?_)
      · cases h
        exact zX_v hx hb hr hlocks hP hD hS hAe dX8_looks_27
      · refine lv_aload_n hx hb dX8_looks_9 rfl (lv_at hl 0 rfl) ?_
        refine z_get (C := RX8) (T := TX8) (N := 12) (ci := 7) hx hb hts zin_X8 hown hK.1 hP 0 1 rfl rfl (by decide) tw796 rfl rfl dX8_looks_10 ?_
        refine lv_iload_n hx hb dX8_looks_13 rfl (lv_at hl 1 rfl) ?_
        refine lv_aload_n hx hb dX8_looks_14 rfl (lv_at hl 0 rfl) ?_
        refine z_get (C := RX8) (T := TX8) (N := 12) (ci := 7) hx hb hts zin_X8 hown hK.1 hP 0 0 rfl rfl (by decide) tw795 rfl rfl dX8_looks_15 ?_
        refine lv_iload_n hx hb dX8_looks_18 rfl (lv_at hl 1 rfl) ?_
        refine y_iald hx hb hK hP 1 0 rfl rfl h dX8_looks_19 (fun v1 h => ?_)
        refine z_iast hx hb hK.1 hP hD hS 2 0 rfl rfl h dX8_looks_20 (fun ah2 H locs h hP hD hS => ?_)
        have hP : va_P D vwCl (wX8 ct a ms ah2 hi kp sl sv pd ln so po wr to) H := hP
        have hD : va_D A (wX8 ct a ms ah2 hi kp sl sv pd ln so po wr to) := hD
        refine o_nm h (fun v3 ey h => ?_)
        refine lv_iinc (v := v3) (lv' := [(1, .int v3), (0, .ref (a 30))]) hx hb dX8_looks_21 hl (k := 1) rfl (Eq.trans rfl ey) (by decide) rfl (fun ls hl => ?_)
        refine lv_goto (tgt := 2) hx hb dX8_looks_24 (by decide) ?_
        exact ih2 ah2 v3 h _ _ hP hD hS ls (lv_sub hl [1, 0] rfl)
  rw [f_X8_looks] at h
  refine lv_iconst (v := (0 : Int32)) hx hb dX8_looks_0 (by decide) ?_
  refine lv_istore_n (lv' := [(1, .int (0 : Int32)), (0, .ref (a 30))]) hx hb dX8_looks_1 rfl hl (by decide) rfl (fun ls hl => ?_)
  exact B2 k ah (0 : Int32) h _ _ hP hD hS ls (lv_sub hl [1, 0] rfl)

def f_X8_records_b52 (k : Nat) (ah : Nat → Int32)  : Nat → (Nat → Int32) → Int32 → Int32 → Option ((Nat → Int32) × Int32)
  | 0, _, _, _ => none
  | n + 1, hi_, kp_, x1 =>
    if (324 : Int32) ≤ x1 then
      zl (kp_ + (1 : Int32)) fun v1 =>
      zl v1 fun kp2 =>
      some (hi_, kp2)
    else
      zl ((324 : Int32) * kp_) fun v3 =>
      zl (v3 + x1) fun v4 =>
      zg (zin x1 324) (zl (ah x1.toNatClampNeg) fun v5 =>
      zg (zin v4 1944) (zl (upd hi_ v4.toNatClampNeg v5) fun hi6 =>
      zl (x1 + (1 : Int32)) fun v7 =>
      f_X8_records_b52 k ah n hi6 kp_ v7))
def f_X8_records_b11 (k : Nat) (ah : Nat → Int32)  : Nat → (Nat → Int32) → Int32 → Int32 → Option ((Nat → Int32) × Int32)
  | 0, _, _, _ => none
  | n + 1, hi_, kp_, x1 =>
    if (1620 : Int32) ≤ x1 then
      zl (kp_ - (1 : Int32)) fun v8 =>
      zl v8 fun kp9 =>
      f_X8_records_b52 k ah k hi_ kp9 (0 : Int32)
    else
      zl (x1 + (324 : Int32)) fun v10 =>
      zg (zin v10 1944) (zl (hi_ v10.toNatClampNeg) fun v11 =>
      zg (zin x1 1944) (zl (upd hi_ x1.toNatClampNeg v11) fun hi12 =>
      zl (x1 + (1 : Int32)) fun v13 =>
      f_X8_records_b11 k ah n hi12 kp_ v13))
def f_X8_records (k : Nat) (ah : Nat → Int32) (hi : Nat → Int32) (kp : Int32) : Option ((Nat → Int32) × Int32) :=
  if kp = (6 : Int32) then
    f_X8_records_b11 k ah k hi kp (0 : Int32)
  else
    f_X8_records_b52 k ah k hi kp (0 : Int32)
set_option maxRecDepth 100000 in
set_option maxHeartbeats 4000000 in
theorem ct_X8_records (l : Launch) (D : va_G) (ct a : Nat → Nat) (ms : Nat → Int32) (ah : Nat → Int32) (hi : Nat → Int32) (kp : Int32) (sl : Nat → Int32) (sv : Nat → Int32) (pd : Nat → Int32) (ln : Int32) (so : Nat → Int32) (po : Int32) (wr : Int32) (to : Nat → Int32) (sz : Nat) (k : Nat) (hi' : Nat → Int32) (kp' : Int32) (h : f_X8_records k ah hi kp = some (hi', kp')) : Met l yX8_records (Cond.code yX8_records cX8_records 2 none :: zT) ({ frames := 0, cells := 0, slots := 0, locals := 0 } : Room) (va_Pc [.ref (a 30)] (zPW D (zTys ct) (wX8 ct a ms ah hi kp sl sv pd ln so po wr to) sz)) (va_Qv (fun (_ : Unit) => True) (zQW D (wX8 ct a ms ah hi kp sl sv pd ln so po wr to) sz (wX8 ct a ms ah hi' kp' sl sv pd ln so po wr to)) (va_A (wX8 ct a ms ah hi kp sl sv pd ln so po wr to) sz)) 0 0 (va_A (wX8 ct a ms ah hi kp sl sv pd ln so po wr to) sz) := by
  refine zMet (cc := cX8_records) (maxL := 2) (ret := none) (av := [.ref (a 30)]) (by decide) (Nat.le_of_ble_eq_true rfl) (fun p e s m below meth c ls hx hb hr hml hts hown hlocks hin hB hl => ?_)
  have hl : lv_has ls 2 [(0, .ref (a 30))] := hl
  have hown : s.vm.findClass RX8 = some m.cls := hown
  obtain ⟨hsz, hP, hK, hD0⟩ := hB
  subst hsz
  have hD := hD0.self (sz := s.heap.size)
  obtain ⟨A, hAe⟩ : ∃ A, A = va_A (wX8 ct a ms ah hi kp sl sv pd ln so po wr to) s.heap.size := ⟨_, rfl⟩
  rw [← hAe] at hD
  have hA : ∀ q : Nat, s.heap.size ≤ q → A q := fun q h => by rw [hAe]; exact Or.inr h
  have hS : va_S A s.heap s.heap [] := va_S.rf
  have B52 : ∀ (n : Nat), ∀ (hi_ : Nat → Int32) (kp_ : Int32) (x1 : Int32), f_X8_records_b52 k ah n hi_ kp_ x1 = some (hi', kp') → ∀ (H : Heap) (locs : List Loc), va_P D vwCl (wX8 ct a ms ah hi_ kp_ sl sv pd ln so po wr to) H → va_D A (wX8 ct a ms ah hi_ kp_ sl sv pd ln so po wr to) → va_S A s.heap H locs → ∀ (ls : Array Slot), lv_has ls 2 [(0, .ref (a 30)), (1, .int x1)] → W p l e ({ frames := 0, cells := 0, slots := 0, locals := 0 } : Room) s m ([.ref (a 30)] : List Value).toArray below meth c H locs 0 0 (MQ below (va_Qv (fun (_ : Unit) => True) (zQW D (wX8 ct a ms ah hi kp sl sv pd ln so po wr to) s.heap.size (wX8 ct a ms ah hi' kp' sl sv pd ln so po wr to)) (va_A (wX8 ct a ms ah hi kp sl sv pd ln so po wr to) s.heap.size)) ([.ref (a 30)] : List Value).toArray s 0 0 (va_A (wX8 ct a ms ah hi kp sl sv pd ln so po wr to) s.heap.size)) (F0 m 52 ls []) := by
    intro n
    induction n with
    | zero => intro hi_ kp_ x1 h; exact absurd h (by rw [f_X8_records_b52]; exact fun q => nomatch q)
    | succ n ih52 =>
      intro hi_ kp_ x1 h H locs hP hD hS ls hl
      rw [f_X8_records_b52] at h
      refine lv_iload_n hx hb dX8_records_52 rfl (lv_at hl 1 rfl) ?_
      refine lv_sipush (v := (324 : Int32)) hx hb dX8_records_53 (by decide) ?_
      refine zc_ge (tgt := 86) hx hb dX8_records_56 (by decide) h (fun h => ?_) (fun h => ?_)
      · refine lv_aload_n hx hb dX8_records_86 rfl (lv_at hl 0 rfl) ?_
        refine lv_dup hx hb dX8_records_87 rfl ?_
        refine z_get (C := RX8) (T := TX8) (N := 12) (ci := 7) hx hb hts zin_X8 hown hK.1 hP 0 3 rfl rfl (by decide) tw798 rfl rfl dX8_records_88 ?_
        refine lv_iconst (v := (1 : Int32)) hx hb dX8_records_91 (by decide) ?_
        refine o_iadd hx hb dX8_records_92 h (fun v1 h => ?_)
        refine z_puti (C := RX8) (T := TX8) (N := 12) (ci := 7) hx hb hts zin_X8 tyX8 tyX8_ok nmX8 hown hK.1 hP hD hS 0 3 rfl rfl (by decide) tw798 rfl rfl (by decide +kernel) (Nat.le_of_ble_eq_true rfl) h dX8_records_93 (fun kp2 H locs h hP hD hS => ?_)
        have hP : va_P D vwCl (wX8 ct a ms ah hi_ kp2 sl sv pd ln so po wr to) H := hP
        have hD : va_D A (wX8 ct a ms ah hi_ kp2 sl sv pd ln so po wr to) := hD
        cases h
        exact zX_v hx hb hr hlocks hP hD hS hAe dX8_records_96
      · refine lv_aload_n hx hb dX8_records_59 rfl (lv_at hl 0 rfl) ?_
        refine z_get (C := RX8) (T := TX8) (N := 12) (ci := 7) hx hb hts zin_X8 hown hK.1 hP 0 2 rfl rfl (by decide) tw797 rfl rfl dX8_records_60 ?_
        refine lv_sipush (v := (324 : Int32)) hx hb dX8_records_63 (by decide) ?_
        refine lv_aload_n hx hb dX8_records_66 rfl (lv_at hl 0 rfl) ?_
        refine z_get (C := RX8) (T := TX8) (N := 12) (ci := 7) hx hb hts zin_X8 hown hK.1 hP 0 3 rfl rfl (by decide) tw798 rfl rfl dX8_records_67 ?_
        refine o_imul hx hb dX8_records_70 h (fun v3 h => ?_)
        refine lv_iload_n hx hb dX8_records_71 rfl (lv_at hl 1 rfl) ?_
        refine o_iadd hx hb dX8_records_72 h (fun v4 h => ?_)
        refine lv_aload_n hx hb dX8_records_73 rfl (lv_at hl 0 rfl) ?_
        refine z_get (C := RX8) (T := TX8) (N := 12) (ci := 7) hx hb hts zin_X8 hown hK.1 hP 0 1 rfl rfl (by decide) tw796 rfl rfl dX8_records_74 ?_
        refine lv_iload_n hx hb dX8_records_77 rfl (lv_at hl 1 rfl) ?_
        refine y_iald hx hb hK hP 2 0 rfl rfl h dX8_records_78 (fun v5 h => ?_)
        refine z_iast hx hb hK.1 hP hD hS 3 0 rfl rfl h dX8_records_79 (fun hi6 H locs h hP hD hS => ?_)
        have hP : va_P D vwCl (wX8 ct a ms ah hi6 kp_ sl sv pd ln so po wr to) H := hP
        have hD : va_D A (wX8 ct a ms ah hi6 kp_ sl sv pd ln so po wr to) := hD
        refine o_nm h (fun v7 ey h => ?_)
        refine lv_iinc (v := v7) (lv' := [(1, .int v7), (0, .ref (a 30))]) hx hb dX8_records_80 hl (k := 1) rfl (Eq.trans rfl ey) (by decide) rfl (fun ls hl => ?_)
        refine lv_goto (tgt := 52) hx hb dX8_records_83 (by decide) ?_
        exact ih52 hi6 kp_ v7 h _ _ hP hD hS ls (lv_sub hl [1, 0] rfl)
  have B11 : ∀ (n : Nat), ∀ (hi_ : Nat → Int32) (kp_ : Int32) (x1 : Int32), f_X8_records_b11 k ah n hi_ kp_ x1 = some (hi', kp') → ∀ (H : Heap) (locs : List Loc), va_P D vwCl (wX8 ct a ms ah hi_ kp_ sl sv pd ln so po wr to) H → va_D A (wX8 ct a ms ah hi_ kp_ sl sv pd ln so po wr to) → va_S A s.heap H locs → ∀ (ls : Array Slot), lv_has ls 2 [(0, .ref (a 30)), (1, .int x1)] → W p l e ({ frames := 0, cells := 0, slots := 0, locals := 0 } : Room) s m ([.ref (a 30)] : List Value).toArray below meth c H locs 0 0 (MQ below (va_Qv (fun (_ : Unit) => True) (zQW D (wX8 ct a ms ah hi kp sl sv pd ln so po wr to) s.heap.size (wX8 ct a ms ah hi' kp' sl sv pd ln so po wr to)) (va_A (wX8 ct a ms ah hi kp sl sv pd ln so po wr to) s.heap.size)) ([.ref (a 30)] : List Value).toArray s 0 0 (va_A (wX8 ct a ms ah hi kp sl sv pd ln so po wr to) s.heap.size)) (F0 m 11 ls []) := by
    intro n
    induction n with
    | zero => intro hi_ kp_ x1 h; exact absurd h (by rw [f_X8_records_b11]; exact fun q => nomatch q)
    | succ n ih11 =>
      intro hi_ kp_ x1 h H locs hP hD hS ls hl
      rw [f_X8_records_b11] at h
      refine lv_iload_n hx hb dX8_records_11 rfl (lv_at hl 1 rfl) ?_
      refine lv_sipush (v := (1620 : Int32)) hx hb dX8_records_12 (by decide) ?_
      refine zc_ge (tgt := 40) hx hb dX8_records_15 (by decide) h (fun h => ?_) (fun h => ?_)
      · refine lv_aload_n hx hb dX8_records_40 rfl (lv_at hl 0 rfl) ?_
        refine lv_dup hx hb dX8_records_41 rfl ?_
        refine z_get (C := RX8) (T := TX8) (N := 12) (ci := 7) hx hb hts zin_X8 hown hK.1 hP 0 3 rfl rfl (by decide) tw798 rfl rfl dX8_records_42 ?_
        refine lv_iconst (v := (1 : Int32)) hx hb dX8_records_45 (by decide) ?_
        refine o_isub hx hb dX8_records_46 h (fun v8 h => ?_)
        refine z_puti (C := RX8) (T := TX8) (N := 12) (ci := 7) hx hb hts zin_X8 tyX8 tyX8_ok nmX8 hown hK.1 hP hD hS 0 3 rfl rfl (by decide) tw798 rfl rfl (by decide +kernel) (Nat.le_of_ble_eq_true rfl) h dX8_records_47 (fun kp9 H locs h hP hD hS => ?_)
        have hP : va_P D vwCl (wX8 ct a ms ah hi_ kp9 sl sv pd ln so po wr to) H := hP
        have hD : va_D A (wX8 ct a ms ah hi_ kp9 sl sv pd ln so po wr to) := hD
        refine lv_iconst (v := (0 : Int32)) hx hb dX8_records_50 (by decide) ?_
        refine lv_istore_n (lv' := [(1, .int (0 : Int32)), (0, .ref (a 30))]) hx hb dX8_records_51 rfl hl (by decide) rfl (fun ls hl => ?_)
        exact B52 k hi_ kp9 (0 : Int32) h _ _ hP hD hS ls (lv_sub hl [1, 0] rfl)
      · refine lv_aload_n hx hb dX8_records_18 rfl (lv_at hl 0 rfl) ?_
        refine z_get (C := RX8) (T := TX8) (N := 12) (ci := 7) hx hb hts zin_X8 hown hK.1 hP 0 2 rfl rfl (by decide) tw797 rfl rfl dX8_records_19 ?_
        refine lv_iload_n hx hb dX8_records_22 rfl (lv_at hl 1 rfl) ?_
        refine lv_aload_n hx hb dX8_records_23 rfl (lv_at hl 0 rfl) ?_
        refine z_get (C := RX8) (T := TX8) (N := 12) (ci := 7) hx hb hts zin_X8 hown hK.1 hP 0 2 rfl rfl (by decide) tw797 rfl rfl dX8_records_24 ?_
        refine lv_iload_n hx hb dX8_records_27 rfl (lv_at hl 1 rfl) ?_
        refine lv_sipush (v := (324 : Int32)) hx hb dX8_records_28 (by decide) ?_
        refine o_iadd hx hb dX8_records_31 h (fun v10 h => ?_)
        refine y_iald hx hb hK hP 3 0 rfl rfl h dX8_records_32 (fun v11 h => ?_)
        refine z_iast hx hb hK.1 hP hD hS 3 0 rfl rfl h dX8_records_33 (fun hi12 H locs h hP hD hS => ?_)
        have hP : va_P D vwCl (wX8 ct a ms ah hi12 kp_ sl sv pd ln so po wr to) H := hP
        have hD : va_D A (wX8 ct a ms ah hi12 kp_ sl sv pd ln so po wr to) := hD
        refine o_nm h (fun v13 ey h => ?_)
        refine lv_iinc (v := v13) (lv' := [(1, .int v13), (0, .ref (a 30))]) hx hb dX8_records_34 hl (k := 1) rfl (Eq.trans rfl ey) (by decide) rfl (fun ls hl => ?_)
        refine lv_goto (tgt := 11) hx hb dX8_records_37 (by decide) ?_
        exact ih11 hi12 kp_ v13 h _ _ hP hD hS ls (lv_sub hl [1, 0] rfl)
  rw [f_X8_records] at h
  refine lv_aload_n hx hb dX8_records_0 rfl (lv_at hl 0 rfl) ?_
  refine z_get (C := RX8) (T := TX8) (N := 12) (ci := 7) hx hb hts zin_X8 hown hK.1 hP 0 3 rfl rfl (by decide) tw798 rfl rfl dX8_records_1 ?_
  refine lv_bipush (v := (6 : Int32)) hx hb dX8_records_4 (by decide) ?_
  refine zc_ne (tgt := 50) hx hb dX8_records_6 (by decide) h (fun h => ?_) (fun h => ?_)
  · refine lv_iconst (v := (0 : Int32)) hx hb dX8_records_50 (by decide) ?_
    refine lv_istore_n (lv' := [(1, .int (0 : Int32)), (0, .ref (a 30))]) hx hb dX8_records_51 rfl hl (by decide) rfl (fun ls hl => ?_)
    exact B52 k hi kp (0 : Int32) h _ _ hP hD hS ls (lv_sub hl [1, 0] rfl)
  · refine lv_iconst (v := (0 : Int32)) hx hb dX8_records_9 (by decide) ?_
    refine lv_istore_n (lv' := [(1, .int (0 : Int32)), (0, .ref (a 30))]) hx hb dX8_records_10 rfl hl (by decide) rfl (fun ls hl => ?_)
    exact B11 k hi kp (0 : Int32) h _ _ hP hD hS ls (lv_sub hl [1, 0] rfl)

def f_X8_lays (k : Nat) (ms : Nat → Int32) (ah : Nat → Int32) (hi : Nat → Int32) (kp : Int32) (p1 : Int32) (p2 : Int32) : Option (Int32 × (Nat → Int32) × (Nat → Int32) × (Nat → Int32) × Int32) :=
  zb1 (f_X8_looks k ms ah) fun ah1 =>
  zb2 (f_X8_records k ah1 hi kp) fun hi2 kp3 =>
  zg (zin p1 324) (zl (ms p1.toNatClampNeg) fun v4 =>
  zg (zin p1 324) (zl (upd ms p1.toNatClampNeg p2) fun ms5 =>
  some (v4, ms5, ah1, hi2, kp3)))
set_option maxRecDepth 100000 in
set_option maxHeartbeats 4000000 in
theorem ct_X8_lays (l : Launch) (D : va_G) (ct a : Nat → Nat) (ms : Nat → Int32) (ah : Nat → Int32) (hi : Nat → Int32) (kp : Int32) (sl : Nat → Int32) (sv : Nat → Int32) (pd : Nat → Int32) (ln : Int32) (so : Nat → Int32) (po : Int32) (wr : Int32) (to : Nat → Int32) (sz : Nat) (p1 : Int32) (p2 : Int32) (k : Nat) (r : Int32) (ms' : Nat → Int32) (ah' : Nat → Int32) (hi' : Nat → Int32) (kp' : Int32) (h : f_X8_lays k ms ah hi kp p1 p2 = some (r, ms', ah', hi', kp')) : Met l yX8_lays (Cond.code yX8_lays cX8_lays 4 (some .int) :: zT) ({ frames := 1, cells := 0, slots := 0, locals := 21 } : Room) (va_Pc [.ref (a 30), .int p1, .int p2] (zPW D (zTys ct) (wX8 ct a ms ah hi kp sl sv pd ln so po wr to) sz)) (va_Qi (fun r' (_ : Unit) => r' = r) (zQW D (wX8 ct a ms ah hi kp sl sv pd ln so po wr to) sz (wX8 ct a ms' ah' hi' kp' sl sv pd ln so po wr to)) (va_A (wX8 ct a ms ah hi kp sl sv pd ln so po wr to) sz)) 0 0 (va_A (wX8 ct a ms ah hi kp sl sv pd ln so po wr to) sz) := by
  refine zMet (cc := cX8_lays) (maxL := 4) (ret := (some .int)) (av := [.ref (a 30), .int p1, .int p2]) (by decide) (Nat.le_of_ble_eq_true rfl) (fun p e s m below meth c ls hx hb hr hml hts hown hlocks hin hB hl => ?_)
  have hl : lv_has ls 4 [(0, .ref (a 30)), (1, .int p1), (2, .int p2)] := hl
  have hown : s.vm.findClass RX8 = some m.cls := hown
  obtain ⟨hsz, hP, hK, hD0⟩ := hB
  subst hsz
  have hD := hD0.self (sz := s.heap.size)
  obtain ⟨A, hAe⟩ : ∃ A, A = va_A (wX8 ct a ms ah hi kp sl sv pd ln so po wr to) s.heap.size := ⟨_, rfl⟩
  rw [← hAe] at hD
  have hA : ∀ q : Nat, s.heap.size ≤ q → A q := fun q h => by rw [hAe]; exact Or.inr h
  have hS : va_S A s.heap s.heap [] := va_S.rf
  rw [f_X8_lays] at h
  refine lv_aload_n hx hb dX8_lays_0 rfl (lv_at hl 0 rfl) ?_
  obtain ⟨ah1, hc, h⟩ := zb1_s h
  refine zG_v (w1 := wX8 ct a ms ah1 hi kp sl sv pd ln so po wr to) (ws' := wX8 ct a ms ah1 hi kp sl sv pd ln so po wr to) hP hD hS hA [0, 1, 2, 3, 4, 5, 6, 7, 8] [] [0, 1, 2, 3, 4, 5, 6, 7, 8] rfl rfl (by decide) (by decide) rfl (by decide) (zrV (C := RX8) (As := []) (rest := []) hx hb hml hown hts tw843 mv_X8_looks ⟨Nat.le_of_ble_eq_true rfl, Nat.le_of_ble_eq_true rfl⟩ rfl rfl (ct_X8_looks l D ct a ms ah hi kp sl sv pd ln so po wr to _  k ah1 hc) (z_wv hK hP hD [0, 1, 2, 3, 4, 5, 6, 7, 8] (by decide) rfl 0 rfl rfl) hl.1 rfl rfl (Nat.le_of_ble_eq_true rfl) dX8_lays_1 ⟨Nat.le_refl _, Nat.le_refl _⟩) (fun H locs hP hD hS => ?_)
  refine lv_aload_n hx hb dX8_lays_4 rfl (lv_at hl 0 rfl) ?_
  obtain ⟨hi2, kp3, hc, h⟩ := zb2_s h
  refine zG_v (w1 := wX8 ct a ms ah1 hi2 kp3 sl sv pd ln so po wr to) (ws' := wX8 ct a ms ah1 hi2 kp3 sl sv pd ln so po wr to) hP hD hS hA [0, 1, 2, 3, 4, 5, 6, 7, 8] [] [0, 1, 2, 3, 4, 5, 6, 7, 8] rfl rfl (by decide) (by decide) rfl (by decide) (zrV (C := RX8) (As := []) (rest := []) hx hb hml hown hts tw847 mv_X8_records ⟨Nat.le_of_ble_eq_true rfl, Nat.le_of_ble_eq_true rfl⟩ rfl rfl (ct_X8_records l D ct a ms ah1 hi kp sl sv pd ln so po wr to _  k hi2 kp3 hc) (z_wv hK hP hD [0, 1, 2, 3, 4, 5, 6, 7, 8] (by decide) rfl 0 rfl rfl) hl.1 rfl rfl (Nat.le_of_ble_eq_true rfl) dX8_lays_5 ⟨Nat.le_refl _, Nat.le_refl _⟩) (fun H locs hP hD hS => ?_)
  refine lv_aload_n hx hb dX8_lays_8 rfl (lv_at hl 0 rfl) ?_
  refine z_get (C := RX8) (T := TX8) (N := 12) (ci := 7) hx hb hts zin_X8 hown hK.1 hP 0 0 rfl rfl (by decide) tw795 rfl rfl dX8_lays_9 ?_
  refine lv_iload_n hx hb dX8_lays_12 rfl (lv_at hl 1 rfl) ?_
  refine y_iald hx hb hK hP 1 0 rfl rfl h dX8_lays_13 (fun v4 h => ?_)
  refine lv_istore_n (lv' := [(3, .int v4), (0, .ref (a 30)), (1, .int p1), (2, .int p2)]) hx hb dX8_lays_14 rfl hl (by decide) rfl (fun ls hl => ?_)
  refine lv_aload_n hx hb dX8_lays_15 rfl (lv_at hl 1 rfl) ?_
  refine z_get (C := RX8) (T := TX8) (N := 12) (ci := 7) hx hb hts zin_X8 hown hK.1 hP 0 0 rfl rfl (by decide) tw795 rfl rfl dX8_lays_16 ?_
  refine lv_iload_n hx hb dX8_lays_19 rfl (lv_at hl 2 rfl) ?_
  refine lv_iload_n hx hb dX8_lays_20 rfl (lv_at hl 3 rfl) ?_
  refine z_iast hx hb hK.1 hP hD hS 1 0 rfl rfl h dX8_lays_21 (fun ms5 H locs h hP hD hS => ?_)
  have hP : va_P D vwCl (wX8 ct a ms5 ah1 hi2 kp3 sl sv pd ln so po wr to) H := hP
  have hD : va_D A (wX8 ct a ms5 ah1 hi2 kp3 sl sv pd ln so po wr to) := hD
  refine lv_iload_n hx hb dX8_lays_22 rfl (lv_at hl 0 rfl) ?_
  cases h
  exact zX_i hx hb hr hlocks hP hD hS hAe dX8_lays_23 rfl

def f_X8_set (k : Nat) (ms : Nat → Int32) (ah : Nat → Int32) (hi : Nat → Int32) (kp : Int32) (p1 : Int32) (p2 : Int32) : Option (Int32 × (Nat → Int32) × (Nat → Int32) × (Nat → Int32) × Int32) :=
  if p1 = 0 then
    zb1 (f_X8_in k p2 (0 : Int32) (9 : Int32)) fun v34 =>
    if v34 = 0 then
      some ((-2 : Int32), ms, ah, hi, kp)
    else
      zb5 (f_X8_lays k ms ah hi kp p1 p2) fun v35 ms36 ah37 hi38 kp39 =>
      zl (v35 + (100 : Int32)) fun v40 =>
      some (v40, ms36, ah37, hi38, kp39)
  else
    if p1 = (1 : Int32) then
      zb1 (f_X8_in k p2 (1 : Int32) (99 : Int32)) fun v27 =>
      if v27 = 0 then
        some ((-2 : Int32), ms, ah, hi, kp)
      else
        zb5 (f_X8_lays k ms ah hi kp p1 p2) fun v28 ms29 ah30 hi31 kp32 =>
        zl (v28 + (100 : Int32)) fun v33 =>
        some (v33, ms29, ah30, hi31, kp32)
    else
      if p1 = (2 : Int32) then
        zb1 (f_X8_in k p2 (-20 : Int32) (0 : Int32)) fun v20 =>
        if v20 = 0 then
          some ((-2 : Int32), ms, ah, hi, kp)
        else
          zb5 (f_X8_lays k ms ah hi kp p1 p2) fun v21 ms22 ah23 hi24 kp25 =>
          zl (v21 + (100 : Int32)) fun v26 =>
          some (v26, ms22, ah23, hi24, kp25)
      else
        if p1 = (3 : Int32) then
          zb1 (f_X8_in k p2 (0 : Int32) (30 : Int32)) fun v7 =>
          if v7 = 0 then
            if (0 : Int32) = 0 then
              some ((-2 : Int32), ms, ah, hi, kp)
            else
              zb5 (f_X8_lays k ms ah hi kp p1 p2) fun v8 ms9 ah10 hi11 kp12 =>
              zl (v8 + (100 : Int32)) fun v13 =>
              some (v13, ms9, ah10, hi11, kp12)
          else
            if (1 : Int32) = 0 then
              some ((-2 : Int32), ms, ah, hi, kp)
            else
              zb5 (f_X8_lays k ms ah hi kp p1 p2) fun v14 ms15 ah16 hi17 kp18 =>
              zl (v14 + (100 : Int32)) fun v19 =>
              some (v19, ms15, ah16, hi17, kp18)
        else
          if (0 : Int32) = 0 then
            some ((-2 : Int32), ms, ah, hi, kp)
          else
            zb5 (f_X8_lays k ms ah hi kp p1 p2) fun v1 ms2 ah3 hi4 kp5 =>
            zl (v1 + (100 : Int32)) fun v6 =>
            some (v6, ms2, ah3, hi4, kp5)
set_option maxRecDepth 100000 in
set_option maxHeartbeats 4000000 in
theorem ct_X8_set (l : Launch) (D : va_G) (ct a : Nat → Nat) (ms : Nat → Int32) (ah : Nat → Int32) (hi : Nat → Int32) (kp : Int32) (sl : Nat → Int32) (sv : Nat → Int32) (pd : Nat → Int32) (ln : Int32) (so : Nat → Int32) (po : Int32) (wr : Int32) (to : Nat → Int32) (sz : Nat) (p1 : Int32) (p2 : Int32) (k : Nat) (r : Int32) (ms' : Nat → Int32) (ah' : Nat → Int32) (hi' : Nat → Int32) (kp' : Int32) (h : f_X8_set k ms ah hi kp p1 p2 = some (r, ms', ah', hi', kp')) : Met l yX8_set (Cond.code yX8_set cX8_set 4 (some .int) :: zT) ({ frames := 2, cells := 0, slots := 0, locals := 44 } : Room) (va_Pc [.ref (a 30), .int p1, .int p2] (zPW D (zTys ct) (wX8 ct a ms ah hi kp sl sv pd ln so po wr to) sz)) (va_Qi (fun r' (_ : Unit) => r' = r) (zQW D (wX8 ct a ms ah hi kp sl sv pd ln so po wr to) sz (wX8 ct a ms' ah' hi' kp' sl sv pd ln so po wr to)) (va_A (wX8 ct a ms ah hi kp sl sv pd ln so po wr to) sz)) 0 0 (va_A (wX8 ct a ms ah hi kp sl sv pd ln so po wr to) sz) := by
  refine zMet (cc := cX8_set) (maxL := 4) (ret := (some .int)) (av := [.ref (a 30), .int p1, .int p2]) (by decide) (Nat.le_of_ble_eq_true rfl) (fun p e s m below meth c ls hx hb hr hml hts hown hlocks hin hB hl => ?_)
  have hl : lv_has ls 4 [(0, .ref (a 30)), (1, .int p1), (2, .int p2)] := hl
  have hown : s.vm.findClass RX8 = some m.cls := hown
  obtain ⟨hsz, hP, hK, hD0⟩ := hB
  subst hsz
  have hD := hD0.self (sz := s.heap.size)
  obtain ⟨A, hAe⟩ : ∃ A, A = va_A (wX8 ct a ms ah hi kp sl sv pd ln so po wr to) s.heap.size := ⟨_, rfl⟩
  rw [← hAe] at hD
  have hA : ∀ q : Nat, s.heap.size ≤ q → A q := fun q h => by rw [hAe]; exact Or.inr h
  have hS : va_S A s.heap s.heap [] := va_S.rf
  rw [f_X8_set] at h
  refine lv_iload_n hx hb dX8_set_0 rfl (lv_at hl 1 rfl) ?_
  refine zi_ne (tgt := 14) hx hb dX8_set_1 (by decide) h (fun h => ?_) (fun h => ?_)
  · refine lv_iload_n hx hb dX8_set_14 rfl (lv_at hl 1 rfl) ?_
    refine lv_iconst (v := (1 : Int32)) hx hb dX8_set_15 (by decide) ?_
    refine zc_ne (tgt := 29) hx hb dX8_set_16 (by decide) h (fun h => ?_) (fun h => ?_)
    · refine lv_iload_n hx hb dX8_set_29 rfl (lv_at hl 1 rfl) ?_
      refine lv_iconst (v := (2 : Int32)) hx hb dX8_set_30 (by decide) ?_
      refine zc_ne (tgt := 44) hx hb dX8_set_31 (by decide) h (fun h => ?_) (fun h => ?_)
      · refine lv_iload_n hx hb dX8_set_44 rfl (lv_at hl 1 rfl) ?_
        refine lv_iconst (v := (3 : Int32)) hx hb dX8_set_45 (by decide) ?_
        refine zc_ne (tgt := 63) hx hb dX8_set_46 (by decide) h (fun h => ?_) (fun h => ?_)
        · refine lv_iconst (v := (0 : Int32)) hx hb dX8_set_63 (by decide) ?_
          refine lv_istore_n (lv' := [(3, .int (0 : Int32)), (0, .ref (a 30)), (1, .int p1), (2, .int p2)]) hx hb dX8_set_64 rfl hl (by decide) rfl (fun ls hl => ?_)
          refine lv_iload_n hx hb dX8_set_65 rfl (lv_at hl 0 rfl) ?_
          refine zi_eq (tgt := 81) hx hb dX8_set_66 (by decide) h (fun h => ?_) (fun h => ?_)
          · refine lv_bipush (v := (-2 : Int32)) hx hb dX8_set_81 (by decide) ?_
            cases h
            exact zX_i hx hb hr hlocks hP hD hS hAe dX8_set_83 rfl
          · refine lv_aload_n hx hb dX8_set_69 rfl (lv_at hl 1 rfl) ?_
            refine lv_iload_n hx hb dX8_set_70 rfl (lv_at hl 2 rfl) ?_
            refine lv_iload_n hx hb dX8_set_71 rfl (lv_at hl 3 rfl) ?_
            obtain ⟨v1, ms2, ah3, hi4, kp5, hc, h⟩ := zb5_s h
            refine zG_i (w1 := wX8 ct a ms2 ah3 hi4 kp5 sl sv pd ln so po wr to) (ws' := wX8 ct a ms2 ah3 hi4 kp5 sl sv pd ln so po wr to) hP hD hS hA [0, 1, 2, 3, 4, 5, 6, 7, 8] [] [0, 1, 2, 3, 4, 5, 6, 7, 8] rfl rfl (by decide) (by decide) rfl (by decide) (zrV (C := RX8) (As := [.int p1, .int p2]) (rest := []) hx hb hml hown hts tw839 mv_X8_lays ⟨Nat.le_of_ble_eq_true rfl, Nat.le_of_ble_eq_true rfl⟩ rfl rfl (ct_X8_lays l D ct a ms ah hi kp sl sv pd ln so po wr to _ p1 p2 k v1 ms2 ah3 hi4 kp5 hc) (z_wv hK hP hD [0, 1, 2, 3, 4, 5, 6, 7, 8] (by decide) rfl 0 rfl rfl) hl.1 rfl rfl (Nat.le_of_ble_eq_true rfl) dX8_set_72 ⟨Nat.le_refl _, Nat.le_refl _⟩) (fun H locs hP hD hS => ?_)
            refine lv_bipush (v := (100 : Int32)) hx hb dX8_set_75 (by decide) ?_
            refine o_iadd hx hb dX8_set_77 h (fun v6 h => ?_)
            refine lv_goto (tgt := 83) hx hb dX8_set_78 (by decide) ?_
            cases h
            exact zX_i hx hb hr hlocks hP hD hS hAe dX8_set_83 rfl
        · refine lv_iload_n hx hb dX8_set_49 rfl (lv_at hl 2 rfl) ?_
          refine lv_iconst (v := (0 : Int32)) hx hb dX8_set_50 (by decide) ?_
          refine lv_bipush (v := (30 : Int32)) hx hb dX8_set_51 (by decide) ?_
          obtain ⟨v7, hc, h⟩ := zb1_s h
          refine zE_i (zrS (As := [.int p2, .int (0 : Int32), .int (30 : Int32)]) (rest := []) hx hb hml hown hts tw836 ms_X8_in ⟨Nat.le_of_ble_eq_true rfl, Nat.le_of_ble_eq_true rfl⟩ rfl rfl (ct_X8_in l p2 (0 : Int32) (30 : Int32) k v7 hc) z_p0 hl.1 rfl rfl (Nat.le_of_ble_eq_true rfl) dX8_set_53 ⟨Nat.le_refl _, Nat.le_refl _⟩) ?_
          refine zi_eq (tgt := 63) hx hb dX8_set_56 (by decide) h (fun h => ?_) (fun h => ?_)
          · refine lv_iconst (v := (0 : Int32)) hx hb dX8_set_63 (by decide) ?_
            refine lv_istore_n (lv' := [(3, .int (0 : Int32)), (0, .ref (a 30)), (1, .int p1), (2, .int p2)]) hx hb dX8_set_64 rfl hl (by decide) rfl (fun ls hl => ?_)
            refine lv_iload_n hx hb dX8_set_65 rfl (lv_at hl 0 rfl) ?_
            refine zi_eq (tgt := 81) hx hb dX8_set_66 (by decide) h (fun h => ?_) (fun h => ?_)
            · refine lv_bipush (v := (-2 : Int32)) hx hb dX8_set_81 (by decide) ?_
              cases h
              exact zX_i hx hb hr hlocks hP hD hS hAe dX8_set_83 rfl
            · refine lv_aload_n hx hb dX8_set_69 rfl (lv_at hl 1 rfl) ?_
              refine lv_iload_n hx hb dX8_set_70 rfl (lv_at hl 2 rfl) ?_
              refine lv_iload_n hx hb dX8_set_71 rfl (lv_at hl 3 rfl) ?_
              obtain ⟨v8, ms9, ah10, hi11, kp12, hc, h⟩ := zb5_s h
              refine zG_i (w1 := wX8 ct a ms9 ah10 hi11 kp12 sl sv pd ln so po wr to) (ws' := wX8 ct a ms9 ah10 hi11 kp12 sl sv pd ln so po wr to) hP hD hS hA [0, 1, 2, 3, 4, 5, 6, 7, 8] [] [0, 1, 2, 3, 4, 5, 6, 7, 8] rfl rfl (by decide) (by decide) rfl (by decide) (zrV (C := RX8) (As := [.int p1, .int p2]) (rest := []) hx hb hml hown hts tw839 mv_X8_lays ⟨Nat.le_of_ble_eq_true rfl, Nat.le_of_ble_eq_true rfl⟩ rfl rfl (ct_X8_lays l D ct a ms ah hi kp sl sv pd ln so po wr to _ p1 p2 k v8 ms9 ah10 hi11 kp12 hc) (z_wv hK hP hD [0, 1, 2, 3, 4, 5, 6, 7, 8] (by decide) rfl 0 rfl rfl) hl.1 rfl rfl (Nat.le_of_ble_eq_true rfl) dX8_set_72 ⟨Nat.le_refl _, Nat.le_refl _⟩) (fun H locs hP hD hS => ?_)
              refine lv_bipush (v := (100 : Int32)) hx hb dX8_set_75 (by decide) ?_
              refine o_iadd hx hb dX8_set_77 h (fun v13 h => ?_)
              refine lv_goto (tgt := 83) hx hb dX8_set_78 (by decide) ?_
              cases h
              exact zX_i hx hb hr hlocks hP hD hS hAe dX8_set_83 rfl
          · refine lv_iconst (v := (1 : Int32)) hx hb dX8_set_59 (by decide) ?_
            refine lv_goto (tgt := 64) hx hb dX8_set_60 (by decide) ?_
            refine lv_istore_n (lv' := [(3, .int (1 : Int32)), (0, .ref (a 30)), (1, .int p1), (2, .int p2)]) hx hb dX8_set_64 rfl hl (by decide) rfl (fun ls hl => ?_)
            refine lv_iload_n hx hb dX8_set_65 rfl (lv_at hl 0 rfl) ?_
            refine zi_eq (tgt := 81) hx hb dX8_set_66 (by decide) h (fun h => ?_) (fun h => ?_)
            · refine lv_bipush (v := (-2 : Int32)) hx hb dX8_set_81 (by decide) ?_
              cases h
              exact zX_i hx hb hr hlocks hP hD hS hAe dX8_set_83 rfl
            · refine lv_aload_n hx hb dX8_set_69 rfl (lv_at hl 1 rfl) ?_
              refine lv_iload_n hx hb dX8_set_70 rfl (lv_at hl 2 rfl) ?_
              refine lv_iload_n hx hb dX8_set_71 rfl (lv_at hl 3 rfl) ?_
              obtain ⟨v14, ms15, ah16, hi17, kp18, hc, h⟩ := zb5_s h
              refine zG_i (w1 := wX8 ct a ms15 ah16 hi17 kp18 sl sv pd ln so po wr to) (ws' := wX8 ct a ms15 ah16 hi17 kp18 sl sv pd ln so po wr to) hP hD hS hA [0, 1, 2, 3, 4, 5, 6, 7, 8] [] [0, 1, 2, 3, 4, 5, 6, 7, 8] rfl rfl (by decide) (by decide) rfl (by decide) (zrV (C := RX8) (As := [.int p1, .int p2]) (rest := []) hx hb hml hown hts tw839 mv_X8_lays ⟨Nat.le_of_ble_eq_true rfl, Nat.le_of_ble_eq_true rfl⟩ rfl rfl (ct_X8_lays l D ct a ms ah hi kp sl sv pd ln so po wr to _ p1 p2 k v14 ms15 ah16 hi17 kp18 hc) (z_wv hK hP hD [0, 1, 2, 3, 4, 5, 6, 7, 8] (by decide) rfl 0 rfl rfl) hl.1 rfl rfl (Nat.le_of_ble_eq_true rfl) dX8_set_72 ⟨Nat.le_refl _, Nat.le_refl _⟩) (fun H locs hP hD hS => ?_)
              refine lv_bipush (v := (100 : Int32)) hx hb dX8_set_75 (by decide) ?_
              refine o_iadd hx hb dX8_set_77 h (fun v19 h => ?_)
              refine lv_goto (tgt := 83) hx hb dX8_set_78 (by decide) ?_
              cases h
              exact zX_i hx hb hr hlocks hP hD hS hAe dX8_set_83 rfl
      · refine lv_iload_n hx hb dX8_set_34 rfl (lv_at hl 2 rfl) ?_
        refine lv_bipush (v := (-20 : Int32)) hx hb dX8_set_35 (by decide) ?_
        refine lv_iconst (v := (0 : Int32)) hx hb dX8_set_37 (by decide) ?_
        obtain ⟨v20, hc, h⟩ := zb1_s h
        refine zE_i (zrS (As := [.int p2, .int (-20 : Int32), .int (0 : Int32)]) (rest := []) hx hb hml hown hts tw836 ms_X8_in ⟨Nat.le_of_ble_eq_true rfl, Nat.le_of_ble_eq_true rfl⟩ rfl rfl (ct_X8_in l p2 (-20 : Int32) (0 : Int32) k v20 hc) z_p0 hl.1 rfl rfl (Nat.le_of_ble_eq_true rfl) dX8_set_38 ⟨Nat.le_refl _, Nat.le_refl _⟩) ?_
        refine lv_goto (tgt := 64) hx hb dX8_set_41 (by decide) ?_
        refine lv_istore_n (lv' := [(3, .int v20), (0, .ref (a 30)), (1, .int p1), (2, .int p2)]) hx hb dX8_set_64 rfl hl (by decide) rfl (fun ls hl => ?_)
        refine lv_iload_n hx hb dX8_set_65 rfl (lv_at hl 0 rfl) ?_
        refine zi_eq (tgt := 81) hx hb dX8_set_66 (by decide) h (fun h => ?_) (fun h => ?_)
        · refine lv_bipush (v := (-2 : Int32)) hx hb dX8_set_81 (by decide) ?_
          cases h
          exact zX_i hx hb hr hlocks hP hD hS hAe dX8_set_83 rfl
        · refine lv_aload_n hx hb dX8_set_69 rfl (lv_at hl 1 rfl) ?_
          refine lv_iload_n hx hb dX8_set_70 rfl (lv_at hl 2 rfl) ?_
          refine lv_iload_n hx hb dX8_set_71 rfl (lv_at hl 3 rfl) ?_
          obtain ⟨v21, ms22, ah23, hi24, kp25, hc, h⟩ := zb5_s h
          refine zG_i (w1 := wX8 ct a ms22 ah23 hi24 kp25 sl sv pd ln so po wr to) (ws' := wX8 ct a ms22 ah23 hi24 kp25 sl sv pd ln so po wr to) hP hD hS hA [0, 1, 2, 3, 4, 5, 6, 7, 8] [] [0, 1, 2, 3, 4, 5, 6, 7, 8] rfl rfl (by decide) (by decide) rfl (by decide) (zrV (C := RX8) (As := [.int p1, .int p2]) (rest := []) hx hb hml hown hts tw839 mv_X8_lays ⟨Nat.le_of_ble_eq_true rfl, Nat.le_of_ble_eq_true rfl⟩ rfl rfl (ct_X8_lays l D ct a ms ah hi kp sl sv pd ln so po wr to _ p1 p2 k v21 ms22 ah23 hi24 kp25 hc) (z_wv hK hP hD [0, 1, 2, 3, 4, 5, 6, 7, 8] (by decide) rfl 0 rfl rfl) hl.1 rfl rfl (Nat.le_of_ble_eq_true rfl) dX8_set_72 ⟨Nat.le_refl _, Nat.le_refl _⟩) (fun H locs hP hD hS => ?_)
          refine lv_bipush (v := (100 : Int32)) hx hb dX8_set_75 (by decide) ?_
          refine o_iadd hx hb dX8_set_77 h (fun v26 h => ?_)
          refine lv_goto (tgt := 83) hx hb dX8_set_78 (by decide) ?_
          cases h
          exact zX_i hx hb hr hlocks hP hD hS hAe dX8_set_83 rfl
    · refine lv_iload_n hx hb dX8_set_19 rfl (lv_at hl 2 rfl) ?_
      refine lv_iconst (v := (1 : Int32)) hx hb dX8_set_20 (by decide) ?_
      refine lv_bipush (v := (99 : Int32)) hx hb dX8_set_21 (by decide) ?_
      obtain ⟨v27, hc, h⟩ := zb1_s h
      refine zE_i (zrS (As := [.int p2, .int (1 : Int32), .int (99 : Int32)]) (rest := []) hx hb hml hown hts tw836 ms_X8_in ⟨Nat.le_of_ble_eq_true rfl, Nat.le_of_ble_eq_true rfl⟩ rfl rfl (ct_X8_in l p2 (1 : Int32) (99 : Int32) k v27 hc) z_p0 hl.1 rfl rfl (Nat.le_of_ble_eq_true rfl) dX8_set_23 ⟨Nat.le_refl _, Nat.le_refl _⟩) ?_
      refine lv_goto (tgt := 64) hx hb dX8_set_26 (by decide) ?_
      refine lv_istore_n (lv' := [(3, .int v27), (0, .ref (a 30)), (1, .int p1), (2, .int p2)]) hx hb dX8_set_64 rfl hl (by decide) rfl (fun ls hl => ?_)
      refine lv_iload_n hx hb dX8_set_65 rfl (lv_at hl 0 rfl) ?_
      refine zi_eq (tgt := 81) hx hb dX8_set_66 (by decide) h (fun h => ?_) (fun h => ?_)
      · refine lv_bipush (v := (-2 : Int32)) hx hb dX8_set_81 (by decide) ?_
        cases h
        exact zX_i hx hb hr hlocks hP hD hS hAe dX8_set_83 rfl
      · refine lv_aload_n hx hb dX8_set_69 rfl (lv_at hl 1 rfl) ?_
        refine lv_iload_n hx hb dX8_set_70 rfl (lv_at hl 2 rfl) ?_
        refine lv_iload_n hx hb dX8_set_71 rfl (lv_at hl 3 rfl) ?_
        obtain ⟨v28, ms29, ah30, hi31, kp32, hc, h⟩ := zb5_s h
        refine zG_i (w1 := wX8 ct a ms29 ah30 hi31 kp32 sl sv pd ln so po wr to) (ws' := wX8 ct a ms29 ah30 hi31 kp32 sl sv pd ln so po wr to) hP hD hS hA [0, 1, 2, 3, 4, 5, 6, 7, 8] [] [0, 1, 2, 3, 4, 5, 6, 7, 8] rfl rfl (by decide) (by decide) rfl (by decide) (zrV (C := RX8) (As := [.int p1, .int p2]) (rest := []) hx hb hml hown hts tw839 mv_X8_lays ⟨Nat.le_of_ble_eq_true rfl, Nat.le_of_ble_eq_true rfl⟩ rfl rfl (ct_X8_lays l D ct a ms ah hi kp sl sv pd ln so po wr to _ p1 p2 k v28 ms29 ah30 hi31 kp32 hc) (z_wv hK hP hD [0, 1, 2, 3, 4, 5, 6, 7, 8] (by decide) rfl 0 rfl rfl) hl.1 rfl rfl (Nat.le_of_ble_eq_true rfl) dX8_set_72 ⟨Nat.le_refl _, Nat.le_refl _⟩) (fun H locs hP hD hS => ?_)
        refine lv_bipush (v := (100 : Int32)) hx hb dX8_set_75 (by decide) ?_
        refine o_iadd hx hb dX8_set_77 h (fun v33 h => ?_)
        refine lv_goto (tgt := 83) hx hb dX8_set_78 (by decide) ?_
        cases h
        exact zX_i hx hb hr hlocks hP hD hS hAe dX8_set_83 rfl
  · refine lv_iload_n hx hb dX8_set_4 rfl (lv_at hl 2 rfl) ?_
    refine lv_iconst (v := (0 : Int32)) hx hb dX8_set_5 (by decide) ?_
    refine lv_bipush (v := (9 : Int32)) hx hb dX8_set_6 (by decide) ?_
    obtain ⟨v34, hc, h⟩ := zb1_s h
    refine zE_i (zrS (As := [.int p2, .int (0 : Int32), .int (9 : Int32)]) (rest := []) hx hb hml hown hts tw836 ms_X8_in ⟨Nat.le_of_ble_eq_true rfl, Nat.le_of_ble_eq_true rfl⟩ rfl rfl (ct_X8_in l p2 (0 : Int32) (9 : Int32) k v34 hc) z_p0 hl.1 rfl rfl (Nat.le_of_ble_eq_true rfl) dX8_set_8 ⟨Nat.le_refl _, Nat.le_refl _⟩) ?_
    refine lv_goto (tgt := 64) hx hb dX8_set_11 (by decide) ?_
    refine lv_istore_n (lv' := [(3, .int v34), (0, .ref (a 30)), (1, .int p1), (2, .int p2)]) hx hb dX8_set_64 rfl hl (by decide) rfl (fun ls hl => ?_)
    refine lv_iload_n hx hb dX8_set_65 rfl (lv_at hl 0 rfl) ?_
    refine zi_eq (tgt := 81) hx hb dX8_set_66 (by decide) h (fun h => ?_) (fun h => ?_)
    · refine lv_bipush (v := (-2 : Int32)) hx hb dX8_set_81 (by decide) ?_
      cases h
      exact zX_i hx hb hr hlocks hP hD hS hAe dX8_set_83 rfl
    · refine lv_aload_n hx hb dX8_set_69 rfl (lv_at hl 1 rfl) ?_
      refine lv_iload_n hx hb dX8_set_70 rfl (lv_at hl 2 rfl) ?_
      refine lv_iload_n hx hb dX8_set_71 rfl (lv_at hl 3 rfl) ?_
      obtain ⟨v35, ms36, ah37, hi38, kp39, hc, h⟩ := zb5_s h
      refine zG_i (w1 := wX8 ct a ms36 ah37 hi38 kp39 sl sv pd ln so po wr to) (ws' := wX8 ct a ms36 ah37 hi38 kp39 sl sv pd ln so po wr to) hP hD hS hA [0, 1, 2, 3, 4, 5, 6, 7, 8] [] [0, 1, 2, 3, 4, 5, 6, 7, 8] rfl rfl (by decide) (by decide) rfl (by decide) (zrV (C := RX8) (As := [.int p1, .int p2]) (rest := []) hx hb hml hown hts tw839 mv_X8_lays ⟨Nat.le_of_ble_eq_true rfl, Nat.le_of_ble_eq_true rfl⟩ rfl rfl (ct_X8_lays l D ct a ms ah hi kp sl sv pd ln so po wr to _ p1 p2 k v35 ms36 ah37 hi38 kp39 hc) (z_wv hK hP hD [0, 1, 2, 3, 4, 5, 6, 7, 8] (by decide) rfl 0 rfl rfl) hl.1 rfl rfl (Nat.le_of_ble_eq_true rfl) dX8_set_72 ⟨Nat.le_refl _, Nat.le_refl _⟩) (fun H locs hP hD hS => ?_)
      refine lv_bipush (v := (100 : Int32)) hx hb dX8_set_75 (by decide) ?_
      refine o_iadd hx hb dX8_set_77 h (fun v40 h => ?_)
      refine lv_goto (tgt := 83) hx hb dX8_set_78 (by decide) ?_
      cases h
      exact zX_i hx hb hr hlocks hP hD hS hAe dX8_set_83 rfl

def f_X8_isSize (k : Nat) (p1 : Int32) : Option (Int32) :=
  zb1 (f_X8_in k p1 (1 : Int32) (300 : Int32)) fun v1 =>
  zg (zbo v1) (some v1)
set_option maxRecDepth 100000 in
set_option maxHeartbeats 4000000 in
theorem ct_X8_isSize (l : Launch) (p1 : Int32) (k : Nat) (r : Int32) (h : f_X8_isSize k p1 = some r) : Met l yX8_isSize (Cond.code yX8_isSize cX8_isSize 1 (some .boolean) :: zT) ({ frames := 1, cells := 0, slots := 0, locals := 22 } : Room) (va_Pc [.int p1] (fun _ => True)) (vp_Si (fun r' => r' = r)) 0 0 (fun _ => False) := by
  refine zMet (cc := cX8_isSize) (maxL := 1) (ret := (some .boolean)) (av := [.int p1]) (by decide) (Nat.le_of_ble_eq_true rfl) (fun p e s m below meth c ls hx hb hr hml hts hown hlocks hin hB hl => ?_)
  have hl : lv_has ls 1 [(0, .int p1)] := hl
  have hown : s.vm.findClass RX8 = some m.cls := hown
  rw [f_X8_isSize] at h
  refine lv_iload_n hx hb dX8_isSize_0 rfl (lv_at hl 0 rfl) ?_
  refine lv_iconst (v := (1 : Int32)) hx hb dX8_isSize_1 (by decide) ?_
  refine lv_sipush (v := (300 : Int32)) hx hb dX8_isSize_2 (by decide) ?_
  obtain ⟨v1, hc, h⟩ := zb1_s h
  refine zE_i (zrS (As := [.int p1, .int (1 : Int32), .int (300 : Int32)]) (rest := []) hx hb hml hown hts tw836 ms_X8_in ⟨Nat.le_of_ble_eq_true rfl, Nat.le_of_ble_eq_true rfl⟩ rfl rfl (ct_X8_in l p1 (1 : Int32) (300 : Int32) k v1 hc) z_p0 hl.1 rfl rfl (Nat.le_of_ble_eq_true rfl) dX8_isSize_5 ⟨Nat.le_refl _, Nat.le_refl _⟩) ?_
  exact zR_z hx hb hr hlocks dX8_isSize_8 h

def f_X8_at (k : Nat) (p1 : Int32) (p2 : Int32) : Option (Int32) :=
  zl ((10 : Int32) * p1) fun v1 =>
  zl ((12 : Int32) + v1) fun v2 =>
  zl (v2 + p2) fun v3 =>
  some v3
set_option maxRecDepth 100000 in
set_option maxHeartbeats 4000000 in
theorem ct_X8_at (l : Launch) (p1 : Int32) (p2 : Int32) (k : Nat) (r : Int32) (h : f_X8_at k p1 p2 = some r) : Met l yX8_at (Cond.code yX8_at cX8_at 2 (some .int) :: zT) ({ frames := 0, cells := 0, slots := 0, locals := 0 } : Room) (va_Pc [.int p1, .int p2] (fun _ => True)) (vp_Si (fun r' => r' = r)) 0 0 (fun _ => False) := by
  refine zMet (cc := cX8_at) (maxL := 2) (ret := (some .int)) (av := [.int p1, .int p2]) (by decide) (Nat.le_of_ble_eq_true rfl) (fun p e s m below meth c ls hx hb hr hml hts hown hlocks hin hB hl => ?_)
  have hl : lv_has ls 2 [(0, .int p1), (1, .int p2)] := hl
  have hown : s.vm.findClass RX8 = some m.cls := hown
  rw [f_X8_at] at h
  refine lv_bipush (v := (12 : Int32)) hx hb dX8_at_0 (by decide) ?_
  refine lv_bipush (v := (10 : Int32)) hx hb dX8_at_2 (by decide) ?_
  refine lv_iload_n hx hb dX8_at_4 rfl (lv_at hl 0 rfl) ?_
  refine o_imul hx hb dX8_at_5 h (fun v1 h => ?_)
  refine o_iadd hx hb dX8_at_6 h (fun v2 h => ?_)
  refine lv_iload_n hx hb dX8_at_7 rfl (lv_at hl 1 rfl) ?_
  refine o_iadd hx hb dX8_at_8 h (fun v3 h => ?_)
  exact zR_i hx hb hr hlocks dX8_at_9 h

def f_X8_newBlock_b21 (k : Nat) (p1 : Int32) (p2 : Int32) (p3 : Int32) (p4 : Int32)  : Nat → (Nat → Int32) → Int32 → Int32 → Option (Int32 × (Nat → Int32))
  | 0, _, _, _ => none
  | n + 1, ms_, x5, x6 =>
    if (10 : Int32) ≤ x6 then
      zb1 (f_X8_at k x5 (0 : Int32)) fun v5 =>
      zg (zin v5 324) (zl (upd ms_ v5.toNatClampNeg p1) fun ms6 =>
      zb1 (f_X8_at k x5 (1 : Int32)) fun v7 =>
      zg (zin v7 324) (zl (upd ms6 v7.toNatClampNeg p2) fun ms8 =>
      zb1 (f_X8_at k x5 (2 : Int32)) fun v9 =>
      zg (zin v9 324) (zl (upd ms8 v9.toNatClampNeg p3) fun ms10 =>
      zb1 (f_X8_at k x5 (3 : Int32)) fun v11 =>
      zg (zin v11 324) (zl (upd ms10 v11.toNatClampNeg p4) fun ms12 =>
      zb1 (f_X8_at k x5 (7 : Int32)) fun v13 =>
      zg (zin v13 324) (zl (upd ms12 v13.toNatClampNeg (-6 : Int32)) fun ms14 =>
      zb1 (f_X8_at k x5 (8 : Int32)) fun v15 =>
      zg (zin v15 324) (zl (upd ms14 v15.toNatClampNeg (-6 : Int32)) fun ms16 =>
      zb1 (f_X8_at k x5 (9 : Int32)) fun v17 =>
      zg (zin v17 324) (zl (upd ms16 v17.toNatClampNeg (-6 : Int32)) fun ms18 =>
      some (x5, ms18))))))))
    else
      zb1 (f_X8_at k x5 x6) fun v19 =>
      zg (zin v19 324) (zl (upd ms_ v19.toNatClampNeg (0 : Int32)) fun ms20 =>
      zl (x6 + (1 : Int32)) fun v21 =>
      f_X8_newBlock_b21 k p1 p2 p3 p4 n ms20 x5 v21)
def f_X8_newBlock (k : Nat) (ms : Nat → Int32) (p1 : Int32) (p2 : Int32) (p3 : Int32) (p4 : Int32) : Option (Int32 × (Nat → Int32)) :=
  zl (ms 5) fun v1 =>
  zl (ms 5) fun v2 =>
  zl (v2 + (1 : Int32)) fun v3 =>
  zl (upd ms 5 v3) fun ms4 =>
  f_X8_newBlock_b21 k p1 p2 p3 p4 k ms4 v1 (0 : Int32)
set_option maxRecDepth 100000 in
set_option maxHeartbeats 4000000 in
theorem ct_X8_newBlock (l : Launch) (D : va_G) (ct a : Nat → Nat) (ms : Nat → Int32) (ah : Nat → Int32) (hi : Nat → Int32) (kp : Int32) (sl : Nat → Int32) (sv : Nat → Int32) (pd : Nat → Int32) (ln : Int32) (so : Nat → Int32) (po : Int32) (wr : Int32) (to : Nat → Int32) (sz : Nat) (p1 : Int32) (p2 : Int32) (p3 : Int32) (p4 : Int32) (k : Nat) (r : Int32) (ms' : Nat → Int32) (h : f_X8_newBlock k ms p1 p2 p3 p4 = some (r, ms')) : Met l yX8_newBlock (Cond.code yX8_newBlock cX8_newBlock 7 (some .int) :: zT) ({ frames := 1, cells := 0, slots := 0, locals := 21 } : Room) (va_Pc [.ref (a 30), .int p1, .int p2, .int p3, .int p4] (zPW D (zTys ct) (wX8 ct a ms ah hi kp sl sv pd ln so po wr to) sz)) (va_Qi (fun r' (_ : Unit) => r' = r) (zQW D (wX8 ct a ms ah hi kp sl sv pd ln so po wr to) sz (wX8 ct a ms' ah hi kp sl sv pd ln so po wr to)) (va_A (wX8 ct a ms ah hi kp sl sv pd ln so po wr to) sz)) 0 0 (va_A (wX8 ct a ms ah hi kp sl sv pd ln so po wr to) sz) := by
  refine zMet (cc := cX8_newBlock) (maxL := 7) (ret := (some .int)) (av := [.ref (a 30), .int p1, .int p2, .int p3, .int p4]) (by decide) (Nat.le_of_ble_eq_true rfl) (fun p e s m below meth c ls hx hb hr hml hts hown hlocks hin hB hl => ?_)
  have hl : lv_has ls 7 [(0, .ref (a 30)), (1, .int p1), (2, .int p2), (3, .int p3), (4, .int p4)] := hl
  have hown : s.vm.findClass RX8 = some m.cls := hown
  obtain ⟨hsz, hP, hK, hD0⟩ := hB
  subst hsz
  have hD := hD0.self (sz := s.heap.size)
  obtain ⟨A, hAe⟩ : ∃ A, A = va_A (wX8 ct a ms ah hi kp sl sv pd ln so po wr to) s.heap.size := ⟨_, rfl⟩
  rw [← hAe] at hD
  have hA : ∀ q : Nat, s.heap.size ≤ q → A q := fun q h => by rw [hAe]; exact Or.inr h
  have hS : va_S A s.heap s.heap [] := va_S.rf
  have B21 : ∀ (n : Nat), ∀ (ms_ : Nat → Int32) (x5 : Int32) (x6 : Int32), f_X8_newBlock_b21 k p1 p2 p3 p4 n ms_ x5 x6 = some (r, ms') → ∀ (H : Heap) (locs : List Loc), va_P D vwCl (wX8 ct a ms_ ah hi kp sl sv pd ln so po wr to) H → va_D A (wX8 ct a ms_ ah hi kp sl sv pd ln so po wr to) → va_S A s.heap H locs → ∀ (ls : Array Slot), lv_has ls 7 [(0, .ref (a 30)), (1, .int p1), (2, .int p2), (3, .int p3), (4, .int p4), (5, .int x5), (6, .int x6)] → W p l e ({ frames := 1, cells := 0, slots := 0, locals := 21 } : Room) s m ([.ref (a 30), .int p1, .int p2, .int p3, .int p4] : List Value).toArray below meth c H locs 0 0 (MQ below (va_Qi (fun r' (_ : Unit) => r' = r) (zQW D (wX8 ct a ms ah hi kp sl sv pd ln so po wr to) s.heap.size (wX8 ct a ms' ah hi kp sl sv pd ln so po wr to)) (va_A (wX8 ct a ms ah hi kp sl sv pd ln so po wr to) s.heap.size)) ([.ref (a 30), .int p1, .int p2, .int p3, .int p4] : List Value).toArray s 0 0 (va_A (wX8 ct a ms ah hi kp sl sv pd ln so po wr to) s.heap.size)) (F0 m 21 ls []) := by
    intro n
    induction n with
    | zero => intro ms_ x5 x6 h; exact absurd h (by rw [f_X8_newBlock_b21]; exact fun q => nomatch q)
    | succ n ih21 =>
      intro ms_ x5 x6 h H locs hP hD hS ls hl
      rw [f_X8_newBlock_b21] at h
      refine lv_iload hx hb dX8_newBlock_21 (lv_at hl 6 rfl) ?_
      refine lv_bipush (v := (10 : Int32)) hx hb dX8_newBlock_23 (by decide) ?_
      refine zc_ge (tgt := 47) hx hb dX8_newBlock_25 (by decide) h (fun h => ?_) (fun h => ?_)
      · refine lv_aload_n hx hb dX8_newBlock_47 rfl (lv_at hl 0 rfl) ?_
        refine z_get (C := RX8) (T := TX8) (N := 12) (ci := 7) hx hb hts zin_X8 hown hK.1 hP 0 0 rfl rfl (by decide) tw795 rfl rfl dX8_newBlock_48 ?_
        refine lv_iload hx hb dX8_newBlock_51 (lv_at hl 5 rfl) ?_
        refine lv_iconst (v := (0 : Int32)) hx hb dX8_newBlock_53 (by decide) ?_
        obtain ⟨v5, hc, h⟩ := zb1_s h
        refine zE_i (zrS (As := [.int x5, .int (0 : Int32)]) (rest := [.ref (a 31)]) hx hb hml hown hts tw874 ms_X8_at ⟨Nat.le_of_ble_eq_true rfl, Nat.le_of_ble_eq_true rfl⟩ rfl rfl (ct_X8_at l x5 (0 : Int32) k v5 hc) z_p0 hl.1 rfl rfl (Nat.le_of_ble_eq_true rfl) dX8_newBlock_54 ⟨Nat.le_refl _, Nat.le_refl _⟩) ?_
        refine lv_iload_n hx hb dX8_newBlock_57 rfl (lv_at hl 1 rfl) ?_
        refine z_iast hx hb hK.1 hP hD hS 1 0 rfl rfl h dX8_newBlock_58 (fun ms6 H locs h hP hD hS => ?_)
        have hP : va_P D vwCl (wX8 ct a ms6 ah hi kp sl sv pd ln so po wr to) H := hP
        have hD : va_D A (wX8 ct a ms6 ah hi kp sl sv pd ln so po wr to) := hD
        refine lv_aload_n hx hb dX8_newBlock_59 rfl (lv_at hl 0 rfl) ?_
        refine z_get (C := RX8) (T := TX8) (N := 12) (ci := 7) hx hb hts zin_X8 hown hK.1 hP 0 0 rfl rfl (by decide) tw795 rfl rfl dX8_newBlock_60 ?_
        refine lv_iload hx hb dX8_newBlock_63 (lv_at hl 5 rfl) ?_
        refine lv_iconst (v := (1 : Int32)) hx hb dX8_newBlock_65 (by decide) ?_
        obtain ⟨v7, hc, h⟩ := zb1_s h
        refine zE_i (zrS (As := [.int x5, .int (1 : Int32)]) (rest := [.ref (a 31)]) hx hb hml hown hts tw874 ms_X8_at ⟨Nat.le_of_ble_eq_true rfl, Nat.le_of_ble_eq_true rfl⟩ rfl rfl (ct_X8_at l x5 (1 : Int32) k v7 hc) z_p0 hl.1 rfl rfl (Nat.le_of_ble_eq_true rfl) dX8_newBlock_66 ⟨Nat.le_refl _, Nat.le_refl _⟩) ?_
        refine lv_iload_n hx hb dX8_newBlock_69 rfl (lv_at hl 2 rfl) ?_
        refine z_iast hx hb hK.1 hP hD hS 1 0 rfl rfl h dX8_newBlock_70 (fun ms8 H locs h hP hD hS => ?_)
        have hP : va_P D vwCl (wX8 ct a ms8 ah hi kp sl sv pd ln so po wr to) H := hP
        have hD : va_D A (wX8 ct a ms8 ah hi kp sl sv pd ln so po wr to) := hD
        refine lv_aload_n hx hb dX8_newBlock_71 rfl (lv_at hl 0 rfl) ?_
        refine z_get (C := RX8) (T := TX8) (N := 12) (ci := 7) hx hb hts zin_X8 hown hK.1 hP 0 0 rfl rfl (by decide) tw795 rfl rfl dX8_newBlock_72 ?_
        refine lv_iload hx hb dX8_newBlock_75 (lv_at hl 5 rfl) ?_
        refine lv_iconst (v := (2 : Int32)) hx hb dX8_newBlock_77 (by decide) ?_
        obtain ⟨v9, hc, h⟩ := zb1_s h
        refine zE_i (zrS (As := [.int x5, .int (2 : Int32)]) (rest := [.ref (a 31)]) hx hb hml hown hts tw874 ms_X8_at ⟨Nat.le_of_ble_eq_true rfl, Nat.le_of_ble_eq_true rfl⟩ rfl rfl (ct_X8_at l x5 (2 : Int32) k v9 hc) z_p0 hl.1 rfl rfl (Nat.le_of_ble_eq_true rfl) dX8_newBlock_78 ⟨Nat.le_refl _, Nat.le_refl _⟩) ?_
        refine lv_iload_n hx hb dX8_newBlock_81 rfl (lv_at hl 3 rfl) ?_
        refine z_iast hx hb hK.1 hP hD hS 1 0 rfl rfl h dX8_newBlock_82 (fun ms10 H locs h hP hD hS => ?_)
        have hP : va_P D vwCl (wX8 ct a ms10 ah hi kp sl sv pd ln so po wr to) H := hP
        have hD : va_D A (wX8 ct a ms10 ah hi kp sl sv pd ln so po wr to) := hD
        refine lv_aload_n hx hb dX8_newBlock_83 rfl (lv_at hl 0 rfl) ?_
        refine z_get (C := RX8) (T := TX8) (N := 12) (ci := 7) hx hb hts zin_X8 hown hK.1 hP 0 0 rfl rfl (by decide) tw795 rfl rfl dX8_newBlock_84 ?_
        refine lv_iload hx hb dX8_newBlock_87 (lv_at hl 5 rfl) ?_
        refine lv_iconst (v := (3 : Int32)) hx hb dX8_newBlock_89 (by decide) ?_
        obtain ⟨v11, hc, h⟩ := zb1_s h
        refine zE_i (zrS (As := [.int x5, .int (3 : Int32)]) (rest := [.ref (a 31)]) hx hb hml hown hts tw874 ms_X8_at ⟨Nat.le_of_ble_eq_true rfl, Nat.le_of_ble_eq_true rfl⟩ rfl rfl (ct_X8_at l x5 (3 : Int32) k v11 hc) z_p0 hl.1 rfl rfl (Nat.le_of_ble_eq_true rfl) dX8_newBlock_90 ⟨Nat.le_refl _, Nat.le_refl _⟩) ?_
        refine lv_iload hx hb dX8_newBlock_93 (lv_at hl 4 rfl) ?_
        refine z_iast hx hb hK.1 hP hD hS 1 0 rfl rfl h dX8_newBlock_95 (fun ms12 H locs h hP hD hS => ?_)
        have hP : va_P D vwCl (wX8 ct a ms12 ah hi kp sl sv pd ln so po wr to) H := hP
        have hD : va_D A (wX8 ct a ms12 ah hi kp sl sv pd ln so po wr to) := hD
        refine lv_aload_n hx hb dX8_newBlock_96 rfl (lv_at hl 0 rfl) ?_
        refine z_get (C := RX8) (T := TX8) (N := 12) (ci := 7) hx hb hts zin_X8 hown hK.1 hP 0 0 rfl rfl (by decide) tw795 rfl rfl dX8_newBlock_97 ?_
        refine lv_iload hx hb dX8_newBlock_100 (lv_at hl 5 rfl) ?_
        refine lv_bipush (v := (7 : Int32)) hx hb dX8_newBlock_102 (by decide) ?_
        obtain ⟨v13, hc, h⟩ := zb1_s h
        refine zE_i (zrS (As := [.int x5, .int (7 : Int32)]) (rest := [.ref (a 31)]) hx hb hml hown hts tw874 ms_X8_at ⟨Nat.le_of_ble_eq_true rfl, Nat.le_of_ble_eq_true rfl⟩ rfl rfl (ct_X8_at l x5 (7 : Int32) k v13 hc) z_p0 hl.1 rfl rfl (Nat.le_of_ble_eq_true rfl) dX8_newBlock_104 ⟨Nat.le_refl _, Nat.le_refl _⟩) ?_
        refine lv_bipush (v := (-6 : Int32)) hx hb dX8_newBlock_107 (by decide) ?_
        refine z_iast hx hb hK.1 hP hD hS 1 0 rfl rfl h dX8_newBlock_109 (fun ms14 H locs h hP hD hS => ?_)
        have hP : va_P D vwCl (wX8 ct a ms14 ah hi kp sl sv pd ln so po wr to) H := hP
        have hD : va_D A (wX8 ct a ms14 ah hi kp sl sv pd ln so po wr to) := hD
        refine lv_aload_n hx hb dX8_newBlock_110 rfl (lv_at hl 0 rfl) ?_
        refine z_get (C := RX8) (T := TX8) (N := 12) (ci := 7) hx hb hts zin_X8 hown hK.1 hP 0 0 rfl rfl (by decide) tw795 rfl rfl dX8_newBlock_111 ?_
        refine lv_iload hx hb dX8_newBlock_114 (lv_at hl 5 rfl) ?_
        refine lv_bipush (v := (8 : Int32)) hx hb dX8_newBlock_116 (by decide) ?_
        obtain ⟨v15, hc, h⟩ := zb1_s h
        refine zE_i (zrS (As := [.int x5, .int (8 : Int32)]) (rest := [.ref (a 31)]) hx hb hml hown hts tw874 ms_X8_at ⟨Nat.le_of_ble_eq_true rfl, Nat.le_of_ble_eq_true rfl⟩ rfl rfl (ct_X8_at l x5 (8 : Int32) k v15 hc) z_p0 hl.1 rfl rfl (Nat.le_of_ble_eq_true rfl) dX8_newBlock_118 ⟨Nat.le_refl _, Nat.le_refl _⟩) ?_
        refine lv_bipush (v := (-6 : Int32)) hx hb dX8_newBlock_121 (by decide) ?_
        refine z_iast hx hb hK.1 hP hD hS 1 0 rfl rfl h dX8_newBlock_123 (fun ms16 H locs h hP hD hS => ?_)
        have hP : va_P D vwCl (wX8 ct a ms16 ah hi kp sl sv pd ln so po wr to) H := hP
        have hD : va_D A (wX8 ct a ms16 ah hi kp sl sv pd ln so po wr to) := hD
        refine lv_aload_n hx hb dX8_newBlock_124 rfl (lv_at hl 0 rfl) ?_
        refine z_get (C := RX8) (T := TX8) (N := 12) (ci := 7) hx hb hts zin_X8 hown hK.1 hP 0 0 rfl rfl (by decide) tw795 rfl rfl dX8_newBlock_125 ?_
        refine lv_iload hx hb dX8_newBlock_128 (lv_at hl 5 rfl) ?_
        refine lv_bipush (v := (9 : Int32)) hx hb dX8_newBlock_130 (by decide) ?_
        obtain ⟨v17, hc, h⟩ := zb1_s h
        refine zE_i (zrS (As := [.int x5, .int (9 : Int32)]) (rest := [.ref (a 31)]) hx hb hml hown hts tw874 ms_X8_at ⟨Nat.le_of_ble_eq_true rfl, Nat.le_of_ble_eq_true rfl⟩ rfl rfl (ct_X8_at l x5 (9 : Int32) k v17 hc) z_p0 hl.1 rfl rfl (Nat.le_of_ble_eq_true rfl) dX8_newBlock_132 ⟨Nat.le_refl _, Nat.le_refl _⟩) ?_
        refine lv_bipush (v := (-6 : Int32)) hx hb dX8_newBlock_135 (by decide) ?_
        refine z_iast hx hb hK.1 hP hD hS 1 0 rfl rfl h dX8_newBlock_137 (fun ms18 H locs h hP hD hS => ?_)
        have hP : va_P D vwCl (wX8 ct a ms18 ah hi kp sl sv pd ln so po wr to) H := hP
        have hD : va_D A (wX8 ct a ms18 ah hi kp sl sv pd ln so po wr to) := hD
        refine lv_iload hx hb dX8_newBlock_138 (lv_at hl 5 rfl) ?_
        cases h
        exact zX_i hx hb hr hlocks hP hD hS hAe dX8_newBlock_140 rfl
      · refine lv_aload_n hx hb dX8_newBlock_28 rfl (lv_at hl 0 rfl) ?_
        refine z_get (C := RX8) (T := TX8) (N := 12) (ci := 7) hx hb hts zin_X8 hown hK.1 hP 0 0 rfl rfl (by decide) tw795 rfl rfl dX8_newBlock_29 ?_
        refine lv_iload hx hb dX8_newBlock_32 (lv_at hl 5 rfl) ?_
        refine lv_iload hx hb dX8_newBlock_34 (lv_at hl 6 rfl) ?_
        obtain ⟨v19, hc, h⟩ := zb1_s h
        refine zE_i (zrS (As := [.int x5, .int x6]) (rest := [.ref (a 31)]) hx hb hml hown hts tw874 ms_X8_at ⟨Nat.le_of_ble_eq_true rfl, Nat.le_of_ble_eq_true rfl⟩ rfl rfl (ct_X8_at l x5 x6 k v19 hc) z_p0 hl.1 rfl rfl (Nat.le_of_ble_eq_true rfl) dX8_newBlock_36 ⟨Nat.le_refl _, Nat.le_refl _⟩) ?_
        refine lv_iconst (v := (0 : Int32)) hx hb dX8_newBlock_39 (by decide) ?_
        refine z_iast hx hb hK.1 hP hD hS 1 0 rfl rfl h dX8_newBlock_40 (fun ms20 H locs h hP hD hS => ?_)
        have hP : va_P D vwCl (wX8 ct a ms20 ah hi kp sl sv pd ln so po wr to) H := hP
        have hD : va_D A (wX8 ct a ms20 ah hi kp sl sv pd ln so po wr to) := hD
        refine o_nm h (fun v21 ey h => ?_)
        refine lv_iinc (v := v21) (lv' := [(6, .int v21), (0, .ref (a 30)), (1, .int p1), (2, .int p2), (3, .int p3), (4, .int p4), (5, .int x5)]) hx hb dX8_newBlock_41 hl (k := 6) rfl (Eq.trans rfl ey) (by decide) rfl (fun ls hl => ?_)
        refine lv_goto (tgt := 21) hx hb dX8_newBlock_44 (by decide) ?_
        exact ih21 ms20 x5 v21 h _ _ hP hD hS ls (lv_sub hl [1, 2, 3, 4, 5, 6, 0] rfl)
  rw [f_X8_newBlock] at h
  refine lv_aload_n hx hb dX8_newBlock_0 rfl (lv_at hl 0 rfl) ?_
  refine z_get (C := RX8) (T := TX8) (N := 12) (ci := 7) hx hb hts zin_X8 hown hK.1 hP 0 0 rfl rfl (by decide) tw795 rfl rfl dX8_newBlock_1 ?_
  refine lv_iconst (v := (5 : Int32)) hx hb dX8_newBlock_4 (by decide) ?_
  refine y_ialdc hx hb hK hP 1 0 5 rfl rfl (by decide) (by decide) h dX8_newBlock_5 (fun v1 h => ?_)
  refine lv_istore (lv' := [(5, .int v1), (0, .ref (a 30)), (1, .int p1), (2, .int p2), (3, .int p3), (4, .int p4)]) hx hb dX8_newBlock_6 hl (by decide) rfl (fun ls hl => ?_)
  refine lv_aload_n hx hb dX8_newBlock_8 rfl (lv_at hl 1 rfl) ?_
  refine z_get (C := RX8) (T := TX8) (N := 12) (ci := 7) hx hb hts zin_X8 hown hK.1 hP 0 0 rfl rfl (by decide) tw795 rfl rfl dX8_newBlock_9 ?_
  refine lv_iconst (v := (5 : Int32)) hx hb dX8_newBlock_12 (by decide) ?_
  refine lv_dup2_11 hx hb dX8_newBlock_13 rfl rfl ?_
  refine y_ialdc hx hb hK hP 1 0 5 rfl rfl (by decide) (by decide) h dX8_newBlock_14 (fun v2 h => ?_)
  refine lv_iconst (v := (1 : Int32)) hx hb dX8_newBlock_15 (by decide) ?_
  refine o_iadd hx hb dX8_newBlock_16 h (fun v3 h => ?_)
  refine z_iastc hx hb hK.1 hP hD hS 1 0 5 rfl rfl (by decide) (by decide) h dX8_newBlock_17 (fun ms4 H locs h hP hD hS => ?_)
  have hP : va_P D vwCl (wX8 ct a ms4 ah hi kp sl sv pd ln so po wr to) H := hP
  have hD : va_D A (wX8 ct a ms4 ah hi kp sl sv pd ln so po wr to) := hD
  refine lv_iconst (v := (0 : Int32)) hx hb dX8_newBlock_18 (by decide) ?_
  refine lv_istore (lv' := [(6, .int (0 : Int32)), (5, .int v1), (0, .ref (a 30)), (1, .int p1), (2, .int p2), (3, .int p3), (4, .int p4)]) hx hb dX8_newBlock_19 hl (by decide) rfl (fun ls hl => ?_)
  exact B21 k ms4 v1 (0 : Int32) h _ _ hP hD hS ls (lv_sub hl [2, 3, 4, 5, 6, 1, 0] rfl)

def f_X8_weight (k : Nat) (ms : Nat → Int32) (p1 : Int32) : Option (Int32) :=
  zb1 (f_X8_at k p1 (0 : Int32)) fun v1 =>
  zg (zin v1 324) (zl (ms v1.toNatClampNeg) fun v2 =>
  zb1 (f_X8_at k p1 (1 : Int32)) fun v3 =>
  zg (zin v3 324) (zl (ms v3.toNatClampNeg) fun v4 =>
  zl (v2 * v4) fun v5 =>
  zb1 (f_X8_at k p1 (2 : Int32)) fun v6 =>
  zg (zin v6 324) (zl (ms v6.toNatClampNeg) fun v7 =>
  zl (v5 * v7) fun v8 =>
  zb1 (f_X8_at k p1 (3 : Int32)) fun v9 =>
  zg (zin v9 324) (zl (ms v9.toNatClampNeg) fun v10 =>
  zl (v8 * v10) fun v11 =>
  zl (v11 / (10000 : Int32)) fun v12 =>
  some v12))))
set_option maxRecDepth 100000 in
set_option maxHeartbeats 4000000 in
theorem ct_X8_weight (l : Launch) (D : va_G) (ct a : Nat → Nat) (ms : Nat → Int32) (ah : Nat → Int32) (hi : Nat → Int32) (kp : Int32) (sl : Nat → Int32) (sv : Nat → Int32) (pd : Nat → Int32) (ln : Int32) (so : Nat → Int32) (po : Int32) (wr : Int32) (to : Nat → Int32) (p1 : Int32) (k : Nat) (r : Int32) (h : f_X8_weight k ms p1 = some r) : Met l yX8_weight (Cond.code yX8_weight cX8_weight 2 (some .int) :: zT) ({ frames := 1, cells := 0, slots := 0, locals := 21 } : Room) (va_Pc [.ref (a 30), .int p1] (zPR D (zTys ct) (wX8 ct a ms ah hi kp sl sv pd ln so po wr to))) (vp_Si (fun r' => r' = r)) 0 0 (fun _ => False) := by
  refine zMet (cc := cX8_weight) (maxL := 2) (ret := (some .int)) (av := [.ref (a 30), .int p1]) (by decide) (Nat.le_of_ble_eq_true rfl) (fun p e s m below meth c ls hx hb hr hml hts hown hlocks hin hB hl => ?_)
  have hl : lv_has ls 2 [(0, .ref (a 30)), (1, .int p1)] := hl
  have hown : s.vm.findClass RX8 = some m.cls := hown
  obtain ⟨hP, hK⟩ := hB
  rw [f_X8_weight] at h
  refine lv_aload_n hx hb dX8_weight_0 rfl (lv_at hl 0 rfl) ?_
  refine z_get (C := RX8) (T := TX8) (N := 12) (ci := 7) hx hb hts zin_X8 hown hK.1 hP 0 0 rfl rfl (by decide) tw795 rfl rfl dX8_weight_1 ?_
  refine lv_iload_n hx hb dX8_weight_4 rfl (lv_at hl 1 rfl) ?_
  refine lv_iconst (v := (0 : Int32)) hx hb dX8_weight_5 (by decide) ?_
  obtain ⟨v1, hc, h⟩ := zb1_s h
  refine zE_i (zrS (As := [.int p1, .int (0 : Int32)]) (rest := [.ref (a 31)]) hx hb hml hown hts tw874 ms_X8_at ⟨Nat.le_of_ble_eq_true rfl, Nat.le_of_ble_eq_true rfl⟩ rfl rfl (ct_X8_at l p1 (0 : Int32) k v1 hc) z_p0 hl.1 rfl rfl (Nat.le_of_ble_eq_true rfl) dX8_weight_6 ⟨Nat.le_refl _, Nat.le_refl _⟩) ?_
  refine y_iald hx hb hK hP 1 0 rfl rfl h dX8_weight_9 (fun v2 h => ?_)
  refine lv_aload_n hx hb dX8_weight_10 rfl (lv_at hl 0 rfl) ?_
  refine z_get (C := RX8) (T := TX8) (N := 12) (ci := 7) hx hb hts zin_X8 hown hK.1 hP 0 0 rfl rfl (by decide) tw795 rfl rfl dX8_weight_11 ?_
  refine lv_iload_n hx hb dX8_weight_14 rfl (lv_at hl 1 rfl) ?_
  refine lv_iconst (v := (1 : Int32)) hx hb dX8_weight_15 (by decide) ?_
  obtain ⟨v3, hc, h⟩ := zb1_s h
  refine zE_i (zrS (As := [.int p1, .int (1 : Int32)]) (rest := [.ref (a 31), .int v2]) hx hb hml hown hts tw874 ms_X8_at ⟨Nat.le_of_ble_eq_true rfl, Nat.le_of_ble_eq_true rfl⟩ rfl rfl (ct_X8_at l p1 (1 : Int32) k v3 hc) z_p0 hl.1 rfl rfl (Nat.le_of_ble_eq_true rfl) dX8_weight_16 ⟨Nat.le_refl _, Nat.le_refl _⟩) ?_
  refine y_iald hx hb hK hP 1 0 rfl rfl h dX8_weight_19 (fun v4 h => ?_)
  refine o_imul hx hb dX8_weight_20 h (fun v5 h => ?_)
  refine lv_aload_n hx hb dX8_weight_21 rfl (lv_at hl 0 rfl) ?_
  refine z_get (C := RX8) (T := TX8) (N := 12) (ci := 7) hx hb hts zin_X8 hown hK.1 hP 0 0 rfl rfl (by decide) tw795 rfl rfl dX8_weight_22 ?_
  refine lv_iload_n hx hb dX8_weight_25 rfl (lv_at hl 1 rfl) ?_
  refine lv_iconst (v := (2 : Int32)) hx hb dX8_weight_26 (by decide) ?_
  obtain ⟨v6, hc, h⟩ := zb1_s h
  refine zE_i (zrS (As := [.int p1, .int (2 : Int32)]) (rest := [.ref (a 31), .int v5]) hx hb hml hown hts tw874 ms_X8_at ⟨Nat.le_of_ble_eq_true rfl, Nat.le_of_ble_eq_true rfl⟩ rfl rfl (ct_X8_at l p1 (2 : Int32) k v6 hc) z_p0 hl.1 rfl rfl (Nat.le_of_ble_eq_true rfl) dX8_weight_27 ⟨Nat.le_refl _, Nat.le_refl _⟩) ?_
  refine y_iald hx hb hK hP 1 0 rfl rfl h dX8_weight_30 (fun v7 h => ?_)
  refine o_imul hx hb dX8_weight_31 h (fun v8 h => ?_)
  refine lv_aload_n hx hb dX8_weight_32 rfl (lv_at hl 0 rfl) ?_
  refine z_get (C := RX8) (T := TX8) (N := 12) (ci := 7) hx hb hts zin_X8 hown hK.1 hP 0 0 rfl rfl (by decide) tw795 rfl rfl dX8_weight_33 ?_
  refine lv_iload_n hx hb dX8_weight_36 rfl (lv_at hl 1 rfl) ?_
  refine lv_iconst (v := (3 : Int32)) hx hb dX8_weight_37 (by decide) ?_
  obtain ⟨v9, hc, h⟩ := zb1_s h
  refine zE_i (zrS (As := [.int p1, .int (3 : Int32)]) (rest := [.ref (a 31), .int v8]) hx hb hml hown hts tw874 ms_X8_at ⟨Nat.le_of_ble_eq_true rfl, Nat.le_of_ble_eq_true rfl⟩ rfl rfl (ct_X8_at l p1 (3 : Int32) k v9 hc) z_p0 hl.1 rfl rfl (Nat.le_of_ble_eq_true rfl) dX8_weight_38 ⟨Nat.le_refl _, Nat.le_refl _⟩) ?_
  refine y_iald hx hb hK hP 1 0 rfl rfl h dX8_weight_41 (fun v10 h => ?_)
  refine o_imul hx hb dX8_weight_42 h (fun v11 h => ?_)
  refine lv_sipush (v := (10000 : Int32)) hx hb dX8_weight_43 (by decide) ?_
  refine o_idiv hx hb dX8_weight_46 (by decide) h (fun v12 h => ?_)
  exact zR_i hx hb hr hlocks dX8_weight_47 h

def f_X8_quarries (k : Nat) (ms : Nat → Int32) (p1 : Int32) (p2 : Int32) (p3 : Int32) (p4 : Int32) : Option (Int32 × (Nat → Int32)) :=
  zb1 (f_X8_isSize k p1) fun v1 =>
  if v1 = 0 then
    some ((-2 : Int32), ms)
  else
    zb1 (f_X8_isSize k p2) fun v2 =>
    if v2 = 0 then
      some ((-2 : Int32), ms)
    else
      zb1 (f_X8_isSize k p3) fun v3 =>
      if v3 = 0 then
        some ((-2 : Int32), ms)
      else
        zb1 (f_X8_in k p4 (20 : Int32) (30 : Int32)) fun v4 =>
        if v4 = 0 then
          some ((-2 : Int32), ms)
        else
          zl (ms 5) fun v5 =>
          if v5 = (24 : Int32) then
            some ((-4 : Int32), ms)
          else
            zb2 (f_X8_newBlock k ms p1 p2 p3 p4) fun v6 ms7 =>
            zb1 (f_X8_at k v6 (5 : Int32)) fun v8 =>
            zg (zin v8 324) (zl (upd ms7 v8.toNatClampNeg (3 : Int32)) fun ms9 =>
            zl (ms9 8) fun v10 =>
            zb1 (f_X8_weight k ms9 v6) fun v11 =>
            zl (v10 + v11) fun v12 =>
            zl (upd ms9 8 v12) fun ms13 =>
            some (v6, ms13))
set_option maxRecDepth 100000 in
set_option maxHeartbeats 4000000 in
theorem ct_X8_quarries (l : Launch) (D : va_G) (ct a : Nat → Nat) (ms : Nat → Int32) (ah : Nat → Int32) (hi : Nat → Int32) (kp : Int32) (sl : Nat → Int32) (sv : Nat → Int32) (pd : Nat → Int32) (ln : Int32) (so : Nat → Int32) (po : Int32) (wr : Int32) (to : Nat → Int32) (sz : Nat) (p1 : Int32) (p2 : Int32) (p3 : Int32) (p4 : Int32) (k : Nat) (r : Int32) (ms' : Nat → Int32) (h : f_X8_quarries k ms p1 p2 p3 p4 = some (r, ms')) : Met l yX8_quarries (Cond.code yX8_quarries cX8_quarries 6 (some .int) :: zT) ({ frames := 2, cells := 0, slots := 0, locals := 47 } : Room) (va_Pc [.ref (a 30), .int p1, .int p2, .int p3, .int p4] (zPW D (zTys ct) (wX8 ct a ms ah hi kp sl sv pd ln so po wr to) sz)) (va_Qi (fun r' (_ : Unit) => r' = r) (zQW D (wX8 ct a ms ah hi kp sl sv pd ln so po wr to) sz (wX8 ct a ms' ah hi kp sl sv pd ln so po wr to)) (va_A (wX8 ct a ms ah hi kp sl sv pd ln so po wr to) sz)) 0 0 (va_A (wX8 ct a ms ah hi kp sl sv pd ln so po wr to) sz) := by
  refine zMet (cc := cX8_quarries) (maxL := 6) (ret := (some .int)) (av := [.ref (a 30), .int p1, .int p2, .int p3, .int p4]) (by decide) (Nat.le_of_ble_eq_true rfl) (fun p e s m below meth c ls hx hb hr hml hts hown hlocks hin hB hl => ?_)
  have hl : lv_has ls 6 [(0, .ref (a 30)), (1, .int p1), (2, .int p2), (3, .int p3), (4, .int p4)] := hl
  have hown : s.vm.findClass RX8 = some m.cls := hown
  obtain ⟨hsz, hP, hK, hD0⟩ := hB
  subst hsz
  have hD := hD0.self (sz := s.heap.size)
  obtain ⟨A, hAe⟩ : ∃ A, A = va_A (wX8 ct a ms ah hi kp sl sv pd ln so po wr to) s.heap.size := ⟨_, rfl⟩
  rw [← hAe] at hD
  have hA : ∀ q : Nat, s.heap.size ≤ q → A q := fun q h => by rw [hAe]; exact Or.inr h
  have hS : va_S A s.heap s.heap [] := va_S.rf
  rw [f_X8_quarries] at h
  refine lv_iload_n hx hb dX8_quarries_0 rfl (lv_at hl 1 rfl) ?_
  obtain ⟨v1, hc, h⟩ := zb1_s h
  refine zE_i (zrS (As := [.int p1]) (rest := []) hx hb hml hown hts tw867 ms_X8_isSize ⟨Nat.le_of_ble_eq_true rfl, Nat.le_of_ble_eq_true rfl⟩ rfl rfl (ct_X8_isSize l p1 k v1 hc) z_p0 hl.1 rfl rfl (Nat.le_of_ble_eq_true rfl) dX8_quarries_1 ⟨Nat.le_refl _, Nat.le_refl _⟩) ?_
  refine zi_eq (tgt := 33) hx hb dX8_quarries_4 (by decide) h (fun h => ?_) (fun h => ?_)
  · refine lv_bipush (v := (-2 : Int32)) hx hb dX8_quarries_33 (by decide) ?_
    cases h
    exact zX_i hx hb hr hlocks hP hD hS hAe dX8_quarries_35 rfl
  · refine lv_iload_n hx hb dX8_quarries_7 rfl (lv_at hl 2 rfl) ?_
    obtain ⟨v2, hc, h⟩ := zb1_s h
    refine zE_i (zrS (As := [.int p2]) (rest := []) hx hb hml hown hts tw867 ms_X8_isSize ⟨Nat.le_of_ble_eq_true rfl, Nat.le_of_ble_eq_true rfl⟩ rfl rfl (ct_X8_isSize l p2 k v2 hc) z_p0 hl.1 rfl rfl (Nat.le_of_ble_eq_true rfl) dX8_quarries_8 ⟨Nat.le_refl _, Nat.le_refl _⟩) ?_
    refine zi_eq (tgt := 33) hx hb dX8_quarries_11 (by decide) h (fun h => ?_) (fun h => ?_)
    · refine lv_bipush (v := (-2 : Int32)) hx hb dX8_quarries_33 (by decide) ?_
      cases h
      exact zX_i hx hb hr hlocks hP hD hS hAe dX8_quarries_35 rfl
    · refine lv_iload_n hx hb dX8_quarries_14 rfl (lv_at hl 3 rfl) ?_
      obtain ⟨v3, hc, h⟩ := zb1_s h
      refine zE_i (zrS (As := [.int p3]) (rest := []) hx hb hml hown hts tw867 ms_X8_isSize ⟨Nat.le_of_ble_eq_true rfl, Nat.le_of_ble_eq_true rfl⟩ rfl rfl (ct_X8_isSize l p3 k v3 hc) z_p0 hl.1 rfl rfl (Nat.le_of_ble_eq_true rfl) dX8_quarries_15 ⟨Nat.le_refl _, Nat.le_refl _⟩) ?_
      refine zi_eq (tgt := 33) hx hb dX8_quarries_18 (by decide) h (fun h => ?_) (fun h => ?_)
      · refine lv_bipush (v := (-2 : Int32)) hx hb dX8_quarries_33 (by decide) ?_
        cases h
        exact zX_i hx hb hr hlocks hP hD hS hAe dX8_quarries_35 rfl
      · refine lv_iload hx hb dX8_quarries_21 (lv_at hl 4 rfl) ?_
        refine lv_bipush (v := (20 : Int32)) hx hb dX8_quarries_23 (by decide) ?_
        refine lv_bipush (v := (30 : Int32)) hx hb dX8_quarries_25 (by decide) ?_
        obtain ⟨v4, hc, h⟩ := zb1_s h
        refine zE_i (zrS (As := [.int p4, .int (20 : Int32), .int (30 : Int32)]) (rest := []) hx hb hml hown hts tw836 ms_X8_in ⟨Nat.le_of_ble_eq_true rfl, Nat.le_of_ble_eq_true rfl⟩ rfl rfl (ct_X8_in l p4 (20 : Int32) (30 : Int32) k v4 hc) z_p0 hl.1 rfl rfl (Nat.le_of_ble_eq_true rfl) dX8_quarries_27 ⟨Nat.le_refl _, Nat.le_refl _⟩) ?_
        refine zi_ne (tgt := 36) hx hb dX8_quarries_30 (by decide) h (fun h => ?_) (fun h => ?_)
        · refine lv_aload_n hx hb dX8_quarries_36 rfl (lv_at hl 0 rfl) ?_
          refine z_get (C := RX8) (T := TX8) (N := 12) (ci := 7) hx hb hts zin_X8 hown hK.1 hP 0 0 rfl rfl (by decide) tw795 rfl rfl dX8_quarries_37 ?_
          refine lv_iconst (v := (5 : Int32)) hx hb dX8_quarries_40 (by decide) ?_
          refine y_ialdc hx hb hK hP 1 0 5 rfl rfl (by decide) (by decide) h dX8_quarries_41 (fun v5 h => ?_)
          refine lv_bipush (v := (24 : Int32)) hx hb dX8_quarries_42 (by decide) ?_
          refine zc_ne (tgt := 50) hx hb dX8_quarries_44 (by decide) h (fun h => ?_) (fun h => ?_)
          · refine lv_aload_n hx hb dX8_quarries_50 rfl (lv_at hl 0 rfl) ?_
            refine lv_iload_n hx hb dX8_quarries_51 rfl (lv_at hl 1 rfl) ?_
            refine lv_iload_n hx hb dX8_quarries_52 rfl (lv_at hl 2 rfl) ?_
            refine lv_iload_n hx hb dX8_quarries_53 rfl (lv_at hl 3 rfl) ?_
            refine lv_iload hx hb dX8_quarries_54 (lv_at hl 4 rfl) ?_
            obtain ⟨v6, ms7, hc, h⟩ := zb2_s h
            refine zG_i (w1 := wX8 ct a ms7 ah hi kp sl sv pd ln so po wr to) (ws' := wX8 ct a ms7 ah hi kp sl sv pd ln so po wr to) hP hD hS hA [0, 1, 2, 3, 4, 5, 6, 7, 8] [] [0, 1, 2, 3, 4, 5, 6, 7, 8] rfl rfl (by decide) (by decide) rfl (by decide) (zrV (C := RX8) (As := [.int p1, .int p2, .int p3, .int p4]) (rest := []) hx hb hml hown hts tw870 mv_X8_newBlock ⟨Nat.le_of_ble_eq_true rfl, Nat.le_of_ble_eq_true rfl⟩ rfl rfl (ct_X8_newBlock l D ct a ms ah hi kp sl sv pd ln so po wr to _ p1 p2 p3 p4 k v6 ms7 hc) (z_wv hK hP hD [0, 1, 2, 3, 4, 5, 6, 7, 8] (by decide) rfl 0 rfl rfl) hl.1 rfl rfl (Nat.le_of_ble_eq_true rfl) dX8_quarries_56 ⟨Nat.le_refl _, Nat.le_refl _⟩) (fun H locs hP hD hS => ?_)
            refine lv_istore (lv' := [(5, .int v6), (0, .ref (a 30)), (1, .int p1), (2, .int p2), (3, .int p3), (4, .int p4)]) hx hb dX8_quarries_59 hl (by decide) rfl (fun ls hl => ?_)
            refine lv_aload_n hx hb dX8_quarries_61 rfl (lv_at hl 1 rfl) ?_
            refine z_get (C := RX8) (T := TX8) (N := 12) (ci := 7) hx hb hts zin_X8 hown hK.1 hP 0 0 rfl rfl (by decide) tw795 rfl rfl dX8_quarries_62 ?_
            refine lv_iload hx hb dX8_quarries_65 (lv_at hl 0 rfl) ?_
            refine lv_iconst (v := (5 : Int32)) hx hb dX8_quarries_67 (by decide) ?_
            obtain ⟨v8, hc, h⟩ := zb1_s h
            refine zE_i (zrS (As := [.int v6, .int (5 : Int32)]) (rest := [.ref (a 31)]) hx hb hml hown hts tw874 ms_X8_at ⟨Nat.le_of_ble_eq_true rfl, Nat.le_of_ble_eq_true rfl⟩ rfl rfl (ct_X8_at l v6 (5 : Int32) k v8 hc) z_p0 hl.1 rfl rfl (Nat.le_of_ble_eq_true rfl) dX8_quarries_68 ⟨Nat.le_refl _, Nat.le_refl _⟩) ?_
            refine lv_iconst (v := (3 : Int32)) hx hb dX8_quarries_71 (by decide) ?_
            refine z_iast hx hb hK.1 hP hD hS 1 0 rfl rfl h dX8_quarries_72 (fun ms9 H locs h hP hD hS => ?_)
            have hP : va_P D vwCl (wX8 ct a ms9 ah hi kp sl sv pd ln so po wr to) H := hP
            have hD : va_D A (wX8 ct a ms9 ah hi kp sl sv pd ln so po wr to) := hD
            refine lv_aload_n hx hb dX8_quarries_73 rfl (lv_at hl 1 rfl) ?_
            refine z_get (C := RX8) (T := TX8) (N := 12) (ci := 7) hx hb hts zin_X8 hown hK.1 hP 0 0 rfl rfl (by decide) tw795 rfl rfl dX8_quarries_74 ?_
            refine lv_bipush (v := (8 : Int32)) hx hb dX8_quarries_77 (by decide) ?_
            refine lv_dup2_11 hx hb dX8_quarries_79 rfl rfl ?_
            refine y_ialdc hx hb hK hP 1 0 8 rfl rfl (by decide) (by decide) h dX8_quarries_80 (fun v10 h => ?_)
            refine lv_aload_n hx hb dX8_quarries_81 rfl (lv_at hl 1 rfl) ?_
            refine lv_iload hx hb dX8_quarries_82 (lv_at hl 0 rfl) ?_
            obtain ⟨v11, hc, h⟩ := zb1_s h
            refine zE_i (zrV (C := RX8) (As := [.int v6]) (rest := [.int v10, .int (8 : Int32), .ref (a 31)]) hx hb hml hown hts tw877 mv_X8_weight ⟨Nat.le_of_ble_eq_true rfl, Nat.le_of_ble_eq_true rfl⟩ rfl rfl (ct_X8_weight l D ct a ms9 ah hi kp sl sv pd ln so po wr to v6 k v11 hc) (z_pv hK hP [0, 1, 2, 3, 4, 5, 6, 7, 8] rfl 0 rfl rfl) hl.1 rfl rfl (Nat.le_of_ble_eq_true rfl) dX8_quarries_84 ⟨Nat.le_refl _, Nat.le_refl _⟩) ?_
            refine o_iadd hx hb dX8_quarries_87 h (fun v12 h => ?_)
            refine z_iastc hx hb hK.1 hP hD hS 1 0 8 rfl rfl (by decide) (by decide) h dX8_quarries_88 (fun ms13 H locs h hP hD hS => ?_)
            have hP : va_P D vwCl (wX8 ct a ms13 ah hi kp sl sv pd ln so po wr to) H := hP
            have hD : va_D A (wX8 ct a ms13 ah hi kp sl sv pd ln so po wr to) := hD
            refine lv_iload hx hb dX8_quarries_89 (lv_at hl 0 rfl) ?_
            cases h
            exact zX_i hx hb hr hlocks hP hD hS hAe dX8_quarries_91 rfl
          · refine lv_bipush (v := (-4 : Int32)) hx hb dX8_quarries_47 (by decide) ?_
            cases h
            exact zX_i hx hb hr hlocks hP hD hS hAe dX8_quarries_49 rfl
        · refine lv_bipush (v := (-2 : Int32)) hx hb dX8_quarries_33 (by decide) ?_
          cases h
          exact zX_i hx hb hr hlocks hP hD hS hAe dX8_quarries_35 rfl

def f_X8_isBlock (k : Nat) (ms : Nat → Int32) (p1 : Int32) : Option (Int32) :=
  zl (ms 5) fun v1 =>
  zl (v1 - (1 : Int32)) fun v2 =>
  zb1 (f_X8_in k p1 (0 : Int32) v2) fun v3 =>
  zg (zbo v3) (some v3)
set_option maxRecDepth 100000 in
set_option maxHeartbeats 4000000 in
theorem ct_X8_isBlock (l : Launch) (D : va_G) (ct a : Nat → Nat) (ms : Nat → Int32) (ah : Nat → Int32) (hi : Nat → Int32) (kp : Int32) (sl : Nat → Int32) (sv : Nat → Int32) (pd : Nat → Int32) (ln : Int32) (so : Nat → Int32) (po : Int32) (wr : Int32) (to : Nat → Int32) (p1 : Int32) (k : Nat) (r : Int32) (h : f_X8_isBlock k ms p1 = some r) : Met l yX8_isBlock (Cond.code yX8_isBlock cX8_isBlock 2 (some .boolean) :: zT) ({ frames := 1, cells := 0, slots := 0, locals := 22 } : Room) (va_Pc [.ref (a 30), .int p1] (zPR D (zTys ct) (wX8 ct a ms ah hi kp sl sv pd ln so po wr to))) (vp_Si (fun r' => r' = r)) 0 0 (fun _ => False) := by
  refine zMet (cc := cX8_isBlock) (maxL := 2) (ret := (some .boolean)) (av := [.ref (a 30), .int p1]) (by decide) (Nat.le_of_ble_eq_true rfl) (fun p e s m below meth c ls hx hb hr hml hts hown hlocks hin hB hl => ?_)
  have hl : lv_has ls 2 [(0, .ref (a 30)), (1, .int p1)] := hl
  have hown : s.vm.findClass RX8 = some m.cls := hown
  obtain ⟨hP, hK⟩ := hB
  rw [f_X8_isBlock] at h
  refine lv_iload_n hx hb dX8_isBlock_0 rfl (lv_at hl 1 rfl) ?_
  refine lv_iconst (v := (0 : Int32)) hx hb dX8_isBlock_1 (by decide) ?_
  refine lv_aload_n hx hb dX8_isBlock_2 rfl (lv_at hl 0 rfl) ?_
  refine z_get (C := RX8) (T := TX8) (N := 12) (ci := 7) hx hb hts zin_X8 hown hK.1 hP 0 0 rfl rfl (by decide) tw795 rfl rfl dX8_isBlock_3 ?_
  refine lv_iconst (v := (5 : Int32)) hx hb dX8_isBlock_6 (by decide) ?_
  refine y_ialdc hx hb hK hP 1 0 5 rfl rfl (by decide) (by decide) h dX8_isBlock_7 (fun v1 h => ?_)
  refine lv_iconst (v := (1 : Int32)) hx hb dX8_isBlock_8 (by decide) ?_
  refine o_isub hx hb dX8_isBlock_9 h (fun v2 h => ?_)
  obtain ⟨v3, hc, h⟩ := zb1_s h
  refine zE_i (zrS (As := [.int p1, .int (0 : Int32), .int v2]) (rest := []) hx hb hml hown hts tw836 ms_X8_in ⟨Nat.le_of_ble_eq_true rfl, Nat.le_of_ble_eq_true rfl⟩ rfl rfl (ct_X8_in l p1 (0 : Int32) v2 k v3 hc) z_p0 hl.1 rfl rfl (Nat.le_of_ble_eq_true rfl) dX8_isBlock_10 ⟨Nat.le_refl _, Nat.le_refl _⟩) ?_
  exact zR_z hx hb hr hlocks dX8_isBlock_13 h

def f_X8_isAt (k : Nat) (ms : Nat → Int32) (p1 : Int32) (p2 : Int32) : Option (Int32) :=
  zb1 (f_X8_at k p1 (4 : Int32)) fun v1 =>
  zg (zin v1 324) (zl (ms v1.toNatClampNeg) fun v2 =>
  if v2 = p2 then
    some (1 : Int32)
  else
    some (0 : Int32))
set_option maxRecDepth 100000 in
set_option maxHeartbeats 4000000 in
theorem ct_X8_isAt (l : Launch) (D : va_G) (ct a : Nat → Nat) (ms : Nat → Int32) (ah : Nat → Int32) (hi : Nat → Int32) (kp : Int32) (sl : Nat → Int32) (sv : Nat → Int32) (pd : Nat → Int32) (ln : Int32) (so : Nat → Int32) (po : Int32) (wr : Int32) (to : Nat → Int32) (p1 : Int32) (p2 : Int32) (k : Nat) (r : Int32) (h : f_X8_isAt k ms p1 p2 = some r) : Met l yX8_isAt (Cond.code yX8_isAt cX8_isAt 3 (some .boolean) :: zT) ({ frames := 1, cells := 0, slots := 0, locals := 21 } : Room) (va_Pc [.ref (a 30), .int p1, .int p2] (zPR D (zTys ct) (wX8 ct a ms ah hi kp sl sv pd ln so po wr to))) (vp_Si (fun r' => r' = r)) 0 0 (fun _ => False) := by
  refine zMet (cc := cX8_isAt) (maxL := 3) (ret := (some .boolean)) (av := [.ref (a 30), .int p1, .int p2]) (by decide) (Nat.le_of_ble_eq_true rfl) (fun p e s m below meth c ls hx hb hr hml hts hown hlocks hin hB hl => ?_)
  have hl : lv_has ls 3 [(0, .ref (a 30)), (1, .int p1), (2, .int p2)] := hl
  have hown : s.vm.findClass RX8 = some m.cls := hown
  obtain ⟨hP, hK⟩ := hB
  rw [f_X8_isAt] at h
  refine lv_aload_n hx hb dX8_isAt_0 rfl (lv_at hl 0 rfl) ?_
  refine z_get (C := RX8) (T := TX8) (N := 12) (ci := 7) hx hb hts zin_X8 hown hK.1 hP 0 0 rfl rfl (by decide) tw795 rfl rfl dX8_isAt_1 ?_
  refine lv_iload_n hx hb dX8_isAt_4 rfl (lv_at hl 1 rfl) ?_
  refine lv_iconst (v := (4 : Int32)) hx hb dX8_isAt_5 (by decide) ?_
  obtain ⟨v1, hc, h⟩ := zb1_s h
  refine zE_i (zrS (As := [.int p1, .int (4 : Int32)]) (rest := [.ref (a 31)]) hx hb hml hown hts tw874 ms_X8_at ⟨Nat.le_of_ble_eq_true rfl, Nat.le_of_ble_eq_true rfl⟩ rfl rfl (ct_X8_at l p1 (4 : Int32) k v1 hc) z_p0 hl.1 rfl rfl (Nat.le_of_ble_eq_true rfl) dX8_isAt_6 ⟨Nat.le_refl _, Nat.le_refl _⟩) ?_
  refine y_iald hx hb hK hP 1 0 rfl rfl h dX8_isAt_9 (fun v2 h => ?_)
  refine lv_iload_n hx hb dX8_isAt_10 rfl (lv_at hl 2 rfl) ?_
  refine zc_ne (tgt := 18) hx hb dX8_isAt_11 (by decide) h (fun h => ?_) (fun h => ?_)
  · refine lv_iconst (v := (0 : Int32)) hx hb dX8_isAt_18 (by decide) ?_
    exact zR_z hx hb hr hlocks dX8_isAt_19 h
  · refine lv_iconst (v := (1 : Int32)) hx hb dX8_isAt_14 (by decide) ?_
    refine lv_goto (tgt := 19) hx hb dX8_isAt_15 (by decide) ?_
    exact zR_z hx hb hr hlocks dX8_isAt_19 h

def f_X8_isHere (k : Nat) (ms : Nat → Int32) (p1 : Int32) : Option (Int32) :=
  zb1 (f_X8_isAt k ms p1 (0 : Int32)) fun v1 =>
  if v1 = 0 then
    zb1 (f_X8_isAt k ms p1 (1 : Int32)) fun v2 =>
    if v2 = 0 then
      some (0 : Int32)
    else
      some (1 : Int32)
  else
    some (1 : Int32)
set_option maxRecDepth 100000 in
set_option maxHeartbeats 4000000 in
theorem ct_X8_isHere (l : Launch) (D : va_G) (ct a : Nat → Nat) (ms : Nat → Int32) (ah : Nat → Int32) (hi : Nat → Int32) (kp : Int32) (sl : Nat → Int32) (sv : Nat → Int32) (pd : Nat → Int32) (ln : Int32) (so : Nat → Int32) (po : Int32) (wr : Int32) (to : Nat → Int32) (p1 : Int32) (k : Nat) (r : Int32) (h : f_X8_isHere k ms p1 = some r) : Met l yX8_isHere (Cond.code yX8_isHere cX8_isHere 2 (some .boolean) :: zT) ({ frames := 2, cells := 0, slots := 0, locals := 43 } : Room) (va_Pc [.ref (a 30), .int p1] (zPR D (zTys ct) (wX8 ct a ms ah hi kp sl sv pd ln so po wr to))) (vp_Si (fun r' => r' = r)) 0 0 (fun _ => False) := by
  refine zMet (cc := cX8_isHere) (maxL := 2) (ret := (some .boolean)) (av := [.ref (a 30), .int p1]) (by decide) (Nat.le_of_ble_eq_true rfl) (fun p e s m below meth c ls hx hb hr hml hts hown hlocks hin hB hl => ?_)
  have hl : lv_has ls 2 [(0, .ref (a 30)), (1, .int p1)] := hl
  have hown : s.vm.findClass RX8 = some m.cls := hown
  obtain ⟨hP, hK⟩ := hB
  rw [f_X8_isHere] at h
  refine lv_aload_n hx hb dX8_isHere_0 rfl (lv_at hl 0 rfl) ?_
  refine lv_iload_n hx hb dX8_isHere_1 rfl (lv_at hl 1 rfl) ?_
  refine lv_iconst (v := (0 : Int32)) hx hb dX8_isHere_2 (by decide) ?_
  obtain ⟨v1, hc, h⟩ := zb1_s h
  refine zE_i (zrV (C := RX8) (As := [.int p1, .int (0 : Int32)]) (rest := []) hx hb hml hown hts tw897 mv_X8_isAt ⟨Nat.le_of_ble_eq_true rfl, Nat.le_of_ble_eq_true rfl⟩ rfl rfl (ct_X8_isAt l D ct a ms ah hi kp sl sv pd ln so po wr to p1 (0 : Int32) k v1 hc) (z_pv hK hP [0, 1, 2, 3, 4, 5, 6, 7, 8] rfl 0 rfl rfl) hl.1 rfl rfl (Nat.le_of_ble_eq_true rfl) dX8_isHere_3 ⟨Nat.le_refl _, Nat.le_refl _⟩) ?_
  refine zi_ne (tgt := 18) hx hb dX8_isHere_6 (by decide) h (fun h => ?_) (fun h => ?_)
  · refine lv_iconst (v := (1 : Int32)) hx hb dX8_isHere_18 (by decide) ?_
    refine lv_goto (tgt := 23) hx hb dX8_isHere_19 (by decide) ?_
    exact zR_z hx hb hr hlocks dX8_isHere_23 h
  · refine lv_aload_n hx hb dX8_isHere_9 rfl (lv_at hl 0 rfl) ?_
    refine lv_iload_n hx hb dX8_isHere_10 rfl (lv_at hl 1 rfl) ?_
    refine lv_iconst (v := (1 : Int32)) hx hb dX8_isHere_11 (by decide) ?_
    obtain ⟨v2, hc, h⟩ := zb1_s h
    refine zE_i (zrV (C := RX8) (As := [.int p1, .int (1 : Int32)]) (rest := []) hx hb hml hown hts tw897 mv_X8_isAt ⟨Nat.le_of_ble_eq_true rfl, Nat.le_of_ble_eq_true rfl⟩ rfl rfl (ct_X8_isAt l D ct a ms ah hi kp sl sv pd ln so po wr to p1 (1 : Int32) k v2 hc) (z_pv hK hP [0, 1, 2, 3, 4, 5, 6, 7, 8] rfl 0 rfl rfl) hl.1 rfl rfl (Nat.le_of_ble_eq_true rfl) dX8_isHere_12 ⟨Nat.le_refl _, Nat.le_refl _⟩) ?_
    refine zi_eq (tgt := 22) hx hb dX8_isHere_15 (by decide) h (fun h => ?_) (fun h => ?_)
    · refine lv_iconst (v := (0 : Int32)) hx hb dX8_isHere_22 (by decide) ?_
      exact zR_z hx hb hr hlocks dX8_isHere_23 h
    · refine lv_iconst (v := (1 : Int32)) hx hb dX8_isHere_18 (by decide) ?_
      refine lv_goto (tgt := 23) hx hb dX8_isHere_19 (by decide) ?_
      exact zR_z hx hb hr hlocks dX8_isHere_23 h

def f_X8_canBeCut (k : Nat) (ms : Nat → Int32) (p1 : Int32) : Option (Int32) :=
  zl (ms 7) fun v1 =>
  if v1 = 0 then
    zb1 (f_X8_isHere k ms p1) fun v2 =>
    if v2 = 0 then
      some (0 : Int32)
    else
      zb1 (f_X8_at k p1 (7 : Int32)) fun v3 =>
      zg (zin v3 324) (zl (ms v3.toNatClampNeg) fun v4 =>
      if v4 = (-6 : Int32) then
        some (1 : Int32)
      else
        some (0 : Int32))
  else
    some (0 : Int32)
set_option maxRecDepth 100000 in
set_option maxHeartbeats 4000000 in
theorem ct_X8_canBeCut (l : Launch) (D : va_G) (ct a : Nat → Nat) (ms : Nat → Int32) (ah : Nat → Int32) (hi : Nat → Int32) (kp : Int32) (sl : Nat → Int32) (sv : Nat → Int32) (pd : Nat → Int32) (ln : Int32) (so : Nat → Int32) (po : Int32) (wr : Int32) (to : Nat → Int32) (p1 : Int32) (k : Nat) (r : Int32) (h : f_X8_canBeCut k ms p1 = some r) : Met l yX8_canBeCut (Cond.code yX8_canBeCut cX8_canBeCut 2 (some .boolean) :: zT) ({ frames := 3, cells := 0, slots := 0, locals := 64 } : Room) (va_Pc [.ref (a 30), .int p1] (zPR D (zTys ct) (wX8 ct a ms ah hi kp sl sv pd ln so po wr to))) (vp_Si (fun r' => r' = r)) 0 0 (fun _ => False) := by
  refine zMet (cc := cX8_canBeCut) (maxL := 2) (ret := (some .boolean)) (av := [.ref (a 30), .int p1]) (by decide) (Nat.le_of_ble_eq_true rfl) (fun p e s m below meth c ls hx hb hr hml hts hown hlocks hin hB hl => ?_)
  have hl : lv_has ls 2 [(0, .ref (a 30)), (1, .int p1)] := hl
  have hown : s.vm.findClass RX8 = some m.cls := hown
  obtain ⟨hP, hK⟩ := hB
  rw [f_X8_canBeCut] at h
  refine lv_aload_n hx hb dX8_canBeCut_0 rfl (lv_at hl 0 rfl) ?_
  refine z_get (C := RX8) (T := TX8) (N := 12) (ci := 7) hx hb hts zin_X8 hown hK.1 hP 0 0 rfl rfl (by decide) tw795 rfl rfl dX8_canBeCut_1 ?_
  refine lv_bipush (v := (7 : Int32)) hx hb dX8_canBeCut_4 (by decide) ?_
  refine y_ialdc hx hb hK hP 1 0 7 rfl rfl (by decide) (by decide) h dX8_canBeCut_6 (fun v1 h => ?_)
  refine zi_ne (tgt := 38) hx hb dX8_canBeCut_7 (by decide) h (fun h => ?_) (fun h => ?_)
  · refine lv_iconst (v := (0 : Int32)) hx hb dX8_canBeCut_38 (by decide) ?_
    exact zR_z hx hb hr hlocks dX8_canBeCut_39 h
  · refine lv_aload_n hx hb dX8_canBeCut_10 rfl (lv_at hl 0 rfl) ?_
    refine lv_iload_n hx hb dX8_canBeCut_11 rfl (lv_at hl 1 rfl) ?_
    obtain ⟨v2, hc, h⟩ := zb1_s h
    refine zE_i (zrV (C := RX8) (As := [.int p1]) (rest := []) hx hb hml hown hts tw893 mv_X8_isHere ⟨Nat.le_of_ble_eq_true rfl, Nat.le_of_ble_eq_true rfl⟩ rfl rfl (ct_X8_isHere l D ct a ms ah hi kp sl sv pd ln so po wr to p1 k v2 hc) (z_pv hK hP [0, 1, 2, 3, 4, 5, 6, 7, 8] rfl 0 rfl rfl) hl.1 rfl rfl (Nat.le_of_ble_eq_true rfl) dX8_canBeCut_12 ⟨Nat.le_refl _, Nat.le_refl _⟩) ?_
    refine zi_eq (tgt := 38) hx hb dX8_canBeCut_15 (by decide) h (fun h => ?_) (fun h => ?_)
    · refine lv_iconst (v := (0 : Int32)) hx hb dX8_canBeCut_38 (by decide) ?_
      exact zR_z hx hb hr hlocks dX8_canBeCut_39 h
    · refine lv_aload_n hx hb dX8_canBeCut_18 rfl (lv_at hl 0 rfl) ?_
      refine z_get (C := RX8) (T := TX8) (N := 12) (ci := 7) hx hb hts zin_X8 hown hK.1 hP 0 0 rfl rfl (by decide) tw795 rfl rfl dX8_canBeCut_19 ?_
      refine lv_iload_n hx hb dX8_canBeCut_22 rfl (lv_at hl 1 rfl) ?_
      refine lv_bipush (v := (7 : Int32)) hx hb dX8_canBeCut_23 (by decide) ?_
      obtain ⟨v3, hc, h⟩ := zb1_s h
      refine zE_i (zrS (As := [.int p1, .int (7 : Int32)]) (rest := [.ref (a 31)]) hx hb hml hown hts tw874 ms_X8_at ⟨Nat.le_of_ble_eq_true rfl, Nat.le_of_ble_eq_true rfl⟩ rfl rfl (ct_X8_at l p1 (7 : Int32) k v3 hc) z_p0 hl.1 rfl rfl (Nat.le_of_ble_eq_true rfl) dX8_canBeCut_25 ⟨Nat.le_refl _, Nat.le_refl _⟩) ?_
      refine y_iald hx hb hK hP 1 0 rfl rfl h dX8_canBeCut_28 (fun v4 h => ?_)
      refine lv_bipush (v := (-6 : Int32)) hx hb dX8_canBeCut_29 (by decide) ?_
      refine zc_ne (tgt := 38) hx hb dX8_canBeCut_31 (by decide) h (fun h => ?_) (fun h => ?_)
      · refine lv_iconst (v := (0 : Int32)) hx hb dX8_canBeCut_38 (by decide) ?_
        exact zR_z hx hb hr hlocks dX8_canBeCut_39 h
      · refine lv_iconst (v := (1 : Int32)) hx hb dX8_canBeCut_34 (by decide) ?_
        refine lv_goto (tgt := 39) hx hb dX8_canBeCut_35 (by decide) ?_
        exact zR_z hx hb hr hlocks dX8_canBeCut_39 h

def f_X8_part (k : Nat) (ms : Nat → Int32) (p1 : Int32) (p2 : Int32) (p3 : Int32) : Option ((Nat → Int32)) :=
  zb1 (f_X8_at k p1 (0 : Int32)) fun v1 =>
  zg (zin v1 324) (zl (ms v1.toNatClampNeg) fun v2 =>
  zb1 (f_X8_at k p1 (1 : Int32)) fun v3 =>
  zg (zin v3 324) (zl (ms v3.toNatClampNeg) fun v4 =>
  zb1 (f_X8_at k p1 (2 : Int32)) fun v5 =>
  zg (zin v5 324) (zl (ms v5.toNatClampNeg) fun v6 =>
  zb1 (f_X8_at k p1 (3 : Int32)) fun v7 =>
  zg (zin v7 324) (zl (ms v7.toNatClampNeg) fun v8 =>
  zb2 (f_X8_newBlock k ms v2 v4 v6 v8) fun v9 ms10 =>
  zb1 (f_X8_at k v9 p2) fun v11 =>
  zg (zin v11 324) (zl (upd ms10 v11.toNatClampNeg p3) fun ms12 =>
  zb1 (f_X8_at k v9 (5 : Int32)) fun v13 =>
  zb1 (f_X8_at k p1 (5 : Int32)) fun v14 =>
  zg (zin v14 324) (zl (ms12 v14.toNatClampNeg) fun v15 =>
  zg (zin v13 324) (zl (upd ms12 v13.toNatClampNeg v15) fun ms16 =>
  zb1 (f_X8_at k v9 (6 : Int32)) fun v17 =>
  zb1 (f_X8_at k p1 (6 : Int32)) fun v18 =>
  zg (zin v18 324) (zl (ms16 v18.toNatClampNeg) fun v19 =>
  zg (zin v17 324) (zl (upd ms16 v17.toNatClampNeg v19) fun ms20 =>
  zb1 (f_X8_at k v9 (9 : Int32)) fun v21 =>
  zg (zin v21 324) (zl (upd ms20 v21.toNatClampNeg p1) fun ms22 =>
  zl (ms22 9) fun v23 =>
  zb1 (f_X8_weight k ms22 v9) fun v24 =>
  zl (v23 - v24) fun v25 =>
  zl (upd ms22 9 v25) fun ms26 =>
  some ms26))))))))))
set_option maxRecDepth 100000 in
set_option maxHeartbeats 4000000 in
theorem ct_X8_part (l : Launch) (D : va_G) (ct a : Nat → Nat) (ms : Nat → Int32) (ah : Nat → Int32) (hi : Nat → Int32) (kp : Int32) (sl : Nat → Int32) (sv : Nat → Int32) (pd : Nat → Int32) (ln : Int32) (so : Nat → Int32) (po : Int32) (wr : Int32) (to : Nat → Int32) (sz : Nat) (p1 : Int32) (p2 : Int32) (p3 : Int32) (k : Nat) (ms' : Nat → Int32) (h : f_X8_part k ms p1 p2 p3 = some ms') : Met l yX8_part (Cond.code yX8_part cX8_part 5 none :: zT) ({ frames := 2, cells := 0, slots := 0, locals := 47 } : Room) (va_Pc [.ref (a 30), .int p1, .int p2, .int p3] (zPW D (zTys ct) (wX8 ct a ms ah hi kp sl sv pd ln so po wr to) sz)) (va_Qv (fun (_ : Unit) => True) (zQW D (wX8 ct a ms ah hi kp sl sv pd ln so po wr to) sz (wX8 ct a ms' ah hi kp sl sv pd ln so po wr to)) (va_A (wX8 ct a ms ah hi kp sl sv pd ln so po wr to) sz)) 0 0 (va_A (wX8 ct a ms ah hi kp sl sv pd ln so po wr to) sz) := by
  refine zMet (cc := cX8_part) (maxL := 5) (ret := none) (av := [.ref (a 30), .int p1, .int p2, .int p3]) (by decide) (Nat.le_of_ble_eq_true rfl) (fun p e s m below meth c ls hx hb hr hml hts hown hlocks hin hB hl => ?_)
  have hl : lv_has ls 5 [(0, .ref (a 30)), (1, .int p1), (2, .int p2), (3, .int p3)] := hl
  have hown : s.vm.findClass RX8 = some m.cls := hown
  obtain ⟨hsz, hP, hK, hD0⟩ := hB
  subst hsz
  have hD := hD0.self (sz := s.heap.size)
  obtain ⟨A, hAe⟩ : ∃ A, A = va_A (wX8 ct a ms ah hi kp sl sv pd ln so po wr to) s.heap.size := ⟨_, rfl⟩
  rw [← hAe] at hD
  have hA : ∀ q : Nat, s.heap.size ≤ q → A q := fun q h => by rw [hAe]; exact Or.inr h
  have hS : va_S A s.heap s.heap [] := va_S.rf
  rw [f_X8_part] at h
  refine lv_aload_n hx hb dX8_part_0 rfl (lv_at hl 0 rfl) ?_
  refine lv_aload_n hx hb dX8_part_1 rfl (lv_at hl 0 rfl) ?_
  refine z_get (C := RX8) (T := TX8) (N := 12) (ci := 7) hx hb hts zin_X8 hown hK.1 hP 0 0 rfl rfl (by decide) tw795 rfl rfl dX8_part_2 ?_
  refine lv_iload_n hx hb dX8_part_5 rfl (lv_at hl 1 rfl) ?_
  refine lv_iconst (v := (0 : Int32)) hx hb dX8_part_6 (by decide) ?_
  obtain ⟨v1, hc, h⟩ := zb1_s h
  refine zE_i (zrS (As := [.int p1, .int (0 : Int32)]) (rest := [.ref (a 31), .ref (a 30)]) hx hb hml hown hts tw874 ms_X8_at ⟨Nat.le_of_ble_eq_true rfl, Nat.le_of_ble_eq_true rfl⟩ rfl rfl (ct_X8_at l p1 (0 : Int32) k v1 hc) z_p0 hl.1 rfl rfl (Nat.le_of_ble_eq_true rfl) dX8_part_7 ⟨Nat.le_refl _, Nat.le_refl _⟩) ?_
  refine y_iald hx hb hK hP 1 0 rfl rfl h dX8_part_10 (fun v2 h => ?_)
  refine lv_aload_n hx hb dX8_part_11 rfl (lv_at hl 0 rfl) ?_
  refine z_get (C := RX8) (T := TX8) (N := 12) (ci := 7) hx hb hts zin_X8 hown hK.1 hP 0 0 rfl rfl (by decide) tw795 rfl rfl dX8_part_12 ?_
  refine lv_iload_n hx hb dX8_part_15 rfl (lv_at hl 1 rfl) ?_
  refine lv_iconst (v := (1 : Int32)) hx hb dX8_part_16 (by decide) ?_
  obtain ⟨v3, hc, h⟩ := zb1_s h
  refine zE_i (zrS (As := [.int p1, .int (1 : Int32)]) (rest := [.ref (a 31), .int v2, .ref (a 30)]) hx hb hml hown hts tw874 ms_X8_at ⟨Nat.le_of_ble_eq_true rfl, Nat.le_of_ble_eq_true rfl⟩ rfl rfl (ct_X8_at l p1 (1 : Int32) k v3 hc) z_p0 hl.1 rfl rfl (Nat.le_of_ble_eq_true rfl) dX8_part_17 ⟨Nat.le_refl _, Nat.le_refl _⟩) ?_
  refine y_iald hx hb hK hP 1 0 rfl rfl h dX8_part_20 (fun v4 h => ?_)
  refine lv_aload_n hx hb dX8_part_21 rfl (lv_at hl 0 rfl) ?_
  refine z_get (C := RX8) (T := TX8) (N := 12) (ci := 7) hx hb hts zin_X8 hown hK.1 hP 0 0 rfl rfl (by decide) tw795 rfl rfl dX8_part_22 ?_
  refine lv_iload_n hx hb dX8_part_25 rfl (lv_at hl 1 rfl) ?_
  refine lv_iconst (v := (2 : Int32)) hx hb dX8_part_26 (by decide) ?_
  obtain ⟨v5, hc, h⟩ := zb1_s h
  refine zE_i (zrS (As := [.int p1, .int (2 : Int32)]) (rest := [.ref (a 31), .int v4, .int v2, .ref (a 30)]) hx hb hml hown hts tw874 ms_X8_at ⟨Nat.le_of_ble_eq_true rfl, Nat.le_of_ble_eq_true rfl⟩ rfl rfl (ct_X8_at l p1 (2 : Int32) k v5 hc) z_p0 hl.1 rfl rfl (Nat.le_of_ble_eq_true rfl) dX8_part_27 ⟨Nat.le_refl _, Nat.le_refl _⟩) ?_
  refine y_iald hx hb hK hP 1 0 rfl rfl h dX8_part_30 (fun v6 h => ?_)
  refine lv_aload_n hx hb dX8_part_31 rfl (lv_at hl 0 rfl) ?_
  refine z_get (C := RX8) (T := TX8) (N := 12) (ci := 7) hx hb hts zin_X8 hown hK.1 hP 0 0 rfl rfl (by decide) tw795 rfl rfl dX8_part_32 ?_
  refine lv_iload_n hx hb dX8_part_35 rfl (lv_at hl 1 rfl) ?_
  refine lv_iconst (v := (3 : Int32)) hx hb dX8_part_36 (by decide) ?_
  obtain ⟨v7, hc, h⟩ := zb1_s h
  refine zE_i (zrS (As := [.int p1, .int (3 : Int32)]) (rest := [.ref (a 31), .int v6, .int v4, .int v2, .ref (a 30)]) hx hb hml hown hts tw874 ms_X8_at ⟨Nat.le_of_ble_eq_true rfl, Nat.le_of_ble_eq_true rfl⟩ rfl rfl (ct_X8_at l p1 (3 : Int32) k v7 hc) z_p0 hl.1 rfl rfl (Nat.le_of_ble_eq_true rfl) dX8_part_37 ⟨Nat.le_refl _, Nat.le_refl _⟩) ?_
  refine y_iald hx hb hK hP 1 0 rfl rfl h dX8_part_40 (fun v8 h => ?_)
  obtain ⟨v9, ms10, hc, h⟩ := zb2_s h
  refine zG_i (w1 := wX8 ct a ms10 ah hi kp sl sv pd ln so po wr to) (ws' := wX8 ct a ms10 ah hi kp sl sv pd ln so po wr to) hP hD hS hA [0, 1, 2, 3, 4, 5, 6, 7, 8] [] [0, 1, 2, 3, 4, 5, 6, 7, 8] rfl rfl (by decide) (by decide) rfl (by decide) (zrV (C := RX8) (As := [.int v2, .int v4, .int v6, .int v8]) (rest := []) hx hb hml hown hts tw870 mv_X8_newBlock ⟨Nat.le_of_ble_eq_true rfl, Nat.le_of_ble_eq_true rfl⟩ rfl rfl (ct_X8_newBlock l D ct a ms ah hi kp sl sv pd ln so po wr to _ v2 v4 v6 v8 k v9 ms10 hc) (z_wv hK hP hD [0, 1, 2, 3, 4, 5, 6, 7, 8] (by decide) rfl 0 rfl rfl) hl.1 rfl rfl (Nat.le_of_ble_eq_true rfl) dX8_part_41 ⟨Nat.le_refl _, Nat.le_refl _⟩) (fun H locs hP hD hS => ?_)
  refine lv_istore (lv' := [(4, .int v9), (0, .ref (a 30)), (1, .int p1), (2, .int p2), (3, .int p3)]) hx hb dX8_part_44 hl (by decide) rfl (fun ls hl => ?_)
  refine lv_aload_n hx hb dX8_part_46 rfl (lv_at hl 1 rfl) ?_
  refine z_get (C := RX8) (T := TX8) (N := 12) (ci := 7) hx hb hts zin_X8 hown hK.1 hP 0 0 rfl rfl (by decide) tw795 rfl rfl dX8_part_47 ?_
  refine lv_iload hx hb dX8_part_50 (lv_at hl 0 rfl) ?_
  refine lv_iload_n hx hb dX8_part_52 rfl (lv_at hl 3 rfl) ?_
  obtain ⟨v11, hc, h⟩ := zb1_s h
  refine zE_i (zrS (As := [.int v9, .int p2]) (rest := [.ref (a 31)]) hx hb hml hown hts tw874 ms_X8_at ⟨Nat.le_of_ble_eq_true rfl, Nat.le_of_ble_eq_true rfl⟩ rfl rfl (ct_X8_at l v9 p2 k v11 hc) z_p0 hl.1 rfl rfl (Nat.le_of_ble_eq_true rfl) dX8_part_53 ⟨Nat.le_refl _, Nat.le_refl _⟩) ?_
  refine lv_iload_n hx hb dX8_part_56 rfl (lv_at hl 4 rfl) ?_
  refine z_iast hx hb hK.1 hP hD hS 1 0 rfl rfl h dX8_part_57 (fun ms12 H locs h hP hD hS => ?_)
  have hP : va_P D vwCl (wX8 ct a ms12 ah hi kp sl sv pd ln so po wr to) H := hP
  have hD : va_D A (wX8 ct a ms12 ah hi kp sl sv pd ln so po wr to) := hD
  refine lv_aload_n hx hb dX8_part_58 rfl (lv_at hl 1 rfl) ?_
  refine z_get (C := RX8) (T := TX8) (N := 12) (ci := 7) hx hb hts zin_X8 hown hK.1 hP 0 0 rfl rfl (by decide) tw795 rfl rfl dX8_part_59 ?_
  refine lv_iload hx hb dX8_part_62 (lv_at hl 0 rfl) ?_
  refine lv_iconst (v := (5 : Int32)) hx hb dX8_part_64 (by decide) ?_
  obtain ⟨v13, hc, h⟩ := zb1_s h
  refine zE_i (zrS (As := [.int v9, .int (5 : Int32)]) (rest := [.ref (a 31)]) hx hb hml hown hts tw874 ms_X8_at ⟨Nat.le_of_ble_eq_true rfl, Nat.le_of_ble_eq_true rfl⟩ rfl rfl (ct_X8_at l v9 (5 : Int32) k v13 hc) z_p0 hl.1 rfl rfl (Nat.le_of_ble_eq_true rfl) dX8_part_65 ⟨Nat.le_refl _, Nat.le_refl _⟩) ?_
  refine lv_aload_n hx hb dX8_part_68 rfl (lv_at hl 1 rfl) ?_
  refine z_get (C := RX8) (T := TX8) (N := 12) (ci := 7) hx hb hts zin_X8 hown hK.1 hP 0 0 rfl rfl (by decide) tw795 rfl rfl dX8_part_69 ?_
  refine lv_iload_n hx hb dX8_part_72 rfl (lv_at hl 2 rfl) ?_
  refine lv_iconst (v := (5 : Int32)) hx hb dX8_part_73 (by decide) ?_
  obtain ⟨v14, hc, h⟩ := zb1_s h
  refine zE_i (zrS (As := [.int p1, .int (5 : Int32)]) (rest := [.ref (a 31), .int v13, .ref (a 31)]) hx hb hml hown hts tw874 ms_X8_at ⟨Nat.le_of_ble_eq_true rfl, Nat.le_of_ble_eq_true rfl⟩ rfl rfl (ct_X8_at l p1 (5 : Int32) k v14 hc) z_p0 hl.1 rfl rfl (Nat.le_of_ble_eq_true rfl) dX8_part_74 ⟨Nat.le_refl _, Nat.le_refl _⟩) ?_
  refine y_iald hx hb hK hP 1 0 rfl rfl h dX8_part_77 (fun v15 h => ?_)
  refine z_iast hx hb hK.1 hP hD hS 1 0 rfl rfl h dX8_part_78 (fun ms16 H locs h hP hD hS => ?_)
  have hP : va_P D vwCl (wX8 ct a ms16 ah hi kp sl sv pd ln so po wr to) H := hP
  have hD : va_D A (wX8 ct a ms16 ah hi kp sl sv pd ln so po wr to) := hD
  refine lv_aload_n hx hb dX8_part_79 rfl (lv_at hl 1 rfl) ?_
  refine z_get (C := RX8) (T := TX8) (N := 12) (ci := 7) hx hb hts zin_X8 hown hK.1 hP 0 0 rfl rfl (by decide) tw795 rfl rfl dX8_part_80 ?_
  refine lv_iload hx hb dX8_part_83 (lv_at hl 0 rfl) ?_
  refine lv_bipush (v := (6 : Int32)) hx hb dX8_part_85 (by decide) ?_
  obtain ⟨v17, hc, h⟩ := zb1_s h
  refine zE_i (zrS (As := [.int v9, .int (6 : Int32)]) (rest := [.ref (a 31)]) hx hb hml hown hts tw874 ms_X8_at ⟨Nat.le_of_ble_eq_true rfl, Nat.le_of_ble_eq_true rfl⟩ rfl rfl (ct_X8_at l v9 (6 : Int32) k v17 hc) z_p0 hl.1 rfl rfl (Nat.le_of_ble_eq_true rfl) dX8_part_87 ⟨Nat.le_refl _, Nat.le_refl _⟩) ?_
  refine lv_aload_n hx hb dX8_part_90 rfl (lv_at hl 1 rfl) ?_
  refine z_get (C := RX8) (T := TX8) (N := 12) (ci := 7) hx hb hts zin_X8 hown hK.1 hP 0 0 rfl rfl (by decide) tw795 rfl rfl dX8_part_91 ?_
  refine lv_iload_n hx hb dX8_part_94 rfl (lv_at hl 2 rfl) ?_
  refine lv_bipush (v := (6 : Int32)) hx hb dX8_part_95 (by decide) ?_
  obtain ⟨v18, hc, h⟩ := zb1_s h
  refine zE_i (zrS (As := [.int p1, .int (6 : Int32)]) (rest := [.ref (a 31), .int v17, .ref (a 31)]) hx hb hml hown hts tw874 ms_X8_at ⟨Nat.le_of_ble_eq_true rfl, Nat.le_of_ble_eq_true rfl⟩ rfl rfl (ct_X8_at l p1 (6 : Int32) k v18 hc) z_p0 hl.1 rfl rfl (Nat.le_of_ble_eq_true rfl) dX8_part_97 ⟨Nat.le_refl _, Nat.le_refl _⟩) ?_
  refine y_iald hx hb hK hP 1 0 rfl rfl h dX8_part_100 (fun v19 h => ?_)
  refine z_iast hx hb hK.1 hP hD hS 1 0 rfl rfl h dX8_part_101 (fun ms20 H locs h hP hD hS => ?_)
  have hP : va_P D vwCl (wX8 ct a ms20 ah hi kp sl sv pd ln so po wr to) H := hP
  have hD : va_D A (wX8 ct a ms20 ah hi kp sl sv pd ln so po wr to) := hD
  refine lv_aload_n hx hb dX8_part_102 rfl (lv_at hl 1 rfl) ?_
  refine z_get (C := RX8) (T := TX8) (N := 12) (ci := 7) hx hb hts zin_X8 hown hK.1 hP 0 0 rfl rfl (by decide) tw795 rfl rfl dX8_part_103 ?_
  refine lv_iload hx hb dX8_part_106 (lv_at hl 0 rfl) ?_
  refine lv_bipush (v := (9 : Int32)) hx hb dX8_part_108 (by decide) ?_
  obtain ⟨v21, hc, h⟩ := zb1_s h
  refine zE_i (zrS (As := [.int v9, .int (9 : Int32)]) (rest := [.ref (a 31)]) hx hb hml hown hts tw874 ms_X8_at ⟨Nat.le_of_ble_eq_true rfl, Nat.le_of_ble_eq_true rfl⟩ rfl rfl (ct_X8_at l v9 (9 : Int32) k v21 hc) z_p0 hl.1 rfl rfl (Nat.le_of_ble_eq_true rfl) dX8_part_110 ⟨Nat.le_refl _, Nat.le_refl _⟩) ?_
  refine lv_iload_n hx hb dX8_part_113 rfl (lv_at hl 2 rfl) ?_
  refine z_iast hx hb hK.1 hP hD hS 1 0 rfl rfl h dX8_part_114 (fun ms22 H locs h hP hD hS => ?_)
  have hP : va_P D vwCl (wX8 ct a ms22 ah hi kp sl sv pd ln so po wr to) H := hP
  have hD : va_D A (wX8 ct a ms22 ah hi kp sl sv pd ln so po wr to) := hD
  refine lv_aload_n hx hb dX8_part_115 rfl (lv_at hl 1 rfl) ?_
  refine z_get (C := RX8) (T := TX8) (N := 12) (ci := 7) hx hb hts zin_X8 hown hK.1 hP 0 0 rfl rfl (by decide) tw795 rfl rfl dX8_part_116 ?_
  refine lv_bipush (v := (9 : Int32)) hx hb dX8_part_119 (by decide) ?_
  refine lv_dup2_11 hx hb dX8_part_121 rfl rfl ?_
  refine y_ialdc hx hb hK hP 1 0 9 rfl rfl (by decide) (by decide) h dX8_part_122 (fun v23 h => ?_)
  refine lv_aload_n hx hb dX8_part_123 rfl (lv_at hl 1 rfl) ?_
  refine lv_iload hx hb dX8_part_124 (lv_at hl 0 rfl) ?_
  obtain ⟨v24, hc, h⟩ := zb1_s h
  refine zE_i (zrV (C := RX8) (As := [.int v9]) (rest := [.int v23, .int (9 : Int32), .ref (a 31)]) hx hb hml hown hts tw877 mv_X8_weight ⟨Nat.le_of_ble_eq_true rfl, Nat.le_of_ble_eq_true rfl⟩ rfl rfl (ct_X8_weight l D ct a ms22 ah hi kp sl sv pd ln so po wr to v9 k v24 hc) (z_pv hK hP [0, 1, 2, 3, 4, 5, 6, 7, 8] rfl 0 rfl rfl) hl.1 rfl rfl (Nat.le_of_ble_eq_true rfl) dX8_part_126 ⟨Nat.le_refl _, Nat.le_refl _⟩) ?_
  refine o_isub hx hb dX8_part_129 h (fun v25 h => ?_)
  refine z_iastc hx hb hK.1 hP hD hS 1 0 9 rfl rfl (by decide) (by decide) h dX8_part_130 (fun ms26 H locs h hP hD hS => ?_)
  have hP : va_P D vwCl (wX8 ct a ms26 ah hi kp sl sv pd ln so po wr to) H := hP
  have hD : va_D A (wX8 ct a ms26 ah hi kp sl sv pd ln so po wr to) := hD
  cases h
  exact zX_v hx hb hr hlocks hP hD hS hAe dX8_part_131

def f_X8_underRoof_b29 (k : Nat) (ms : Nat → Int32) (k4 : Int32 → Int32 → Option (Int32)) (x2 : Int32) (y0 : Int32) (y1 : Int32) : Option (Int32) :=
  zl (y1 + y0) fun v3 =>
  zl (x2 + (1 : Int32)) fun v4 =>
  k4 v3 v4
def f_X8_underRoof_b4 (k : Nat) (ms : Nat → Int32)  : Nat → Int32 → Int32 → Option (Int32)
  | 0, _, _ => none
  | n + 1, x1, x2 =>
    zl (ms 5) fun v1 =>
    if v1 ≤ x2 then
      some x1
    else
      zb1 (f_X8_isAt k ms x2 (1 : Int32)) fun v2 =>
      if v2 = 0 then
        f_X8_underRoof_b29 k ms (f_X8_underRoof_b4 k ms n) x2 (0 : Int32) x1
      else
        f_X8_underRoof_b29 k ms (f_X8_underRoof_b4 k ms n) x2 (1 : Int32) x1
def f_X8_underRoof (k : Nat) (ms : Nat → Int32) : Option (Int32) :=
  f_X8_underRoof_b4 k ms k (0 : Int32) (0 : Int32)
set_option maxRecDepth 100000 in
set_option maxHeartbeats 4000000 in
theorem ct_X8_underRoof (l : Launch) (D : va_G) (ct a : Nat → Nat) (ms : Nat → Int32) (ah : Nat → Int32) (hi : Nat → Int32) (kp : Int32) (sl : Nat → Int32) (sv : Nat → Int32) (pd : Nat → Int32) (ln : Int32) (so : Nat → Int32) (po : Int32) (wr : Int32) (to : Nat → Int32) (k : Nat) (r : Int32) (h : f_X8_underRoof k ms = some r) : Met l yX8_underRoof (Cond.code yX8_underRoof cX8_underRoof 3 (some .int) :: zT) ({ frames := 2, cells := 0, slots := 0, locals := 43 } : Room) (va_Pc [.ref (a 30)] (zPR D (zTys ct) (wX8 ct a ms ah hi kp sl sv pd ln so po wr to))) (vp_Si (fun r' => r' = r)) 0 0 (fun _ => False) := by
  refine zMet (cc := cX8_underRoof) (maxL := 3) (ret := (some .int)) (av := [.ref (a 30)]) (by decide) (Nat.le_of_ble_eq_true rfl) (fun p e s m below meth c ls hx hb hr hml hts hown hlocks hin hB hl => ?_)
  have hl : lv_has ls 3 [(0, .ref (a 30))] := hl
  have hown : s.vm.findClass RX8 = some m.cls := hown
  obtain ⟨hP, hK⟩ := hB
  have B29 : ∀ (k4 : Int32 → Int32 → Option (Int32)) (hk4 : ∀ (x1 : Int32) (x2 : Int32), k4 x1 x2 = some r → ∀ (ls : Array Slot), lv_has ls 3 [(0, .ref (a 30)), (1, .int x1), (2, .int x2)] → W p l e ({ frames := 2, cells := 0, slots := 0, locals := 43 } : Room) s m ([.ref (a 30)] : List Value).toArray below meth c s.heap [] 0 0 (MQ below (vp_Si (fun r' => r' = r)) ([.ref (a 30)] : List Value).toArray s 0 0 (fun _ => False)) (F0 m 4 ls [])), ∀ (x2 : Int32) (y0 : Int32) (y1 : Int32), f_X8_underRoof_b29 k ms k4 x2 y0 y1 = some r → ∀ (ls : Array Slot), lv_has ls 3 [(0, .ref (a 30)), (2, .int x2)] → W p l e ({ frames := 2, cells := 0, slots := 0, locals := 43 } : Room) s m ([.ref (a 30)] : List Value).toArray below meth c s.heap [] 0 0 (MQ below (vp_Si (fun r' => r' = r)) ([.ref (a 30)] : List Value).toArray s 0 0 (fun _ => False)) (F0 m 29 ls [.int y0, .int y1]) := by
    intro k4 hk4
    intro x2 y0 y1 h ls hl
    rw [f_X8_underRoof_b29] at h
    refine o_iadd hx hb dX8_underRoof_29 h (fun v3 h => ?_)
    refine lv_istore_n (lv' := [(1, .int v3), (0, .ref (a 30)), (2, .int x2)]) hx hb dX8_underRoof_30 rfl hl (by decide) rfl (fun ls hl => ?_)
    refine o_nm h (fun v4 ey h => ?_)
    refine lv_iinc (v := v4) (lv' := [(2, .int v4), (1, .int v3), (0, .ref (a 30))]) hx hb dX8_underRoof_31 hl (k := 2) rfl (Eq.trans rfl ey) (by decide) rfl (fun ls hl => ?_)
    refine lv_goto (tgt := 4) hx hb dX8_underRoof_34 (by decide) ?_
    exact hk4 v3 v4 h ls (lv_sub hl [2, 1, 0] rfl)
  have B4 : ∀ (n : Nat), ∀ (x1 : Int32) (x2 : Int32), f_X8_underRoof_b4 k ms n x1 x2 = some r → ∀ (ls : Array Slot), lv_has ls 3 [(0, .ref (a 30)), (1, .int x1), (2, .int x2)] → W p l e ({ frames := 2, cells := 0, slots := 0, locals := 43 } : Room) s m ([.ref (a 30)] : List Value).toArray below meth c s.heap [] 0 0 (MQ below (vp_Si (fun r' => r' = r)) ([.ref (a 30)] : List Value).toArray s 0 0 (fun _ => False)) (F0 m 4 ls []) := by
    intro n
    induction n with
    | zero => intro x1 x2 h; exact absurd h (by rw [f_X8_underRoof_b4]; exact fun q => nomatch q)
    | succ n ih4 =>
      intro x1 x2 h ls hl
      rw [f_X8_underRoof_b4] at h
      refine lv_iload_n hx hb dX8_underRoof_4 rfl (lv_at hl 2 rfl) ?_
      refine lv_aload_n hx hb dX8_underRoof_5 rfl (lv_at hl 0 rfl) ?_
      refine z_get (C := RX8) (T := TX8) (N := 12) (ci := 7) hx hb hts zin_X8 hown hK.1 hP 0 0 rfl rfl (by decide) tw795 rfl rfl dX8_underRoof_6 ?_
      refine lv_iconst (v := (5 : Int32)) hx hb dX8_underRoof_9 (by decide) ?_
      refine y_ialdc hx hb hK hP 1 0 5 rfl rfl (by decide) (by decide) h dX8_underRoof_10 (fun v1 h => ?_)
      refine zc_ge (tgt := 37) hx hb dX8_underRoof_11 (by decide) h (fun h => ?_) (fun h => ?_)
      · refine lv_iload_n hx hb dX8_underRoof_37 rfl (lv_at hl 1 rfl) ?_
        exact zR_i hx hb hr hlocks dX8_underRoof_38 h
      · refine lv_iload_n hx hb dX8_underRoof_14 rfl (lv_at hl 1 rfl) ?_
        refine lv_aload_n hx hb dX8_underRoof_15 rfl (lv_at hl 0 rfl) ?_
        refine lv_iload_n hx hb dX8_underRoof_16 rfl (lv_at hl 2 rfl) ?_
        refine lv_iconst (v := (1 : Int32)) hx hb dX8_underRoof_17 (by decide) ?_
        obtain ⟨v2, hc, h⟩ := zb1_s h
        refine zE_i (zrV (C := RX8) (As := [.int x2, .int (1 : Int32)]) (rest := [.int x1]) hx hb hml hown hts tw897 mv_X8_isAt ⟨Nat.le_of_ble_eq_true rfl, Nat.le_of_ble_eq_true rfl⟩ rfl rfl (ct_X8_isAt l D ct a ms ah hi kp sl sv pd ln so po wr to x2 (1 : Int32) k v2 hc) (z_pv hK hP [0, 1, 2, 3, 4, 5, 6, 7, 8] rfl 0 rfl rfl) hl.1 rfl rfl (Nat.le_of_ble_eq_true rfl) dX8_underRoof_18 ⟨Nat.le_refl _, Nat.le_refl _⟩) ?_
        refine zi_eq (tgt := 28) hx hb dX8_underRoof_21 (by decide) h (fun h => ?_) (fun h => ?_)
        · refine lv_iconst (v := (0 : Int32)) hx hb dX8_underRoof_28 (by decide) ?_
          exact B29 (f_X8_underRoof_b4 k ms n) ih4 x2 (0 : Int32) x1 h ls (lv_sub hl [0, 2] rfl)
        · refine lv_iconst (v := (1 : Int32)) hx hb dX8_underRoof_24 (by decide) ?_
          refine lv_goto (tgt := 29) hx hb dX8_underRoof_25 (by decide) ?_
          exact B29 (f_X8_underRoof_b4 k ms n) ih4 x2 (1 : Int32) x1 h ls (lv_sub hl [0, 2] rfl)
  rw [f_X8_underRoof] at h
  refine lv_iconst (v := (0 : Int32)) hx hb dX8_underRoof_0 (by decide) ?_
  refine lv_istore_n (lv' := [(1, .int (0 : Int32)), (0, .ref (a 30))]) hx hb dX8_underRoof_1 rfl hl (by decide) rfl (fun ls hl => ?_)
  refine lv_iconst (v := (0 : Int32)) hx hb dX8_underRoof_2 (by decide) ?_
  refine lv_istore_n (lv' := [(2, .int (0 : Int32)), (1, .int (0 : Int32)), (0, .ref (a 30))]) hx hb dX8_underRoof_3 rfl hl (by decide) rfl (fun ls hl => ?_)
  exact B4 k (0 : Int32) (0 : Int32) h ls (lv_sub hl [2, 1, 0] rfl)

def f_X8_cuts_b144 (k : Nat) (p1 : Int32) (p2 : Int32) (p3 : Int32)  : Nat → (Nat → Int32) → Int32 → Int32 → Int32 → Option (Int32 × (Nat → Int32))
  | 0, _, _, _, _ => none
  | n + 1, ms_, x5, x6, x7 =>
    zl (x5 + (2 : Int32)) fun v22 =>
    if v22 ≤ x7 then
      some (x5, ms_)
    else
      zb1 (f_X8_at k x7 (4 : Int32)) fun v23 =>
      if x6 = 0 then
        zg (zin v23 324) (zl (upd ms_ v23.toNatClampNeg (0 : Int32)) fun ms24 =>
        zl (x7 + (1 : Int32)) fun v25 =>
        f_X8_cuts_b144 k p1 p2 p3 n ms24 x5 x6 v25)
      else
        zb1 (f_X8_underRoof k ms_) fun v26 =>
        if (4 : Int32) ≤ v26 then
          zg (zin v23 324) (zl (upd ms_ v23.toNatClampNeg (0 : Int32)) fun ms27 =>
          zl (x7 + (1 : Int32)) fun v28 =>
          f_X8_cuts_b144 k p1 p2 p3 n ms27 x5 x6 v28)
        else
          zg (zin v23 324) (zl (upd ms_ v23.toNatClampNeg (1 : Int32)) fun ms29 =>
          zl (x7 + (1 : Int32)) fun v30 =>
          f_X8_cuts_b144 k p1 p2 p3 n ms29 x5 x6 v30)
def f_X8_cuts (k : Nat) (ms : Nat → Int32) (p1 : Int32) (p2 : Int32) (p3 : Int32) : Option (Int32 × (Nat → Int32)) :=
  zb1 (f_X8_isBlock k ms p1) fun v1 =>
  if v1 = 0 then
    some ((-1 : Int32), ms)
  else
    zb1 (f_X8_in k p2 (0 : Int32) (2 : Int32)) fun v2 =>
    if v2 = 0 then
      some ((-2 : Int32), ms)
    else
      zb1 (f_X8_isSize k p3) fun v3 =>
      if v3 = 0 then
        some ((-2 : Int32), ms)
      else
        zb1 (f_X8_at k p1 p2) fun v4 =>
        zg (zin v4 324) (zl (ms v4.toNatClampNeg) fun v5 =>
        zl (v5 - p3) fun v6 =>
        zl (ms 0) fun v7 =>
        zl (v6 - v7) fun v8 =>
        zb1 (f_X8_canBeCut k ms p1) fun v9 =>
        if v9 = 0 then
          some ((-5 : Int32), ms)
        else
          if (1 : Int32) ≤ v8 then
            zl (ms 5) fun v10 =>
            zl (v10 + (2 : Int32)) fun v11 =>
            if v11 ≤ (24 : Int32) then
              zl (ms 5) fun v12 =>
              zb1 (f_X8_isAt k ms p1 (1 : Int32)) fun v13 =>
              zl (ms 9) fun v14 =>
              zb1 (f_X8_weight k ms p1) fun v15 =>
              zl (v14 + v15) fun v16 =>
              zl (upd ms 9 v16) fun ms17 =>
              zb1 (f_X8_part k ms17 p1 p2 p3) fun ms18 =>
              zb1 (f_X8_part k ms18 p1 p2 v8) fun ms19 =>
              zb1 (f_X8_at k p1 (4 : Int32)) fun v20 =>
              zg (zin v20 324) (zl (upd ms19 v20.toNatClampNeg (4 : Int32)) fun ms21 =>
              f_X8_cuts_b144 k p1 p2 p3 k ms21 v12 v13 v12)
            else
              some ((-4 : Int32), ms)
          else
            some ((-5 : Int32), ms))
set_option maxRecDepth 100000 in
set_option maxHeartbeats 4000000 in
theorem ct_X8_cuts (l : Launch) (D : va_G) (ct a : Nat → Nat) (ms : Nat → Int32) (ah : Nat → Int32) (hi : Nat → Int32) (kp : Int32) (sl : Nat → Int32) (sv : Nat → Int32) (pd : Nat → Int32) (ln : Int32) (so : Nat → Int32) (po : Int32) (wr : Int32) (to : Nat → Int32) (sz : Nat) (p1 : Int32) (p2 : Int32) (p3 : Int32) (k : Nat) (r : Int32) (ms' : Nat → Int32) (h : f_X8_cuts k ms p1 p2 p3 = some (r, ms')) : Met l yX8_cuts (Cond.code yX8_cuts cX8_cuts 8 (some .int) :: zT) ({ frames := 4, cells := 0, slots := 0, locals := 85 } : Room) (va_Pc [.ref (a 30), .int p1, .int p2, .int p3] (zPW D (zTys ct) (wX8 ct a ms ah hi kp sl sv pd ln so po wr to) sz)) (va_Qi (fun r' (_ : Unit) => r' = r) (zQW D (wX8 ct a ms ah hi kp sl sv pd ln so po wr to) sz (wX8 ct a ms' ah hi kp sl sv pd ln so po wr to)) (va_A (wX8 ct a ms ah hi kp sl sv pd ln so po wr to) sz)) 0 0 (va_A (wX8 ct a ms ah hi kp sl sv pd ln so po wr to) sz) := by
  refine zMet (cc := cX8_cuts) (maxL := 8) (ret := (some .int)) (av := [.ref (a 30), .int p1, .int p2, .int p3]) (by decide) (Nat.le_of_ble_eq_true rfl) (fun p e s m below meth c ls hx hb hr hml hts hown hlocks hin hB hl => ?_)
  have hl : lv_has ls 8 [(0, .ref (a 30)), (1, .int p1), (2, .int p2), (3, .int p3)] := hl
  have hown : s.vm.findClass RX8 = some m.cls := hown
  obtain ⟨hsz, hP, hK, hD0⟩ := hB
  subst hsz
  have hD := hD0.self (sz := s.heap.size)
  obtain ⟨A, hAe⟩ : ∃ A, A = va_A (wX8 ct a ms ah hi kp sl sv pd ln so po wr to) s.heap.size := ⟨_, rfl⟩
  rw [← hAe] at hD
  have hA : ∀ q : Nat, s.heap.size ≤ q → A q := fun q h => by rw [hAe]; exact Or.inr h
  have hS : va_S A s.heap s.heap [] := va_S.rf
  have B144 : ∀ (n : Nat), ∀ (ms_ : Nat → Int32) (x5 : Int32) (x6 : Int32) (x7 : Int32), f_X8_cuts_b144 k p1 p2 p3 n ms_ x5 x6 x7 = some (r, ms') → ∀ (H : Heap) (locs : List Loc), va_P D vwCl (wX8 ct a ms_ ah hi kp sl sv pd ln so po wr to) H → va_D A (wX8 ct a ms_ ah hi kp sl sv pd ln so po wr to) → va_S A s.heap H locs → ∀ (ls : Array Slot), lv_has ls 8 [(0, .ref (a 30)), (5, .int x5), (6, .int x6), (7, .int x7)] → W p l e ({ frames := 4, cells := 0, slots := 0, locals := 85 } : Room) s m ([.ref (a 30), .int p1, .int p2, .int p3] : List Value).toArray below meth c H locs 0 0 (MQ below (va_Qi (fun r' (_ : Unit) => r' = r) (zQW D (wX8 ct a ms ah hi kp sl sv pd ln so po wr to) s.heap.size (wX8 ct a ms' ah hi kp sl sv pd ln so po wr to)) (va_A (wX8 ct a ms ah hi kp sl sv pd ln so po wr to) s.heap.size)) ([.ref (a 30), .int p1, .int p2, .int p3] : List Value).toArray s 0 0 (va_A (wX8 ct a ms ah hi kp sl sv pd ln so po wr to) s.heap.size)) (F0 m 144 ls []) := by
    intro n
    induction n with
    | zero => intro ms_ x5 x6 x7 h; exact absurd h (by rw [f_X8_cuts_b144]; exact fun q => nomatch q)
    | succ n ih144 =>
      intro ms_ x5 x6 x7 h H locs hP hD hS ls hl
      rw [f_X8_cuts_b144] at h
      refine lv_iload hx hb dX8_cuts_144 (lv_at hl 3 rfl) ?_
      refine lv_iload hx hb dX8_cuts_146 (lv_at hl 1 rfl) ?_
      refine lv_iconst (v := (2 : Int32)) hx hb dX8_cuts_148 (by decide) ?_
      refine o_iadd hx hb dX8_cuts_149 h (fun v22 h => ?_)
      refine zc_ge (tgt := 188) hx hb dX8_cuts_150 (by decide) h (fun h => ?_) (fun h => ?_)
      · refine lv_iload hx hb dX8_cuts_188 (lv_at hl 1 rfl) ?_
        cases h
        exact zX_i hx hb hr hlocks hP hD hS hAe dX8_cuts_190 rfl
      · refine lv_aload_n hx hb dX8_cuts_153 rfl (lv_at hl 0 rfl) ?_
        refine z_get (C := RX8) (T := TX8) (N := 12) (ci := 7) hx hb hts zin_X8 hown hK.1 hP 0 0 rfl rfl (by decide) tw795 rfl rfl dX8_cuts_154 ?_
        refine lv_iload hx hb dX8_cuts_157 (lv_at hl 3 rfl) ?_
        refine lv_iconst (v := (4 : Int32)) hx hb dX8_cuts_159 (by decide) ?_
        obtain ⟨v23, hc, h⟩ := zb1_s h
        refine zE_i (zrS (As := [.int x7, .int (4 : Int32)]) (rest := [.ref (a 31)]) hx hb hml hown hts tw874 ms_X8_at ⟨Nat.le_of_ble_eq_true rfl, Nat.le_of_ble_eq_true rfl⟩ rfl rfl (ct_X8_at l x7 (4 : Int32) k v23 hc) z_p0 hl.1 rfl rfl (Nat.le_of_ble_eq_true rfl) dX8_cuts_160 ⟨Nat.le_refl _, Nat.le_refl _⟩) ?_
        refine lv_iload hx hb dX8_cuts_163 (lv_at hl 2 rfl) ?_
        refine zi_eq (tgt := 180) hx hb dX8_cuts_165 (by decide) h (fun h => ?_) (fun h => ?_)
        · refine lv_iconst (v := (0 : Int32)) hx hb dX8_cuts_180 (by decide) ?_
          refine z_iast hx hb hK.1 hP hD hS 1 0 rfl rfl h dX8_cuts_181 (fun ms24 H locs h hP hD hS => ?_)
          have hP : va_P D vwCl (wX8 ct a ms24 ah hi kp sl sv pd ln so po wr to) H := hP
          have hD : va_D A (wX8 ct a ms24 ah hi kp sl sv pd ln so po wr to) := hD
          refine o_nm h (fun v25 ey h => ?_)
          refine lv_iinc (v := v25) (lv' := [(7, .int v25), (0, .ref (a 30)), (5, .int x5), (6, .int x6)]) hx hb dX8_cuts_182 hl (k := 3) rfl (Eq.trans rfl ey) (by decide) rfl (fun ls hl => ?_)
          refine lv_goto (tgt := 144) hx hb dX8_cuts_185 (by decide) ?_
          exact ih144 ms24 x5 x6 v25 h _ _ hP hD hS ls (lv_sub hl [1, 2, 3, 0] rfl)
        · refine lv_aload_n hx hb dX8_cuts_168 rfl (lv_at hl 0 rfl) ?_
          obtain ⟨v26, hc, h⟩ := zb1_s h
          refine zE_i (zrV (C := RX8) (As := []) (rest := [.int v23, .ref (a 31)]) hx hb hml hown hts tw905 mv_X8_underRoof ⟨Nat.le_of_ble_eq_true rfl, Nat.le_of_ble_eq_true rfl⟩ rfl rfl (ct_X8_underRoof l D ct a ms_ ah hi kp sl sv pd ln so po wr to k v26 hc) (z_pv hK hP [0, 1, 2, 3, 4, 5, 6, 7, 8] rfl 0 rfl rfl) hl.1 rfl rfl (Nat.le_of_ble_eq_true rfl) dX8_cuts_169 ⟨Nat.le_refl _, Nat.le_refl _⟩) ?_
          refine lv_iconst (v := (4 : Int32)) hx hb dX8_cuts_172 (by decide) ?_
          refine zc_ge (tgt := 180) hx hb dX8_cuts_173 (by decide) h (fun h => ?_) (fun h => ?_)
          · refine lv_iconst (v := (0 : Int32)) hx hb dX8_cuts_180 (by decide) ?_
            refine z_iast hx hb hK.1 hP hD hS 1 0 rfl rfl h dX8_cuts_181 (fun ms27 H locs h hP hD hS => ?_)
            have hP : va_P D vwCl (wX8 ct a ms27 ah hi kp sl sv pd ln so po wr to) H := hP
            have hD : va_D A (wX8 ct a ms27 ah hi kp sl sv pd ln so po wr to) := hD
            refine o_nm h (fun v28 ey h => ?_)
            refine lv_iinc (v := v28) (lv' := [(7, .int v28), (0, .ref (a 30)), (5, .int x5), (6, .int x6)]) hx hb dX8_cuts_182 hl (k := 3) rfl (Eq.trans rfl ey) (by decide) rfl (fun ls hl => ?_)
            refine lv_goto (tgt := 144) hx hb dX8_cuts_185 (by decide) ?_
            exact ih144 ms27 x5 x6 v28 h _ _ hP hD hS ls (lv_sub hl [1, 2, 3, 0] rfl)
          · refine lv_iconst (v := (1 : Int32)) hx hb dX8_cuts_176 (by decide) ?_
            refine lv_goto (tgt := 181) hx hb dX8_cuts_177 (by decide) ?_
            refine z_iast hx hb hK.1 hP hD hS 1 0 rfl rfl h dX8_cuts_181 (fun ms29 H locs h hP hD hS => ?_)
            have hP : va_P D vwCl (wX8 ct a ms29 ah hi kp sl sv pd ln so po wr to) H := hP
            have hD : va_D A (wX8 ct a ms29 ah hi kp sl sv pd ln so po wr to) := hD
            refine o_nm h (fun v30 ey h => ?_)
            refine lv_iinc (v := v30) (lv' := [(7, .int v30), (0, .ref (a 30)), (5, .int x5), (6, .int x6)]) hx hb dX8_cuts_182 hl (k := 3) rfl (Eq.trans rfl ey) (by decide) rfl (fun ls hl => ?_)
            refine lv_goto (tgt := 144) hx hb dX8_cuts_185 (by decide) ?_
            exact ih144 ms29 x5 x6 v30 h _ _ hP hD hS ls (lv_sub hl [1, 2, 3, 0] rfl)
  rw [f_X8_cuts] at h
  refine lv_aload_n hx hb dX8_cuts_0 rfl (lv_at hl 0 rfl) ?_
  refine lv_iload_n hx hb dX8_cuts_1 rfl (lv_at hl 1 rfl) ?_
  obtain ⟨v1, hc, h⟩ := zb1_s h
  refine zE_i (zrV (C := RX8) (As := [.int p1]) (rest := []) hx hb hml hown hts tw885 mv_X8_isBlock ⟨Nat.le_of_ble_eq_true rfl, Nat.le_of_ble_eq_true rfl⟩ rfl rfl (ct_X8_isBlock l D ct a ms ah hi kp sl sv pd ln so po wr to p1 k v1 hc) (z_pv hK hP [0, 1, 2, 3, 4, 5, 6, 7, 8] rfl 0 rfl rfl) hl.1 rfl rfl (Nat.le_of_ble_eq_true rfl) dX8_cuts_2 ⟨Nat.le_refl _, Nat.le_refl _⟩) ?_
  refine zi_ne (tgt := 10) hx hb dX8_cuts_5 (by decide) h (fun h => ?_) (fun h => ?_)
  · refine lv_iload_n hx hb dX8_cuts_10 rfl (lv_at hl 2 rfl) ?_
    refine lv_iconst (v := (0 : Int32)) hx hb dX8_cuts_11 (by decide) ?_
    refine lv_iconst (v := (2 : Int32)) hx hb dX8_cuts_12 (by decide) ?_
    obtain ⟨v2, hc, h⟩ := zb1_s h
    refine zE_i (zrS (As := [.int p2, .int (0 : Int32), .int (2 : Int32)]) (rest := []) hx hb hml hown hts tw836 ms_X8_in ⟨Nat.le_of_ble_eq_true rfl, Nat.le_of_ble_eq_true rfl⟩ rfl rfl (ct_X8_in l p2 (0 : Int32) (2 : Int32) k v2 hc) z_p0 hl.1 rfl rfl (Nat.le_of_ble_eq_true rfl) dX8_cuts_13 ⟨Nat.le_refl _, Nat.le_refl _⟩) ?_
    refine zi_eq (tgt := 26) hx hb dX8_cuts_16 (by decide) h (fun h => ?_) (fun h => ?_)
    · refine lv_bipush (v := (-2 : Int32)) hx hb dX8_cuts_26 (by decide) ?_
      cases h
      exact zX_i hx hb hr hlocks hP hD hS hAe dX8_cuts_28 rfl
    · refine lv_iload_n hx hb dX8_cuts_19 rfl (lv_at hl 3 rfl) ?_
      obtain ⟨v3, hc, h⟩ := zb1_s h
      refine zE_i (zrS (As := [.int p3]) (rest := []) hx hb hml hown hts tw867 ms_X8_isSize ⟨Nat.le_of_ble_eq_true rfl, Nat.le_of_ble_eq_true rfl⟩ rfl rfl (ct_X8_isSize l p3 k v3 hc) z_p0 hl.1 rfl rfl (Nat.le_of_ble_eq_true rfl) dX8_cuts_20 ⟨Nat.le_refl _, Nat.le_refl _⟩) ?_
      refine zi_ne (tgt := 29) hx hb dX8_cuts_23 (by decide) h (fun h => ?_) (fun h => ?_)
      · refine lv_aload_n hx hb dX8_cuts_29 rfl (lv_at hl 0 rfl) ?_
        refine z_get (C := RX8) (T := TX8) (N := 12) (ci := 7) hx hb hts zin_X8 hown hK.1 hP 0 0 rfl rfl (by decide) tw795 rfl rfl dX8_cuts_30 ?_
        refine lv_iload_n hx hb dX8_cuts_33 rfl (lv_at hl 1 rfl) ?_
        refine lv_iload_n hx hb dX8_cuts_34 rfl (lv_at hl 2 rfl) ?_
        obtain ⟨v4, hc, h⟩ := zb1_s h
        refine zE_i (zrS (As := [.int p1, .int p2]) (rest := [.ref (a 31)]) hx hb hml hown hts tw874 ms_X8_at ⟨Nat.le_of_ble_eq_true rfl, Nat.le_of_ble_eq_true rfl⟩ rfl rfl (ct_X8_at l p1 p2 k v4 hc) z_p0 hl.1 rfl rfl (Nat.le_of_ble_eq_true rfl) dX8_cuts_35 ⟨Nat.le_refl _, Nat.le_refl _⟩) ?_
        refine y_iald hx hb hK hP 1 0 rfl rfl h dX8_cuts_38 (fun v5 h => ?_)
        refine lv_iload_n hx hb dX8_cuts_39 rfl (lv_at hl 3 rfl) ?_
        refine o_isub hx hb dX8_cuts_40 h (fun v6 h => ?_)
        refine lv_aload_n hx hb dX8_cuts_41 rfl (lv_at hl 0 rfl) ?_
        refine z_get (C := RX8) (T := TX8) (N := 12) (ci := 7) hx hb hts zin_X8 hown hK.1 hP 0 0 rfl rfl (by decide) tw795 rfl rfl dX8_cuts_42 ?_
        refine lv_iconst (v := (0 : Int32)) hx hb dX8_cuts_45 (by decide) ?_
        refine y_ialdc hx hb hK hP 1 0 0 rfl rfl (by decide) (by decide) h dX8_cuts_46 (fun v7 h => ?_)
        refine o_isub hx hb dX8_cuts_47 h (fun v8 h => ?_)
        refine lv_istore (lv' := [(4, .int v8), (0, .ref (a 30)), (1, .int p1), (2, .int p2), (3, .int p3)]) hx hb dX8_cuts_48 hl (by decide) rfl (fun ls hl => ?_)
        refine lv_aload_n hx hb dX8_cuts_50 rfl (lv_at hl 1 rfl) ?_
        refine lv_iload_n hx hb dX8_cuts_51 rfl (lv_at hl 2 rfl) ?_
        obtain ⟨v9, hc, h⟩ := zb1_s h
        refine zE_i (zrV (C := RX8) (As := [.int p1]) (rest := []) hx hb hml hown hts tw889 mv_X8_canBeCut ⟨Nat.le_of_ble_eq_true rfl, Nat.le_of_ble_eq_true rfl⟩ rfl rfl (ct_X8_canBeCut l D ct a ms ah hi kp sl sv pd ln so po wr to p1 k v9 hc) (z_pv hK hP [0, 1, 2, 3, 4, 5, 6, 7, 8] rfl 0 rfl rfl) hl.1 rfl rfl (Nat.le_of_ble_eq_true rfl) dX8_cuts_52 ⟨Nat.le_refl _, Nat.le_refl _⟩) ?_
        refine zi_eq (tgt := 64) hx hb dX8_cuts_55 (by decide) h (fun h => ?_) (fun h => ?_)
        · refine lv_bipush (v := (-5 : Int32)) hx hb dX8_cuts_64 (by decide) ?_
          cases h
          exact zX_i hx hb hr hlocks hP hD hS hAe dX8_cuts_66 rfl
        · refine lv_iload hx hb dX8_cuts_58 (lv_at hl 0 rfl) ?_
          refine lv_iconst (v := (1 : Int32)) hx hb dX8_cuts_60 (by decide) ?_
          refine zc_ge (tgt := 67) hx hb dX8_cuts_61 (by decide) h (fun h => ?_) (fun h => ?_)
          · refine lv_aload_n hx hb dX8_cuts_67 rfl (lv_at hl 1 rfl) ?_
            refine z_get (C := RX8) (T := TX8) (N := 12) (ci := 7) hx hb hts zin_X8 hown hK.1 hP 0 0 rfl rfl (by decide) tw795 rfl rfl dX8_cuts_68 ?_
            refine lv_iconst (v := (5 : Int32)) hx hb dX8_cuts_71 (by decide) ?_
            refine y_ialdc hx hb hK hP 1 0 5 rfl rfl (by decide) (by decide) h dX8_cuts_72 (fun v10 h => ?_)
            refine lv_iconst (v := (2 : Int32)) hx hb dX8_cuts_73 (by decide) ?_
            refine o_iadd hx hb dX8_cuts_74 h (fun v11 h => ?_)
            refine lv_bipush (v := (24 : Int32)) hx hb dX8_cuts_75 (by decide) ?_
            refine zc_le (tgt := 83) hx hb dX8_cuts_77 (by decide) h (fun h => ?_) (fun h => ?_)
            · refine lv_aload_n hx hb dX8_cuts_83 rfl (lv_at hl 1 rfl) ?_
              refine z_get (C := RX8) (T := TX8) (N := 12) (ci := 7) hx hb hts zin_X8 hown hK.1 hP 0 0 rfl rfl (by decide) tw795 rfl rfl dX8_cuts_84 ?_
              refine lv_iconst (v := (5 : Int32)) hx hb dX8_cuts_87 (by decide) ?_
              refine y_ialdc hx hb hK hP 1 0 5 rfl rfl (by decide) (by decide) h dX8_cuts_88 (fun v12 h => ?_)
              refine lv_istore (lv' := [(5, .int v12), (4, .int v8), (0, .ref (a 30)), (1, .int p1), (2, .int p2), (3, .int p3)]) hx hb dX8_cuts_89 hl (by decide) rfl (fun ls hl => ?_)
              refine lv_aload_n hx hb dX8_cuts_91 rfl (lv_at hl 2 rfl) ?_
              refine lv_iload_n hx hb dX8_cuts_92 rfl (lv_at hl 3 rfl) ?_
              refine lv_iconst (v := (1 : Int32)) hx hb dX8_cuts_93 (by decide) ?_
              obtain ⟨v13, hc, h⟩ := zb1_s h
              refine zE_i (zrV (C := RX8) (As := [.int p1, .int (1 : Int32)]) (rest := []) hx hb hml hown hts tw897 mv_X8_isAt ⟨Nat.le_of_ble_eq_true rfl, Nat.le_of_ble_eq_true rfl⟩ rfl rfl (ct_X8_isAt l D ct a ms ah hi kp sl sv pd ln so po wr to p1 (1 : Int32) k v13 hc) (z_pv hK hP [0, 1, 2, 3, 4, 5, 6, 7, 8] rfl 0 rfl rfl) hl.1 rfl rfl (Nat.le_of_ble_eq_true rfl) dX8_cuts_94 ⟨Nat.le_refl _, Nat.le_refl _⟩) ?_
              refine lv_istore (lv' := [(6, .int v13), (5, .int v12), (4, .int v8), (0, .ref (a 30)), (1, .int p1), (2, .int p2), (3, .int p3)]) hx hb dX8_cuts_97 hl (by decide) rfl (fun ls hl => ?_)
              refine lv_aload_n hx hb dX8_cuts_99 rfl (lv_at hl 3 rfl) ?_
              refine z_get (C := RX8) (T := TX8) (N := 12) (ci := 7) hx hb hts zin_X8 hown hK.1 hP 0 0 rfl rfl (by decide) tw795 rfl rfl dX8_cuts_100 ?_
              refine lv_bipush (v := (9 : Int32)) hx hb dX8_cuts_103 (by decide) ?_
              refine lv_dup2_11 hx hb dX8_cuts_105 rfl rfl ?_
              refine y_ialdc hx hb hK hP 1 0 9 rfl rfl (by decide) (by decide) h dX8_cuts_106 (fun v14 h => ?_)
              refine lv_aload_n hx hb dX8_cuts_107 rfl (lv_at hl 3 rfl) ?_
              refine lv_iload_n hx hb dX8_cuts_108 rfl (lv_at hl 4 rfl) ?_
              obtain ⟨v15, hc, h⟩ := zb1_s h
              refine zE_i (zrV (C := RX8) (As := [.int p1]) (rest := [.int v14, .int (9 : Int32), .ref (a 31)]) hx hb hml hown hts tw877 mv_X8_weight ⟨Nat.le_of_ble_eq_true rfl, Nat.le_of_ble_eq_true rfl⟩ rfl rfl (ct_X8_weight l D ct a ms ah hi kp sl sv pd ln so po wr to p1 k v15 hc) (z_pv hK hP [0, 1, 2, 3, 4, 5, 6, 7, 8] rfl 0 rfl rfl) hl.1 rfl rfl (Nat.le_of_ble_eq_true rfl) dX8_cuts_109 ⟨Nat.le_refl _, Nat.le_refl _⟩) ?_
              refine o_iadd hx hb dX8_cuts_112 h (fun v16 h => ?_)
              refine z_iastc hx hb hK.1 hP hD hS 1 0 9 rfl rfl (by decide) (by decide) h dX8_cuts_113 (fun ms17 H locs h hP hD hS => ?_)
              have hP : va_P D vwCl (wX8 ct a ms17 ah hi kp sl sv pd ln so po wr to) H := hP
              have hD : va_D A (wX8 ct a ms17 ah hi kp sl sv pd ln so po wr to) := hD
              refine lv_aload_n hx hb dX8_cuts_114 rfl (lv_at hl 3 rfl) ?_
              refine lv_iload_n hx hb dX8_cuts_115 rfl (lv_at hl 4 rfl) ?_
              refine lv_iload_n hx hb dX8_cuts_116 rfl (lv_at hl 5 rfl) ?_
              refine lv_iload_n hx hb dX8_cuts_117 rfl (lv_at hl 6 rfl) ?_
              obtain ⟨ms18, hc, h⟩ := zb1_s h
              refine zG_v (w1 := wX8 ct a ms18 ah hi kp sl sv pd ln so po wr to) (ws' := wX8 ct a ms18 ah hi kp sl sv pd ln so po wr to) hP hD hS hA [0, 1, 2, 3, 4, 5, 6, 7, 8] [] [0, 1, 2, 3, 4, 5, 6, 7, 8] rfl rfl (by decide) (by decide) rfl (by decide) (zrV (C := RX8) (As := [.int p1, .int p2, .int p3]) (rest := []) hx hb hml hown hts tw901 mv_X8_part ⟨Nat.le_of_ble_eq_true rfl, Nat.le_of_ble_eq_true rfl⟩ rfl rfl (ct_X8_part l D ct a ms17 ah hi kp sl sv pd ln so po wr to _ p1 p2 p3 k ms18 hc) (z_wv hK hP hD [0, 1, 2, 3, 4, 5, 6, 7, 8] (by decide) rfl 0 rfl rfl) hl.1 rfl rfl (Nat.le_of_ble_eq_true rfl) dX8_cuts_118 ⟨Nat.le_refl _, Nat.le_refl _⟩) (fun H locs hP hD hS => ?_)
              refine lv_aload_n hx hb dX8_cuts_121 rfl (lv_at hl 3 rfl) ?_
              refine lv_iload_n hx hb dX8_cuts_122 rfl (lv_at hl 4 rfl) ?_
              refine lv_iload_n hx hb dX8_cuts_123 rfl (lv_at hl 5 rfl) ?_
              refine lv_iload hx hb dX8_cuts_124 (lv_at hl 2 rfl) ?_
              obtain ⟨ms19, hc, h⟩ := zb1_s h
              refine zG_v (w1 := wX8 ct a ms19 ah hi kp sl sv pd ln so po wr to) (ws' := wX8 ct a ms19 ah hi kp sl sv pd ln so po wr to) hP hD hS hA [0, 1, 2, 3, 4, 5, 6, 7, 8] [] [0, 1, 2, 3, 4, 5, 6, 7, 8] rfl rfl (by decide) (by decide) rfl (by decide) (zrV (C := RX8) (As := [.int p1, .int p2, .int v8]) (rest := []) hx hb hml hown hts tw901 mv_X8_part ⟨Nat.le_of_ble_eq_true rfl, Nat.le_of_ble_eq_true rfl⟩ rfl rfl (ct_X8_part l D ct a ms18 ah hi kp sl sv pd ln so po wr to _ p1 p2 v8 k ms19 hc) (z_wv hK hP hD [0, 1, 2, 3, 4, 5, 6, 7, 8] (by decide) rfl 0 rfl rfl) hl.1 rfl rfl (Nat.le_of_ble_eq_true rfl) dX8_cuts_126 ⟨Nat.le_refl _, Nat.le_refl _⟩) (fun H locs hP hD hS => ?_)
              refine lv_aload_n hx hb dX8_cuts_129 rfl (lv_at hl 3 rfl) ?_
              refine z_get (C := RX8) (T := TX8) (N := 12) (ci := 7) hx hb hts zin_X8 hown hK.1 hP 0 0 rfl rfl (by decide) tw795 rfl rfl dX8_cuts_130 ?_
              refine lv_iload_n hx hb dX8_cuts_133 rfl (lv_at hl 4 rfl) ?_
              refine lv_iconst (v := (4 : Int32)) hx hb dX8_cuts_134 (by decide) ?_
              obtain ⟨v20, hc, h⟩ := zb1_s h
              refine zE_i (zrS (As := [.int p1, .int (4 : Int32)]) (rest := [.ref (a 31)]) hx hb hml hown hts tw874 ms_X8_at ⟨Nat.le_of_ble_eq_true rfl, Nat.le_of_ble_eq_true rfl⟩ rfl rfl (ct_X8_at l p1 (4 : Int32) k v20 hc) z_p0 hl.1 rfl rfl (Nat.le_of_ble_eq_true rfl) dX8_cuts_135 ⟨Nat.le_refl _, Nat.le_refl _⟩) ?_
              refine lv_iconst (v := (4 : Int32)) hx hb dX8_cuts_138 (by decide) ?_
              refine z_iast hx hb hK.1 hP hD hS 1 0 rfl rfl h dX8_cuts_139 (fun ms21 H locs h hP hD hS => ?_)
              have hP : va_P D vwCl (wX8 ct a ms21 ah hi kp sl sv pd ln so po wr to) H := hP
              have hD : va_D A (wX8 ct a ms21 ah hi kp sl sv pd ln so po wr to) := hD
              refine lv_iload hx hb dX8_cuts_140 (lv_at hl 1 rfl) ?_
              refine lv_istore (lv' := [(7, .int v12), (6, .int v13), (5, .int v12), (4, .int v8), (0, .ref (a 30)), (1, .int p1), (2, .int p2), (3, .int p3)]) hx hb dX8_cuts_142 hl (by decide) rfl (fun ls hl => ?_)
              exact B144 k ms21 v12 v13 v12 h _ _ hP hD hS ls (lv_sub hl [4, 2, 1, 0] rfl)
            · refine lv_bipush (v := (-4 : Int32)) hx hb dX8_cuts_80 (by decide) ?_
              cases h
              exact zX_i hx hb hr hlocks hP hD hS hAe dX8_cuts_82 rfl
          · refine lv_bipush (v := (-5 : Int32)) hx hb dX8_cuts_64 (by decide) ?_
            cases h
            exact zX_i hx hb hr hlocks hP hD hS hAe dX8_cuts_66 rfl
      · refine lv_bipush (v := (-2 : Int32)) hx hb dX8_cuts_26 (by decide) ?_
        cases h
        exact zX_i hx hb hr hlocks hP hD hS hAe dX8_cuts_28 rfl
  · refine lv_iconst (v := (-1 : Int32)) hx hb dX8_cuts_8 (by decide) ?_
    cases h
    exact zX_i hx hb hr hlocks hP hD hS hAe dX8_cuts_9 rfl

def f_X8_sorts_b59 (k : Nat) (p1 : Int32) (p2 : Int32) (p3 : Int32)  (so_ : Nat → Int32) (y0 : Int32) (y1 : Int32) : Option ((Nat → Int32)) :=
  zg (zin y1 3) (zl (upd so_ y1.toNatClampNeg y0) fun so2 =>
  zl (p1 + p2) fun v3 =>
  zl (v3 + p3) fun v4 =>
  zl (so2 0) fun v5 =>
  zl (v4 - v5) fun v6 =>
  zl (so2 2) fun v7 =>
  zl (v6 - v7) fun v8 =>
  zl (upd so2 1 v8) fun so9 =>
  some so9)
def f_X8_sorts_b41 (k : Nat) (p1 : Int32) (p2 : Int32) (p3 : Int32)  (so_ : Nat → Int32) (x5 : Int32) (y0 : Int32) (y1 : Int32) : Option ((Nat → Int32)) :=
  zg (zin y1 3) (zl (upd so_ y1.toNatClampNeg y0) fun so1 =>
  if x5 ≤ p3 then
    f_X8_sorts_b59 k p1 p2 p3 so1 x5 (2 : Int32)
  else
    f_X8_sorts_b59 k p1 p2 p3 so1 p3 (2 : Int32))
def f_X8_sorts_b22 (k : Nat) (p1 : Int32) (p2 : Int32) (p3 : Int32)  (so_ : Nat → Int32) (x4 : Int32) (y0 : Int32) : Option ((Nat → Int32)) :=
  if p3 ≤ x4 then
    f_X8_sorts_b41 k p1 p2 p3 so_ y0 x4 (0 : Int32)
  else
    f_X8_sorts_b41 k p1 p2 p3 so_ y0 p3 (0 : Int32)
def f_X8_sorts_b10 (k : Nat) (p1 : Int32) (p2 : Int32) (p3 : Int32)  (so_ : Nat → Int32) (y0 : Int32) : Option ((Nat → Int32)) :=
  if p1 ≤ p2 then
    f_X8_sorts_b22 k p1 p2 p3 so_ y0 p1
  else
    f_X8_sorts_b22 k p1 p2 p3 so_ y0 p2
def f_X8_sorts (k : Nat) (so : Nat → Int32) (p1 : Int32) (p2 : Int32) (p3 : Int32) : Option ((Nat → Int32)) :=
  if p1 ≤ p2 then
    f_X8_sorts_b10 k p1 p2 p3 so p2
  else
    f_X8_sorts_b10 k p1 p2 p3 so p1
set_option maxRecDepth 100000 in
set_option maxHeartbeats 4000000 in
theorem ct_X8_sorts (l : Launch) (D : va_G) (ct a : Nat → Nat) (ms : Nat → Int32) (ah : Nat → Int32) (hi : Nat → Int32) (kp : Int32) (sl : Nat → Int32) (sv : Nat → Int32) (pd : Nat → Int32) (ln : Int32) (so : Nat → Int32) (po : Int32) (wr : Int32) (to : Nat → Int32) (sz : Nat) (p1 : Int32) (p2 : Int32) (p3 : Int32) (k : Nat) (so' : Nat → Int32) (h : f_X8_sorts k so p1 p2 p3 = some so') : Met l yX8_sorts (Cond.code yX8_sorts cX8_sorts 6 none :: zT) ({ frames := 0, cells := 0, slots := 0, locals := 0 } : Room) (va_Pc [.ref (a 30), .int p1, .int p2, .int p3] (zPW D (zTys ct) (wX8 ct a ms ah hi kp sl sv pd ln so po wr to) sz)) (va_Qv (fun (_ : Unit) => True) (zQW D (wX8 ct a ms ah hi kp sl sv pd ln so po wr to) sz (wX8 ct a ms ah hi kp sl sv pd ln so' po wr to)) (va_A (wX8 ct a ms ah hi kp sl sv pd ln so po wr to) sz)) 0 0 (va_A (wX8 ct a ms ah hi kp sl sv pd ln so po wr to) sz) := by
  refine zMet (cc := cX8_sorts) (maxL := 6) (ret := none) (av := [.ref (a 30), .int p1, .int p2, .int p3]) (by decide) (Nat.le_of_ble_eq_true rfl) (fun p e s m below meth c ls hx hb hr hml hts hown hlocks hin hB hl => ?_)
  have hl : lv_has ls 6 [(0, .ref (a 30)), (1, .int p1), (2, .int p2), (3, .int p3)] := hl
  have hown : s.vm.findClass RX8 = some m.cls := hown
  obtain ⟨hsz, hP, hK, hD0⟩ := hB
  subst hsz
  have hD := hD0.self (sz := s.heap.size)
  obtain ⟨A, hAe⟩ : ∃ A, A = va_A (wX8 ct a ms ah hi kp sl sv pd ln so po wr to) s.heap.size := ⟨_, rfl⟩
  rw [← hAe] at hD
  have hA : ∀ q : Nat, s.heap.size ≤ q → A q := fun q h => by rw [hAe]; exact Or.inr h
  have hS : va_S A s.heap s.heap [] := va_S.rf
  have B59 : ∀ (so_ : Nat → Int32) (y0 : Int32) (y1 : Int32), f_X8_sorts_b59 k p1 p2 p3 so_ y0 y1 = some so' → ∀ (H : Heap) (locs : List Loc), va_P D vwCl (wX8 ct a ms ah hi kp sl sv pd ln so_ po wr to) H → va_D A (wX8 ct a ms ah hi kp sl sv pd ln so_ po wr to) → va_S A s.heap H locs → ∀ (ls : Array Slot), lv_has ls 6 [(0, .ref (a 30)), (1, .int p1), (2, .int p2), (3, .int p3)] → W p l e ({ frames := 0, cells := 0, slots := 0, locals := 0 } : Room) s m ([.ref (a 30), .int p1, .int p2, .int p3] : List Value).toArray below meth c H locs 0 0 (MQ below (va_Qv (fun (_ : Unit) => True) (zQW D (wX8 ct a ms ah hi kp sl sv pd ln so po wr to) s.heap.size (wX8 ct a ms ah hi kp sl sv pd ln so' po wr to)) (va_A (wX8 ct a ms ah hi kp sl sv pd ln so po wr to) s.heap.size)) ([.ref (a 30), .int p1, .int p2, .int p3] : List Value).toArray s 0 0 (va_A (wX8 ct a ms ah hi kp sl sv pd ln so po wr to) s.heap.size)) (F0 m 59 ls [.int y0, .int y1, .ref (a 37)]) := by
    intro so_ y0 y1 h H locs hP hD hS ls hl
    rw [f_X8_sorts_b59] at h
    refine z_iast hx hb hK.1 hP hD hS 7 0 rfl rfl h dX8_sorts_59 (fun so2 H locs h hP hD hS => ?_)
    have hP : va_P D vwCl (wX8 ct a ms ah hi kp sl sv pd ln so2 po wr to) H := hP
    have hD : va_D A (wX8 ct a ms ah hi kp sl sv pd ln so2 po wr to) := hD
    refine lv_aload_n hx hb dX8_sorts_60 rfl (lv_at hl 0 rfl) ?_
    refine z_get (C := RX8) (T := TX8) (N := 12) (ci := 7) hx hb hts zin_X8 hown hK.1 hP 0 8 rfl rfl (by decide) tw803 rfl rfl dX8_sorts_61 ?_
    refine lv_iconst (v := (1 : Int32)) hx hb dX8_sorts_64 (by decide) ?_
    refine lv_iload_n hx hb dX8_sorts_65 rfl (lv_at hl 1 rfl) ?_
    refine lv_iload_n hx hb dX8_sorts_66 rfl (lv_at hl 2 rfl) ?_
    refine o_iadd hx hb dX8_sorts_67 h (fun v3 h => ?_)
    refine lv_iload_n hx hb dX8_sorts_68 rfl (lv_at hl 3 rfl) ?_
    refine o_iadd hx hb dX8_sorts_69 h (fun v4 h => ?_)
    refine lv_aload_n hx hb dX8_sorts_70 rfl (lv_at hl 0 rfl) ?_
    refine z_get (C := RX8) (T := TX8) (N := 12) (ci := 7) hx hb hts zin_X8 hown hK.1 hP 0 8 rfl rfl (by decide) tw803 rfl rfl dX8_sorts_71 ?_
    refine lv_iconst (v := (0 : Int32)) hx hb dX8_sorts_74 (by decide) ?_
    refine y_ialdc hx hb hK hP 7 0 0 rfl rfl (by decide) (by decide) h dX8_sorts_75 (fun v5 h => ?_)
    refine o_isub hx hb dX8_sorts_76 h (fun v6 h => ?_)
    refine lv_aload_n hx hb dX8_sorts_77 rfl (lv_at hl 0 rfl) ?_
    refine z_get (C := RX8) (T := TX8) (N := 12) (ci := 7) hx hb hts zin_X8 hown hK.1 hP 0 8 rfl rfl (by decide) tw803 rfl rfl dX8_sorts_78 ?_
    refine lv_iconst (v := (2 : Int32)) hx hb dX8_sorts_81 (by decide) ?_
    refine y_ialdc hx hb hK hP 7 0 2 rfl rfl (by decide) (by decide) h dX8_sorts_82 (fun v7 h => ?_)
    refine o_isub hx hb dX8_sorts_83 h (fun v8 h => ?_)
    refine z_iastc hx hb hK.1 hP hD hS 7 0 1 rfl rfl (by decide) (by decide) h dX8_sorts_84 (fun so9 H locs h hP hD hS => ?_)
    have hP : va_P D vwCl (wX8 ct a ms ah hi kp sl sv pd ln so9 po wr to) H := hP
    have hD : va_D A (wX8 ct a ms ah hi kp sl sv pd ln so9 po wr to) := hD
    cases h
    exact zX_v hx hb hr hlocks hP hD hS hAe dX8_sorts_85
  have B41 : ∀ (so_ : Nat → Int32) (x5 : Int32) (y0 : Int32) (y1 : Int32), f_X8_sorts_b41 k p1 p2 p3 so_ x5 y0 y1 = some so' → ∀ (H : Heap) (locs : List Loc), va_P D vwCl (wX8 ct a ms ah hi kp sl sv pd ln so_ po wr to) H → va_D A (wX8 ct a ms ah hi kp sl sv pd ln so_ po wr to) → va_S A s.heap H locs → ∀ (ls : Array Slot), lv_has ls 6 [(0, .ref (a 30)), (1, .int p1), (2, .int p2), (3, .int p3), (5, .int x5)] → W p l e ({ frames := 0, cells := 0, slots := 0, locals := 0 } : Room) s m ([.ref (a 30), .int p1, .int p2, .int p3] : List Value).toArray below meth c H locs 0 0 (MQ below (va_Qv (fun (_ : Unit) => True) (zQW D (wX8 ct a ms ah hi kp sl sv pd ln so po wr to) s.heap.size (wX8 ct a ms ah hi kp sl sv pd ln so' po wr to)) (va_A (wX8 ct a ms ah hi kp sl sv pd ln so po wr to) s.heap.size)) ([.ref (a 30), .int p1, .int p2, .int p3] : List Value).toArray s 0 0 (va_A (wX8 ct a ms ah hi kp sl sv pd ln so po wr to) s.heap.size)) (F0 m 41 ls [.int y0, .int y1, .ref (a 37)]) := by
    intro so_ x5 y0 y1 h H locs hP hD hS ls hl
    rw [f_X8_sorts_b41] at h
    refine z_iast hx hb hK.1 hP hD hS 7 0 rfl rfl h dX8_sorts_41 (fun so1 H locs h hP hD hS => ?_)
    have hP : va_P D vwCl (wX8 ct a ms ah hi kp sl sv pd ln so1 po wr to) H := hP
    have hD : va_D A (wX8 ct a ms ah hi kp sl sv pd ln so1 po wr to) := hD
    refine lv_aload_n hx hb dX8_sorts_42 rfl (lv_at hl 0 rfl) ?_
    refine z_get (C := RX8) (T := TX8) (N := 12) (ci := 7) hx hb hts zin_X8 hown hK.1 hP 0 8 rfl rfl (by decide) tw803 rfl rfl dX8_sorts_43 ?_
    refine lv_iconst (v := (2 : Int32)) hx hb dX8_sorts_46 (by decide) ?_
    refine lv_iload_n hx hb dX8_sorts_47 rfl (lv_at hl 3 rfl) ?_
    refine lv_iload hx hb dX8_sorts_48 (lv_at hl 4 rfl) ?_
    refine zc_ge (tgt := 57) hx hb dX8_sorts_50 (by decide) h (fun h => ?_) (fun h => ?_)
    · refine lv_iload hx hb dX8_sorts_57 (lv_at hl 4 rfl) ?_
      exact B59 so1 x5 (2 : Int32) h _ _ hP hD hS ls (lv_sub hl [0, 1, 2, 3] rfl)
    · refine lv_iload_n hx hb dX8_sorts_53 rfl (lv_at hl 3 rfl) ?_
      refine lv_goto (tgt := 59) hx hb dX8_sorts_54 (by decide) ?_
      exact B59 so1 p3 (2 : Int32) h _ _ hP hD hS ls (lv_sub hl [0, 1, 2, 3] rfl)
  have B22 : ∀ (so_ : Nat → Int32) (x4 : Int32) (y0 : Int32), f_X8_sorts_b22 k p1 p2 p3 so_ x4 y0 = some so' → ∀ (H : Heap) (locs : List Loc), va_P D vwCl (wX8 ct a ms ah hi kp sl sv pd ln so_ po wr to) H → va_D A (wX8 ct a ms ah hi kp sl sv pd ln so_ po wr to) → va_S A s.heap H locs → ∀ (ls : Array Slot), lv_has ls 6 [(0, .ref (a 30)), (1, .int p1), (2, .int p2), (3, .int p3), (4, .int x4)] → W p l e ({ frames := 0, cells := 0, slots := 0, locals := 0 } : Room) s m ([.ref (a 30), .int p1, .int p2, .int p3] : List Value).toArray below meth c H locs 0 0 (MQ below (va_Qv (fun (_ : Unit) => True) (zQW D (wX8 ct a ms ah hi kp sl sv pd ln so po wr to) s.heap.size (wX8 ct a ms ah hi kp sl sv pd ln so' po wr to)) (va_A (wX8 ct a ms ah hi kp sl sv pd ln so po wr to) s.heap.size)) ([.ref (a 30), .int p1, .int p2, .int p3] : List Value).toArray s 0 0 (va_A (wX8 ct a ms ah hi kp sl sv pd ln so po wr to) s.heap.size)) (F0 m 22 ls [.int y0]) := by
    intro so_ x4 y0 h H locs hP hD hS ls hl
    rw [f_X8_sorts_b22] at h
    refine lv_istore (lv' := [(5, .int y0), (0, .ref (a 30)), (1, .int p1), (2, .int p2), (3, .int p3), (4, .int x4)]) hx hb dX8_sorts_22 hl (by decide) rfl (fun ls hl => ?_)
    refine lv_aload_n hx hb dX8_sorts_24 rfl (lv_at hl 1 rfl) ?_
    refine z_get (C := RX8) (T := TX8) (N := 12) (ci := 7) hx hb hts zin_X8 hown hK.1 hP 0 8 rfl rfl (by decide) tw803 rfl rfl dX8_sorts_25 ?_
    refine lv_iconst (v := (0 : Int32)) hx hb dX8_sorts_28 (by decide) ?_
    refine lv_iload_n hx hb dX8_sorts_29 rfl (lv_at hl 4 rfl) ?_
    refine lv_iload hx hb dX8_sorts_30 (lv_at hl 5 rfl) ?_
    refine zc_le (tgt := 39) hx hb dX8_sorts_32 (by decide) h (fun h => ?_) (fun h => ?_)
    · refine lv_iload hx hb dX8_sorts_39 (lv_at hl 5 rfl) ?_
      exact B41 so_ y0 x4 (0 : Int32) h _ _ hP hD hS ls (lv_sub hl [1, 2, 3, 4, 0] rfl)
    · refine lv_iload_n hx hb dX8_sorts_35 rfl (lv_at hl 4 rfl) ?_
      refine lv_goto (tgt := 41) hx hb dX8_sorts_36 (by decide) ?_
      exact B41 so_ y0 p3 (0 : Int32) h _ _ hP hD hS ls (lv_sub hl [1, 2, 3, 4, 0] rfl)
  have B10 : ∀ (so_ : Nat → Int32) (y0 : Int32), f_X8_sorts_b10 k p1 p2 p3 so_ y0 = some so' → ∀ (H : Heap) (locs : List Loc), va_P D vwCl (wX8 ct a ms ah hi kp sl sv pd ln so_ po wr to) H → va_D A (wX8 ct a ms ah hi kp sl sv pd ln so_ po wr to) → va_S A s.heap H locs → ∀ (ls : Array Slot), lv_has ls 6 [(0, .ref (a 30)), (1, .int p1), (2, .int p2), (3, .int p3)] → W p l e ({ frames := 0, cells := 0, slots := 0, locals := 0 } : Room) s m ([.ref (a 30), .int p1, .int p2, .int p3] : List Value).toArray below meth c H locs 0 0 (MQ below (va_Qv (fun (_ : Unit) => True) (zQW D (wX8 ct a ms ah hi kp sl sv pd ln so po wr to) s.heap.size (wX8 ct a ms ah hi kp sl sv pd ln so' po wr to)) (va_A (wX8 ct a ms ah hi kp sl sv pd ln so po wr to) s.heap.size)) ([.ref (a 30), .int p1, .int p2, .int p3] : List Value).toArray s 0 0 (va_A (wX8 ct a ms ah hi kp sl sv pd ln so po wr to) s.heap.size)) (F0 m 10 ls [.int y0]) := by
    intro so_ y0 h H locs hP hD hS ls hl
    rw [f_X8_sorts_b10] at h
    refine lv_istore (lv' := [(4, .int y0), (0, .ref (a 30)), (1, .int p1), (2, .int p2), (3, .int p3)]) hx hb dX8_sorts_10 hl (by decide) rfl (fun ls hl => ?_)
    refine lv_iload_n hx hb dX8_sorts_12 rfl (lv_at hl 2 rfl) ?_
    refine lv_iload_n hx hb dX8_sorts_13 rfl (lv_at hl 3 rfl) ?_
    refine zc_le (tgt := 21) hx hb dX8_sorts_14 (by decide) h (fun h => ?_) (fun h => ?_)
    · refine lv_iload_n hx hb dX8_sorts_21 rfl (lv_at hl 2 rfl) ?_
      exact B22 so_ y0 p1 h _ _ hP hD hS ls (lv_sub hl [1, 2, 3, 4, 0] rfl)
    · refine lv_iload_n hx hb dX8_sorts_17 rfl (lv_at hl 3 rfl) ?_
      refine lv_goto (tgt := 22) hx hb dX8_sorts_18 (by decide) ?_
      exact B22 so_ y0 p2 h _ _ hP hD hS ls (lv_sub hl [1, 2, 3, 4, 0] rfl)
  rw [f_X8_sorts] at h
  refine lv_iload_n hx hb dX8_sorts_0 rfl (lv_at hl 1 rfl) ?_
  refine lv_iload_n hx hb dX8_sorts_1 rfl (lv_at hl 2 rfl) ?_
  refine zc_le (tgt := 9) hx hb dX8_sorts_2 (by decide) h (fun h => ?_) (fun h => ?_)
  · refine lv_iload_n hx hb dX8_sorts_9 rfl (lv_at hl 2 rfl) ?_
    exact B10 so p2 h _ _ hP hD hS ls (lv_sub hl [0, 1, 2, 3] rfl)
  · refine lv_iload_n hx hb dX8_sorts_5 rfl (lv_at hl 1 rfl) ?_
    refine lv_goto (tgt := 10) hx hb dX8_sorts_6 (by decide) ?_
    exact B10 so p1 h _ _ hP hD hS ls (lv_sub hl [0, 1, 2, 3] rfl)

def f_X8_ofOrderAt (k : Nat) (p1 : Int32) (p2 : Int32) : Option (Int32) :=
  zl ((6 : Int32) * p1) fun v1 =>
  zl ((252 : Int32) + v1) fun v2 =>
  zl (v2 + p2) fun v3 =>
  some v3
set_option maxRecDepth 100000 in
set_option maxHeartbeats 4000000 in
theorem ct_X8_ofOrderAt (l : Launch) (p1 : Int32) (p2 : Int32) (k : Nat) (r : Int32) (h : f_X8_ofOrderAt k p1 p2 = some r) : Met l yX8_ofOrderAt (Cond.code yX8_ofOrderAt cX8_ofOrderAt 2 (some .int) :: zT) ({ frames := 0, cells := 0, slots := 0, locals := 0 } : Room) (va_Pc [.int p1, .int p2] (fun _ => True)) (vp_Si (fun r' => r' = r)) 0 0 (fun _ => False) := by
  refine zMet (cc := cX8_ofOrderAt) (maxL := 2) (ret := (some .int)) (av := [.int p1, .int p2]) (by decide) (Nat.le_of_ble_eq_true rfl) (fun p e s m below meth c ls hx hb hr hml hts hown hlocks hin hB hl => ?_)
  have hl : lv_has ls 2 [(0, .int p1), (1, .int p2)] := hl
  have hown : s.vm.findClass RX8 = some m.cls := hown
  rw [f_X8_ofOrderAt] at h
  refine lv_sipush (v := (252 : Int32)) hx hb dX8_ofOrderAt_0 (by decide) ?_
  refine lv_bipush (v := (6 : Int32)) hx hb dX8_ofOrderAt_3 (by decide) ?_
  refine lv_iload_n hx hb dX8_ofOrderAt_5 rfl (lv_at hl 0 rfl) ?_
  refine o_imul hx hb dX8_ofOrderAt_6 h (fun v1 h => ?_)
  refine o_iadd hx hb dX8_ofOrderAt_7 h (fun v2 h => ?_)
  refine lv_iload_n hx hb dX8_ofOrderAt_8 rfl (lv_at hl 1 rfl) ?_
  refine o_iadd hx hb dX8_ofOrderAt_9 h (fun v3 h => ?_)
  exact zR_i hx hb hr hlocks dX8_ofOrderAt_10 h

def f_X8_orders_b69 (k : Nat) (p1 : Int32) (p2 : Int32) (p3 : Int32)  : Nat → (Nat → Int32) → (Nat → Int32) → Int32 → Int32 → Option (Int32 × (Nat → Int32) × (Nat → Int32))
  | 0, _, _, _, _ => none
  | n + 1, ms_, so_, x4, x5 =>
    if (3 : Int32) ≤ x5 then
      zb1 (f_X8_ofOrderAt k x4 (3 : Int32)) fun v10 =>
      zg (zin v10 324) (zl (upd ms_ v10.toNatClampNeg (0 : Int32)) fun ms11 =>
      zb1 (f_X8_ofOrderAt k x4 (4 : Int32)) fun v12 =>
      zg (zin v12 324) (zl (upd ms11 v12.toNatClampNeg (-6 : Int32)) fun ms13 =>
      zb1 (f_X8_ofOrderAt k x4 (5 : Int32)) fun v14 =>
      zg (zin v14 324) (zl (upd ms13 v14.toNatClampNeg (-6 : Int32)) fun ms15 =>
      some (x4, ms15, so_))))
    else
      zb1 (f_X8_ofOrderAt k x4 x5) fun v16 =>
      zg (zin x5 3) (zl (so_ x5.toNatClampNeg) fun v17 =>
      zg (zin v16 324) (zl (upd ms_ v16.toNatClampNeg v17) fun ms18 =>
      zl (x5 + (1 : Int32)) fun v19 =>
      f_X8_orders_b69 k p1 p2 p3 n ms18 so_ x4 v19))
def f_X8_orders (k : Nat) (ms : Nat → Int32) (so : Nat → Int32) (p1 : Int32) (p2 : Int32) (p3 : Int32) : Option (Int32 × (Nat → Int32) × (Nat → Int32)) :=
  zb1 (f_X8_isSize k p1) fun v1 =>
  if v1 = 0 then
    some ((-2 : Int32), ms, so)
  else
    zb1 (f_X8_isSize k p2) fun v2 =>
    if v2 = 0 then
      some ((-2 : Int32), ms, so)
    else
      zb1 (f_X8_isSize k p3) fun v3 =>
      if v3 = 0 then
        some ((-2 : Int32), ms, so)
      else
        zl (ms 6) fun v4 =>
        if v4 = (10 : Int32) then
          some ((-4 : Int32), ms, so)
        else
          zl (ms 6) fun v5 =>
          zl (ms 6) fun v6 =>
          zl (v6 + (1 : Int32)) fun v7 =>
          zl (upd ms 6 v7) fun ms8 =>
          zb1 (f_X8_sorts k so p1 p2 p3) fun so9 =>
          f_X8_orders_b69 k p1 p2 p3 k ms8 so9 v5 (0 : Int32)
set_option maxRecDepth 100000 in
set_option maxHeartbeats 4000000 in
theorem ct_X8_orders (l : Launch) (D : va_G) (ct a : Nat → Nat) (ms : Nat → Int32) (ah : Nat → Int32) (hi : Nat → Int32) (kp : Int32) (sl : Nat → Int32) (sv : Nat → Int32) (pd : Nat → Int32) (ln : Int32) (so : Nat → Int32) (po : Int32) (wr : Int32) (to : Nat → Int32) (sz : Nat) (p1 : Int32) (p2 : Int32) (p3 : Int32) (k : Nat) (r : Int32) (ms' : Nat → Int32) (so' : Nat → Int32) (h : f_X8_orders k ms so p1 p2 p3 = some (r, ms', so')) : Met l yX8_orders (Cond.code yX8_orders cX8_orders 6 (some .int) :: zT) ({ frames := 2, cells := 0, slots := 0, locals := 42 } : Room) (va_Pc [.ref (a 30), .int p1, .int p2, .int p3] (zPW D (zTys ct) (wX8 ct a ms ah hi kp sl sv pd ln so po wr to) sz)) (va_Qi (fun r' (_ : Unit) => r' = r) (zQW D (wX8 ct a ms ah hi kp sl sv pd ln so po wr to) sz (wX8 ct a ms' ah hi kp sl sv pd ln so' po wr to)) (va_A (wX8 ct a ms ah hi kp sl sv pd ln so po wr to) sz)) 0 0 (va_A (wX8 ct a ms ah hi kp sl sv pd ln so po wr to) sz) := by
  refine zMet (cc := cX8_orders) (maxL := 6) (ret := (some .int)) (av := [.ref (a 30), .int p1, .int p2, .int p3]) (by decide) (Nat.le_of_ble_eq_true rfl) (fun p e s m below meth c ls hx hb hr hml hts hown hlocks hin hB hl => ?_)
  have hl : lv_has ls 6 [(0, .ref (a 30)), (1, .int p1), (2, .int p2), (3, .int p3)] := hl
  have hown : s.vm.findClass RX8 = some m.cls := hown
  obtain ⟨hsz, hP, hK, hD0⟩ := hB
  subst hsz
  have hD := hD0.self (sz := s.heap.size)
  obtain ⟨A, hAe⟩ : ∃ A, A = va_A (wX8 ct a ms ah hi kp sl sv pd ln so po wr to) s.heap.size := ⟨_, rfl⟩
  rw [← hAe] at hD
  have hA : ∀ q : Nat, s.heap.size ≤ q → A q := fun q h => by rw [hAe]; exact Or.inr h
  have hS : va_S A s.heap s.heap [] := va_S.rf
  have B69 : ∀ (n : Nat), ∀ (ms_ : Nat → Int32) (so_ : Nat → Int32) (x4 : Int32) (x5 : Int32), f_X8_orders_b69 k p1 p2 p3 n ms_ so_ x4 x5 = some (r, ms', so') → ∀ (H : Heap) (locs : List Loc), va_P D vwCl (wX8 ct a ms_ ah hi kp sl sv pd ln so_ po wr to) H → va_D A (wX8 ct a ms_ ah hi kp sl sv pd ln so_ po wr to) → va_S A s.heap H locs → ∀ (ls : Array Slot), lv_has ls 6 [(0, .ref (a 30)), (4, .int x4), (5, .int x5)] → W p l e ({ frames := 2, cells := 0, slots := 0, locals := 42 } : Room) s m ([.ref (a 30), .int p1, .int p2, .int p3] : List Value).toArray below meth c H locs 0 0 (MQ below (va_Qi (fun r' (_ : Unit) => r' = r) (zQW D (wX8 ct a ms ah hi kp sl sv pd ln so po wr to) s.heap.size (wX8 ct a ms' ah hi kp sl sv pd ln so' po wr to)) (va_A (wX8 ct a ms ah hi kp sl sv pd ln so po wr to) s.heap.size)) ([.ref (a 30), .int p1, .int p2, .int p3] : List Value).toArray s 0 0 (va_A (wX8 ct a ms ah hi kp sl sv pd ln so po wr to) s.heap.size)) (F0 m 69 ls []) := by
    intro n
    induction n with
    | zero => intro ms_ so_ x4 x5 h; exact absurd h (by rw [f_X8_orders_b69]; exact fun q => nomatch q)
    | succ n ih69 =>
      intro ms_ so_ x4 x5 h H locs hP hD hS ls hl
      rw [f_X8_orders_b69] at h
      refine lv_iload hx hb dX8_orders_69 (lv_at hl 2 rfl) ?_
      refine lv_iconst (v := (3 : Int32)) hx hb dX8_orders_71 (by decide) ?_
      refine zc_ge (tgt := 100) hx hb dX8_orders_72 (by decide) h (fun h => ?_) (fun h => ?_)
      · refine lv_aload_n hx hb dX8_orders_100 rfl (lv_at hl 0 rfl) ?_
        refine z_get (C := RX8) (T := TX8) (N := 12) (ci := 7) hx hb hts zin_X8 hown hK.1 hP 0 0 rfl rfl (by decide) tw795 rfl rfl dX8_orders_101 ?_
        refine lv_iload hx hb dX8_orders_104 (lv_at hl 1 rfl) ?_
        refine lv_iconst (v := (3 : Int32)) hx hb dX8_orders_106 (by decide) ?_
        obtain ⟨v10, hc, h⟩ := zb1_s h
        refine zE_i (zrS (As := [.int x4, .int (3 : Int32)]) (rest := [.ref (a 31)]) hx hb hml hown hts tw917 ms_X8_ofOrderAt ⟨Nat.le_of_ble_eq_true rfl, Nat.le_of_ble_eq_true rfl⟩ rfl rfl (ct_X8_ofOrderAt l x4 (3 : Int32) k v10 hc) z_p0 hl.1 rfl rfl (Nat.le_of_ble_eq_true rfl) dX8_orders_107 ⟨Nat.le_refl _, Nat.le_refl _⟩) ?_
        refine lv_iconst (v := (0 : Int32)) hx hb dX8_orders_110 (by decide) ?_
        refine z_iast hx hb hK.1 hP hD hS 1 0 rfl rfl h dX8_orders_111 (fun ms11 H locs h hP hD hS => ?_)
        have hP : va_P D vwCl (wX8 ct a ms11 ah hi kp sl sv pd ln so_ po wr to) H := hP
        have hD : va_D A (wX8 ct a ms11 ah hi kp sl sv pd ln so_ po wr to) := hD
        refine lv_aload_n hx hb dX8_orders_112 rfl (lv_at hl 0 rfl) ?_
        refine z_get (C := RX8) (T := TX8) (N := 12) (ci := 7) hx hb hts zin_X8 hown hK.1 hP 0 0 rfl rfl (by decide) tw795 rfl rfl dX8_orders_113 ?_
        refine lv_iload hx hb dX8_orders_116 (lv_at hl 1 rfl) ?_
        refine lv_iconst (v := (4 : Int32)) hx hb dX8_orders_118 (by decide) ?_
        obtain ⟨v12, hc, h⟩ := zb1_s h
        refine zE_i (zrS (As := [.int x4, .int (4 : Int32)]) (rest := [.ref (a 31)]) hx hb hml hown hts tw917 ms_X8_ofOrderAt ⟨Nat.le_of_ble_eq_true rfl, Nat.le_of_ble_eq_true rfl⟩ rfl rfl (ct_X8_ofOrderAt l x4 (4 : Int32) k v12 hc) z_p0 hl.1 rfl rfl (Nat.le_of_ble_eq_true rfl) dX8_orders_119 ⟨Nat.le_refl _, Nat.le_refl _⟩) ?_
        refine lv_bipush (v := (-6 : Int32)) hx hb dX8_orders_122 (by decide) ?_
        refine z_iast hx hb hK.1 hP hD hS 1 0 rfl rfl h dX8_orders_124 (fun ms13 H locs h hP hD hS => ?_)
        have hP : va_P D vwCl (wX8 ct a ms13 ah hi kp sl sv pd ln so_ po wr to) H := hP
        have hD : va_D A (wX8 ct a ms13 ah hi kp sl sv pd ln so_ po wr to) := hD
        refine lv_aload_n hx hb dX8_orders_125 rfl (lv_at hl 0 rfl) ?_
        refine z_get (C := RX8) (T := TX8) (N := 12) (ci := 7) hx hb hts zin_X8 hown hK.1 hP 0 0 rfl rfl (by decide) tw795 rfl rfl dX8_orders_126 ?_
        refine lv_iload hx hb dX8_orders_129 (lv_at hl 1 rfl) ?_
        refine lv_iconst (v := (5 : Int32)) hx hb dX8_orders_131 (by decide) ?_
        obtain ⟨v14, hc, h⟩ := zb1_s h
        refine zE_i (zrS (As := [.int x4, .int (5 : Int32)]) (rest := [.ref (a 31)]) hx hb hml hown hts tw917 ms_X8_ofOrderAt ⟨Nat.le_of_ble_eq_true rfl, Nat.le_of_ble_eq_true rfl⟩ rfl rfl (ct_X8_ofOrderAt l x4 (5 : Int32) k v14 hc) z_p0 hl.1 rfl rfl (Nat.le_of_ble_eq_true rfl) dX8_orders_132 ⟨Nat.le_refl _, Nat.le_refl _⟩) ?_
        refine lv_bipush (v := (-6 : Int32)) hx hb dX8_orders_135 (by decide) ?_
        refine z_iast hx hb hK.1 hP hD hS 1 0 rfl rfl h dX8_orders_137 (fun ms15 H locs h hP hD hS => ?_)
        have hP : va_P D vwCl (wX8 ct a ms15 ah hi kp sl sv pd ln so_ po wr to) H := hP
        have hD : va_D A (wX8 ct a ms15 ah hi kp sl sv pd ln so_ po wr to) := hD
        refine lv_iload hx hb dX8_orders_138 (lv_at hl 1 rfl) ?_
        cases h
        exact zX_i hx hb hr hlocks hP hD hS hAe dX8_orders_140 rfl
      · refine lv_aload_n hx hb dX8_orders_75 rfl (lv_at hl 0 rfl) ?_
        refine z_get (C := RX8) (T := TX8) (N := 12) (ci := 7) hx hb hts zin_X8 hown hK.1 hP 0 0 rfl rfl (by decide) tw795 rfl rfl dX8_orders_76 ?_
        refine lv_iload hx hb dX8_orders_79 (lv_at hl 1 rfl) ?_
        refine lv_iload hx hb dX8_orders_81 (lv_at hl 2 rfl) ?_
        obtain ⟨v16, hc, h⟩ := zb1_s h
        refine zE_i (zrS (As := [.int x4, .int x5]) (rest := [.ref (a 31)]) hx hb hml hown hts tw917 ms_X8_ofOrderAt ⟨Nat.le_of_ble_eq_true rfl, Nat.le_of_ble_eq_true rfl⟩ rfl rfl (ct_X8_ofOrderAt l x4 x5 k v16 hc) z_p0 hl.1 rfl rfl (Nat.le_of_ble_eq_true rfl) dX8_orders_83 ⟨Nat.le_refl _, Nat.le_refl _⟩) ?_
        refine lv_aload_n hx hb dX8_orders_86 rfl (lv_at hl 0 rfl) ?_
        refine z_get (C := RX8) (T := TX8) (N := 12) (ci := 7) hx hb hts zin_X8 hown hK.1 hP 0 8 rfl rfl (by decide) tw803 rfl rfl dX8_orders_87 ?_
        refine lv_iload hx hb dX8_orders_90 (lv_at hl 2 rfl) ?_
        refine y_iald hx hb hK hP 7 0 rfl rfl h dX8_orders_92 (fun v17 h => ?_)
        refine z_iast hx hb hK.1 hP hD hS 1 0 rfl rfl h dX8_orders_93 (fun ms18 H locs h hP hD hS => ?_)
        have hP : va_P D vwCl (wX8 ct a ms18 ah hi kp sl sv pd ln so_ po wr to) H := hP
        have hD : va_D A (wX8 ct a ms18 ah hi kp sl sv pd ln so_ po wr to) := hD
        refine o_nm h (fun v19 ey h => ?_)
        refine lv_iinc (v := v19) (lv' := [(5, .int v19), (0, .ref (a 30)), (4, .int x4)]) hx hb dX8_orders_94 hl (k := 2) rfl (Eq.trans rfl ey) (by decide) rfl (fun ls hl => ?_)
        refine lv_goto (tgt := 69) hx hb dX8_orders_97 (by decide) ?_
        exact ih69 ms18 so_ x4 v19 h _ _ hP hD hS ls (lv_sub hl [1, 2, 0] rfl)
  rw [f_X8_orders] at h
  refine lv_iload_n hx hb dX8_orders_0 rfl (lv_at hl 1 rfl) ?_
  obtain ⟨v1, hc, h⟩ := zb1_s h
  refine zE_i (zrS (As := [.int p1]) (rest := []) hx hb hml hown hts tw867 ms_X8_isSize ⟨Nat.le_of_ble_eq_true rfl, Nat.le_of_ble_eq_true rfl⟩ rfl rfl (ct_X8_isSize l p1 k v1 hc) z_p0 hl.1 rfl rfl (Nat.le_of_ble_eq_true rfl) dX8_orders_1 ⟨Nat.le_refl _, Nat.le_refl _⟩) ?_
  refine zi_eq (tgt := 21) hx hb dX8_orders_4 (by decide) h (fun h => ?_) (fun h => ?_)
  · refine lv_bipush (v := (-2 : Int32)) hx hb dX8_orders_21 (by decide) ?_
    cases h
    exact zX_i hx hb hr hlocks hP hD hS hAe dX8_orders_23 rfl
  · refine lv_iload_n hx hb dX8_orders_7 rfl (lv_at hl 2 rfl) ?_
    obtain ⟨v2, hc, h⟩ := zb1_s h
    refine zE_i (zrS (As := [.int p2]) (rest := []) hx hb hml hown hts tw867 ms_X8_isSize ⟨Nat.le_of_ble_eq_true rfl, Nat.le_of_ble_eq_true rfl⟩ rfl rfl (ct_X8_isSize l p2 k v2 hc) z_p0 hl.1 rfl rfl (Nat.le_of_ble_eq_true rfl) dX8_orders_8 ⟨Nat.le_refl _, Nat.le_refl _⟩) ?_
    refine zi_eq (tgt := 21) hx hb dX8_orders_11 (by decide) h (fun h => ?_) (fun h => ?_)
    · refine lv_bipush (v := (-2 : Int32)) hx hb dX8_orders_21 (by decide) ?_
      cases h
      exact zX_i hx hb hr hlocks hP hD hS hAe dX8_orders_23 rfl
    · refine lv_iload_n hx hb dX8_orders_14 rfl (lv_at hl 3 rfl) ?_
      obtain ⟨v3, hc, h⟩ := zb1_s h
      refine zE_i (zrS (As := [.int p3]) (rest := []) hx hb hml hown hts tw867 ms_X8_isSize ⟨Nat.le_of_ble_eq_true rfl, Nat.le_of_ble_eq_true rfl⟩ rfl rfl (ct_X8_isSize l p3 k v3 hc) z_p0 hl.1 rfl rfl (Nat.le_of_ble_eq_true rfl) dX8_orders_15 ⟨Nat.le_refl _, Nat.le_refl _⟩) ?_
      refine zi_ne (tgt := 24) hx hb dX8_orders_18 (by decide) h (fun h => ?_) (fun h => ?_)
      · refine lv_aload_n hx hb dX8_orders_24 rfl (lv_at hl 0 rfl) ?_
        refine z_get (C := RX8) (T := TX8) (N := 12) (ci := 7) hx hb hts zin_X8 hown hK.1 hP 0 0 rfl rfl (by decide) tw795 rfl rfl dX8_orders_25 ?_
        refine lv_bipush (v := (6 : Int32)) hx hb dX8_orders_28 (by decide) ?_
        refine y_ialdc hx hb hK hP 1 0 6 rfl rfl (by decide) (by decide) h dX8_orders_30 (fun v4 h => ?_)
        refine lv_bipush (v := (10 : Int32)) hx hb dX8_orders_31 (by decide) ?_
        refine zc_ne (tgt := 39) hx hb dX8_orders_33 (by decide) h (fun h => ?_) (fun h => ?_)
        · refine lv_aload_n hx hb dX8_orders_39 rfl (lv_at hl 0 rfl) ?_
          refine z_get (C := RX8) (T := TX8) (N := 12) (ci := 7) hx hb hts zin_X8 hown hK.1 hP 0 0 rfl rfl (by decide) tw795 rfl rfl dX8_orders_40 ?_
          refine lv_bipush (v := (6 : Int32)) hx hb dX8_orders_43 (by decide) ?_
          refine y_ialdc hx hb hK hP 1 0 6 rfl rfl (by decide) (by decide) h dX8_orders_45 (fun v5 h => ?_)
          refine lv_istore (lv' := [(4, .int v5), (0, .ref (a 30)), (1, .int p1), (2, .int p2), (3, .int p3)]) hx hb dX8_orders_46 hl (by decide) rfl (fun ls hl => ?_)
          refine lv_aload_n hx hb dX8_orders_48 rfl (lv_at hl 1 rfl) ?_
          refine z_get (C := RX8) (T := TX8) (N := 12) (ci := 7) hx hb hts zin_X8 hown hK.1 hP 0 0 rfl rfl (by decide) tw795 rfl rfl dX8_orders_49 ?_
          refine lv_bipush (v := (6 : Int32)) hx hb dX8_orders_52 (by decide) ?_
          refine lv_dup2_11 hx hb dX8_orders_54 rfl rfl ?_
          refine y_ialdc hx hb hK hP 1 0 6 rfl rfl (by decide) (by decide) h dX8_orders_55 (fun v6 h => ?_)
          refine lv_iconst (v := (1 : Int32)) hx hb dX8_orders_56 (by decide) ?_
          refine o_iadd hx hb dX8_orders_57 h (fun v7 h => ?_)
          refine z_iastc hx hb hK.1 hP hD hS 1 0 6 rfl rfl (by decide) (by decide) h dX8_orders_58 (fun ms8 H locs h hP hD hS => ?_)
          have hP : va_P D vwCl (wX8 ct a ms8 ah hi kp sl sv pd ln so po wr to) H := hP
          have hD : va_D A (wX8 ct a ms8 ah hi kp sl sv pd ln so po wr to) := hD
          refine lv_aload_n hx hb dX8_orders_59 rfl (lv_at hl 1 rfl) ?_
          refine lv_iload_n hx hb dX8_orders_60 rfl (lv_at hl 2 rfl) ?_
          refine lv_iload_n hx hb dX8_orders_61 rfl (lv_at hl 3 rfl) ?_
          refine lv_iload_n hx hb dX8_orders_62 rfl (lv_at hl 4 rfl) ?_
          obtain ⟨so9, hc, h⟩ := zb1_s h
          refine zG_v (w1 := wX8 ct a ms8 ah hi kp sl sv pd ln so9 po wr to) (ws' := wX8 ct a ms8 ah hi kp sl sv pd ln so9 po wr to) hP hD hS hA [0, 1, 2, 3, 4, 5, 6, 7, 8] [] [0, 1, 2, 3, 4, 5, 6, 7, 8] rfl rfl (by decide) (by decide) rfl (by decide) (zrV (C := RX8) (As := [.int p1, .int p2, .int p3]) (rest := []) hx hb hml hown hts tw913 mv_X8_sorts ⟨Nat.le_of_ble_eq_true rfl, Nat.le_of_ble_eq_true rfl⟩ rfl rfl (ct_X8_sorts l D ct a ms8 ah hi kp sl sv pd ln so po wr to _ p1 p2 p3 k so9 hc) (z_wv hK hP hD [0, 1, 2, 3, 4, 5, 6, 7, 8] (by decide) rfl 0 rfl rfl) hl.1 rfl rfl (Nat.le_of_ble_eq_true rfl) dX8_orders_63 ⟨Nat.le_refl _, Nat.le_refl _⟩) (fun H locs hP hD hS => ?_)
          refine lv_iconst (v := (0 : Int32)) hx hb dX8_orders_66 (by decide) ?_
          refine lv_istore (lv' := [(5, .int (0 : Int32)), (4, .int v5), (0, .ref (a 30)), (1, .int p1), (2, .int p2), (3, .int p3)]) hx hb dX8_orders_67 hl (by decide) rfl (fun ls hl => ?_)
          exact B69 k ms8 so9 v5 (0 : Int32) h _ _ hP hD hS ls (lv_sub hl [2, 1, 0] rfl)
        · refine lv_bipush (v := (-4 : Int32)) hx hb dX8_orders_36 (by decide) ?_
          cases h
          exact zX_i hx hb hr hlocks hP hD hS hAe dX8_orders_38 rfl
      · refine lv_bipush (v := (-2 : Int32)) hx hb dX8_orders_21 (by decide) ?_
        cases h
        exact zX_i hx hb hr hlocks hP hD hS hAe dX8_orders_23 rfl

def f_X8_isOrder (k : Nat) (ms : Nat → Int32) (p1 : Int32) : Option (Int32) :=
  zl (ms 6) fun v1 =>
  zl (v1 - (1 : Int32)) fun v2 =>
  zb1 (f_X8_in k p1 (0 : Int32) v2) fun v3 =>
  zg (zbo v3) (some v3)
set_option maxRecDepth 100000 in
set_option maxHeartbeats 4000000 in
theorem ct_X8_isOrder (l : Launch) (D : va_G) (ct a : Nat → Nat) (ms : Nat → Int32) (ah : Nat → Int32) (hi : Nat → Int32) (kp : Int32) (sl : Nat → Int32) (sv : Nat → Int32) (pd : Nat → Int32) (ln : Int32) (so : Nat → Int32) (po : Int32) (wr : Int32) (to : Nat → Int32) (p1 : Int32) (k : Nat) (r : Int32) (h : f_X8_isOrder k ms p1 = some r) : Met l yX8_isOrder (Cond.code yX8_isOrder cX8_isOrder 2 (some .boolean) :: zT) ({ frames := 1, cells := 0, slots := 0, locals := 22 } : Room) (va_Pc [.ref (a 30), .int p1] (zPR D (zTys ct) (wX8 ct a ms ah hi kp sl sv pd ln so po wr to))) (vp_Si (fun r' => r' = r)) 0 0 (fun _ => False) := by
  refine zMet (cc := cX8_isOrder) (maxL := 2) (ret := (some .boolean)) (av := [.ref (a 30), .int p1]) (by decide) (Nat.le_of_ble_eq_true rfl) (fun p e s m below meth c ls hx hb hr hml hts hown hlocks hin hB hl => ?_)
  have hl : lv_has ls 2 [(0, .ref (a 30)), (1, .int p1)] := hl
  have hown : s.vm.findClass RX8 = some m.cls := hown
  obtain ⟨hP, hK⟩ := hB
  rw [f_X8_isOrder] at h
  refine lv_iload_n hx hb dX8_isOrder_0 rfl (lv_at hl 1 rfl) ?_
  refine lv_iconst (v := (0 : Int32)) hx hb dX8_isOrder_1 (by decide) ?_
  refine lv_aload_n hx hb dX8_isOrder_2 rfl (lv_at hl 0 rfl) ?_
  refine z_get (C := RX8) (T := TX8) (N := 12) (ci := 7) hx hb hts zin_X8 hown hK.1 hP 0 0 rfl rfl (by decide) tw795 rfl rfl dX8_isOrder_3 ?_
  refine lv_bipush (v := (6 : Int32)) hx hb dX8_isOrder_6 (by decide) ?_
  refine y_ialdc hx hb hK hP 1 0 6 rfl rfl (by decide) (by decide) h dX8_isOrder_8 (fun v1 h => ?_)
  refine lv_iconst (v := (1 : Int32)) hx hb dX8_isOrder_9 (by decide) ?_
  refine o_isub hx hb dX8_isOrder_10 h (fun v2 h => ?_)
  obtain ⟨v3, hc, h⟩ := zb1_s h
  refine zE_i (zrS (As := [.int p1, .int (0 : Int32), .int v2]) (rest := []) hx hb hml hown hts tw836 ms_X8_in ⟨Nat.le_of_ble_eq_true rfl, Nat.le_of_ble_eq_true rfl⟩ rfl rfl (ct_X8_in l p1 (0 : Int32) v2 k v3 hc) z_p0 hl.1 rfl rfl (Nat.le_of_ble_eq_true rfl) dX8_isOrder_11 ⟨Nat.le_refl _, Nat.le_refl _⟩) ?_
  exact zR_z hx hb hr hlocks dX8_isOrder_14 h

def f_X8_excess_b69 (k : Nat) (ms : Nat → Int32) (p1 : Int32) (p2 : Int32) (p3 : Int32) (p4 : Int32) (k17 : (Nat → Int32) → Int32 → Int32 → Int32 → Option (Int32 × (Nat → Int32))) (so_ : Nat → Int32) (x5 : Int32) (x7 : Int32) (x8 : Int32) (y0 : Int32) : Option (Int32 × (Nat → Int32)) :=
  zl (x5 + x8) fun v6 =>
  zl (x7 + (1 : Int32)) fun v7 =>
  k17 so_ v6 y0 v7
def f_X8_excess_b17 (k : Nat) (ms : Nat → Int32) (p1 : Int32) (p2 : Int32) (p3 : Int32) (p4 : Int32)  : Nat → (Nat → Int32) → Int32 → Int32 → Int32 → Option (Int32 × (Nat → Int32))
  | 0, _, _, _, _ => none
  | n + 1, so_, x5, x6, x7 =>
    if (3 : Int32) ≤ x7 then
      if x6 = 0 then
        some ((-6 : Int32), so_)
      else
        some (x5, so_)
    else
      zg (zin x7 3) (zl (so_ x7.toNatClampNeg) fun v2 =>
      zb1 (f_X8_ofOrderAt k p1 x7) fun v3 =>
      zg (zin v3 324) (zl (ms v3.toNatClampNeg) fun v4 =>
      zl (v2 - v4) fun v5 =>
      if x6 = 0 then
        f_X8_excess_b69 k ms p1 p2 p3 p4 (f_X8_excess_b17 k ms p1 p2 p3 p4 n) so_ x5 x7 v5 (0 : Int32)
      else
        zl (ms 3) fun v8 =>
        zb1 (f_X8_in k v5 (0 : Int32) v8) fun v9 =>
        if v9 = 0 then
          f_X8_excess_b69 k ms p1 p2 p3 p4 (f_X8_excess_b17 k ms p1 p2 p3 p4 n) so_ x5 x7 v5 (0 : Int32)
        else
          f_X8_excess_b69 k ms p1 p2 p3 p4 (f_X8_excess_b17 k ms p1 p2 p3 p4 n) so_ x5 x7 v5 (1 : Int32)))
def f_X8_excess (k : Nat) (ms : Nat → Int32) (so : Nat → Int32) (p1 : Int32) (p2 : Int32) (p3 : Int32) (p4 : Int32) : Option (Int32 × (Nat → Int32)) :=
  zb1 (f_X8_sorts k so p2 p3 p4) fun so1 =>
  f_X8_excess_b17 k ms p1 p2 p3 p4 k so1 (0 : Int32) (1 : Int32) (0 : Int32)
set_option maxRecDepth 100000 in
set_option maxHeartbeats 4000000 in
theorem ct_X8_excess (l : Launch) (D : va_G) (ct a : Nat → Nat) (ms : Nat → Int32) (ah : Nat → Int32) (hi : Nat → Int32) (kp : Int32) (sl : Nat → Int32) (sv : Nat → Int32) (pd : Nat → Int32) (ln : Int32) (so : Nat → Int32) (po : Int32) (wr : Int32) (to : Nat → Int32) (sz : Nat) (p1 : Int32) (p2 : Int32) (p3 : Int32) (p4 : Int32) (k : Nat) (r : Int32) (so' : Nat → Int32) (h : f_X8_excess k ms so p1 p2 p3 p4 = some (r, so')) : Met l yX8_excess (Cond.code yX8_excess cX8_excess 9 (some .int) :: zT) ({ frames := 1, cells := 0, slots := 0, locals := 25 } : Room) (va_Pc [.ref (a 30), .int p1, .int p2, .int p3, .int p4] (zPW D (zTys ct) (wX8 ct a ms ah hi kp sl sv pd ln so po wr to) sz)) (va_Qi (fun r' (_ : Unit) => r' = r) (zQW D (wX8 ct a ms ah hi kp sl sv pd ln so po wr to) sz (wX8 ct a ms ah hi kp sl sv pd ln so' po wr to)) (va_A (wX8 ct a ms ah hi kp sl sv pd ln so po wr to) sz)) 0 0 (va_A (wX8 ct a ms ah hi kp sl sv pd ln so po wr to) sz) := by
  refine zMet (cc := cX8_excess) (maxL := 9) (ret := (some .int)) (av := [.ref (a 30), .int p1, .int p2, .int p3, .int p4]) (by decide) (Nat.le_of_ble_eq_true rfl) (fun p e s m below meth c ls hx hb hr hml hts hown hlocks hin hB hl => ?_)
  have hl : lv_has ls 9 [(0, .ref (a 30)), (1, .int p1), (2, .int p2), (3, .int p3), (4, .int p4)] := hl
  have hown : s.vm.findClass RX8 = some m.cls := hown
  obtain ⟨hsz, hP, hK, hD0⟩ := hB
  subst hsz
  have hD := hD0.self (sz := s.heap.size)
  obtain ⟨A, hAe⟩ : ∃ A, A = va_A (wX8 ct a ms ah hi kp sl sv pd ln so po wr to) s.heap.size := ⟨_, rfl⟩
  rw [← hAe] at hD
  have hA : ∀ q : Nat, s.heap.size ≤ q → A q := fun q h => by rw [hAe]; exact Or.inr h
  have hS : va_S A s.heap s.heap [] := va_S.rf
  have B69 : ∀ (k17 : (Nat → Int32) → Int32 → Int32 → Int32 → Option (Int32 × (Nat → Int32))) (hk17 : ∀ (so_ : Nat → Int32) (x5 : Int32) (x6 : Int32) (x7 : Int32), k17 so_ x5 x6 x7 = some (r, so') → ∀ (H : Heap) (locs : List Loc), va_P D vwCl (wX8 ct a ms ah hi kp sl sv pd ln so_ po wr to) H → va_D A (wX8 ct a ms ah hi kp sl sv pd ln so_ po wr to) → va_S A s.heap H locs → ∀ (ls : Array Slot), lv_has ls 9 [(0, .ref (a 30)), (1, .int p1), (5, .int x5), (6, .int x6), (7, .int x7)] → W p l e ({ frames := 1, cells := 0, slots := 0, locals := 25 } : Room) s m ([.ref (a 30), .int p1, .int p2, .int p3, .int p4] : List Value).toArray below meth c H locs 0 0 (MQ below (va_Qi (fun r' (_ : Unit) => r' = r) (zQW D (wX8 ct a ms ah hi kp sl sv pd ln so po wr to) s.heap.size (wX8 ct a ms ah hi kp sl sv pd ln so' po wr to)) (va_A (wX8 ct a ms ah hi kp sl sv pd ln so po wr to) s.heap.size)) ([.ref (a 30), .int p1, .int p2, .int p3, .int p4] : List Value).toArray s 0 0 (va_A (wX8 ct a ms ah hi kp sl sv pd ln so po wr to) s.heap.size)) (F0 m 17 ls [])), ∀ (so_ : Nat → Int32) (x5 : Int32) (x7 : Int32) (x8 : Int32) (y0 : Int32), f_X8_excess_b69 k ms p1 p2 p3 p4 k17 so_ x5 x7 x8 y0 = some (r, so') → ∀ (H : Heap) (locs : List Loc), va_P D vwCl (wX8 ct a ms ah hi kp sl sv pd ln so_ po wr to) H → va_D A (wX8 ct a ms ah hi kp sl sv pd ln so_ po wr to) → va_S A s.heap H locs → ∀ (ls : Array Slot), lv_has ls 9 [(0, .ref (a 30)), (1, .int p1), (5, .int x5), (7, .int x7), (8, .int x8)] → W p l e ({ frames := 1, cells := 0, slots := 0, locals := 25 } : Room) s m ([.ref (a 30), .int p1, .int p2, .int p3, .int p4] : List Value).toArray below meth c H locs 0 0 (MQ below (va_Qi (fun r' (_ : Unit) => r' = r) (zQW D (wX8 ct a ms ah hi kp sl sv pd ln so po wr to) s.heap.size (wX8 ct a ms ah hi kp sl sv pd ln so' po wr to)) (va_A (wX8 ct a ms ah hi kp sl sv pd ln so po wr to) s.heap.size)) ([.ref (a 30), .int p1, .int p2, .int p3, .int p4] : List Value).toArray s 0 0 (va_A (wX8 ct a ms ah hi kp sl sv pd ln so po wr to) s.heap.size)) (F0 m 69 ls [.int y0]) := by
    intro k17 hk17
    intro so_ x5 x7 x8 y0 h H locs hP hD hS ls hl
    rw [f_X8_excess_b69] at h
    refine lv_istore (lv' := [(6, .int y0), (0, .ref (a 30)), (1, .int p1), (5, .int x5), (7, .int x7), (8, .int x8)]) hx hb dX8_excess_69 hl (by decide) rfl (fun ls hl => ?_)
    refine lv_iload hx hb dX8_excess_71 (lv_at hl 3 rfl) ?_
    refine lv_iload hx hb dX8_excess_73 (lv_at hl 5 rfl) ?_
    refine o_iadd hx hb dX8_excess_75 h (fun v6 h => ?_)
    refine lv_istore (lv' := [(5, .int v6), (6, .int y0), (0, .ref (a 30)), (1, .int p1), (7, .int x7), (8, .int x8)]) hx hb dX8_excess_76 hl (by decide) rfl (fun ls hl => ?_)
    refine o_nm h (fun v7 ey h => ?_)
    refine lv_iinc (v := v7) (lv' := [(7, .int v7), (5, .int v6), (6, .int y0), (0, .ref (a 30)), (1, .int p1), (8, .int x8)]) hx hb dX8_excess_78 hl (k := 4) rfl (Eq.trans rfl ey) (by decide) rfl (fun ls hl => ?_)
    refine lv_goto (tgt := 17) hx hb dX8_excess_81 (by decide) ?_
    exact hk17 so_ v6 y0 v7 h _ _ hP hD hS ls (lv_sub hl [3, 4, 1, 2, 0] rfl)
  have B17 : ∀ (n : Nat), ∀ (so_ : Nat → Int32) (x5 : Int32) (x6 : Int32) (x7 : Int32), f_X8_excess_b17 k ms p1 p2 p3 p4 n so_ x5 x6 x7 = some (r, so') → ∀ (H : Heap) (locs : List Loc), va_P D vwCl (wX8 ct a ms ah hi kp sl sv pd ln so_ po wr to) H → va_D A (wX8 ct a ms ah hi kp sl sv pd ln so_ po wr to) → va_S A s.heap H locs → ∀ (ls : Array Slot), lv_has ls 9 [(0, .ref (a 30)), (1, .int p1), (5, .int x5), (6, .int x6), (7, .int x7)] → W p l e ({ frames := 1, cells := 0, slots := 0, locals := 25 } : Room) s m ([.ref (a 30), .int p1, .int p2, .int p3, .int p4] : List Value).toArray below meth c H locs 0 0 (MQ below (va_Qi (fun r' (_ : Unit) => r' = r) (zQW D (wX8 ct a ms ah hi kp sl sv pd ln so po wr to) s.heap.size (wX8 ct a ms ah hi kp sl sv pd ln so' po wr to)) (va_A (wX8 ct a ms ah hi kp sl sv pd ln so po wr to) s.heap.size)) ([.ref (a 30), .int p1, .int p2, .int p3, .int p4] : List Value).toArray s 0 0 (va_A (wX8 ct a ms ah hi kp sl sv pd ln so po wr to) s.heap.size)) (F0 m 17 ls []) := by
    intro n
    induction n with
    | zero => intro so_ x5 x6 x7 h; exact absurd h (by rw [f_X8_excess_b17]; exact fun q => nomatch q)
    | succ n ih17 =>
      intro so_ x5 x6 x7 h H locs hP hD hS ls hl
      rw [f_X8_excess_b17] at h
      refine lv_iload hx hb dX8_excess_17 (lv_at hl 4 rfl) ?_
      refine lv_iconst (v := (3 : Int32)) hx hb dX8_excess_19 (by decide) ?_
      refine zc_ge (tgt := 84) hx hb dX8_excess_20 (by decide) h (fun h => ?_) (fun h => ?_)
      · refine lv_iload hx hb dX8_excess_84 (lv_at hl 3 rfl) ?_
        refine zi_eq (tgt := 94) hx hb dX8_excess_86 (by decide) h (fun h => ?_) (fun h => ?_)
        · refine lv_bipush (v := (-6 : Int32)) hx hb dX8_excess_94 (by decide) ?_
          cases h
          exact zX_i hx hb hr hlocks hP hD hS hAe dX8_excess_96 rfl
        · refine lv_iload hx hb dX8_excess_89 (lv_at hl 2 rfl) ?_
          refine lv_goto (tgt := 96) hx hb dX8_excess_91 (by decide) ?_
          cases h
          exact zX_i hx hb hr hlocks hP hD hS hAe dX8_excess_96 rfl
      · refine lv_aload_n hx hb dX8_excess_23 rfl (lv_at hl 0 rfl) ?_
        refine z_get (C := RX8) (T := TX8) (N := 12) (ci := 7) hx hb hts zin_X8 hown hK.1 hP 0 8 rfl rfl (by decide) tw803 rfl rfl dX8_excess_24 ?_
        refine lv_iload hx hb dX8_excess_27 (lv_at hl 4 rfl) ?_
        refine y_iald hx hb hK hP 7 0 rfl rfl h dX8_excess_29 (fun v2 h => ?_)
        refine lv_aload_n hx hb dX8_excess_30 rfl (lv_at hl 0 rfl) ?_
        refine z_get (C := RX8) (T := TX8) (N := 12) (ci := 7) hx hb hts zin_X8 hown hK.1 hP 0 0 rfl rfl (by decide) tw795 rfl rfl dX8_excess_31 ?_
        refine lv_iload_n hx hb dX8_excess_34 rfl (lv_at hl 1 rfl) ?_
        refine lv_iload hx hb dX8_excess_35 (lv_at hl 4 rfl) ?_
        obtain ⟨v3, hc, h⟩ := zb1_s h
        refine zE_i (zrS (As := [.int p1, .int x7]) (rest := [.ref (a 31), .int v2]) hx hb hml hown hts tw917 ms_X8_ofOrderAt ⟨Nat.le_of_ble_eq_true rfl, Nat.le_of_ble_eq_true rfl⟩ rfl rfl (ct_X8_ofOrderAt l p1 x7 k v3 hc) z_p0 hl.1 rfl rfl (Nat.le_of_ble_eq_true rfl) dX8_excess_37 ⟨Nat.le_refl _, Nat.le_refl _⟩) ?_
        refine y_iald hx hb hK hP 1 0 rfl rfl h dX8_excess_40 (fun v4 h => ?_)
        refine o_isub hx hb dX8_excess_41 h (fun v5 h => ?_)
        refine lv_istore (lv' := [(8, .int v5), (0, .ref (a 30)), (1, .int p1), (5, .int x5), (6, .int x6), (7, .int x7)]) hx hb dX8_excess_42 hl (by decide) rfl (fun ls hl => ?_)
        refine lv_iload hx hb dX8_excess_44 (lv_at hl 4 rfl) ?_
        refine zi_eq (tgt := 68) hx hb dX8_excess_46 (by decide) h (fun h => ?_) (fun h => ?_)
        · refine lv_iconst (v := (0 : Int32)) hx hb dX8_excess_68 (by decide) ?_
          exact B69 (f_X8_excess_b17 k ms p1 p2 p3 p4 n) ih17 so_ x5 x7 v5 (0 : Int32) h _ _ hP hD hS ls (lv_sub hl [1, 2, 3, 5, 0] rfl)
        · refine lv_iload hx hb dX8_excess_49 (lv_at hl 0 rfl) ?_
          refine lv_iconst (v := (0 : Int32)) hx hb dX8_excess_51 (by decide) ?_
          refine lv_aload_n hx hb dX8_excess_52 rfl (lv_at hl 1 rfl) ?_
          refine z_get (C := RX8) (T := TX8) (N := 12) (ci := 7) hx hb hts zin_X8 hown hK.1 hP 0 0 rfl rfl (by decide) tw795 rfl rfl dX8_excess_53 ?_
          refine lv_iconst (v := (3 : Int32)) hx hb dX8_excess_56 (by decide) ?_
          refine y_ialdc hx hb hK hP 1 0 3 rfl rfl (by decide) (by decide) h dX8_excess_57 (fun v8 h => ?_)
          obtain ⟨v9, hc, h⟩ := zb1_s h
          refine zE_i (zrS (As := [.int v5, .int (0 : Int32), .int v8]) (rest := []) hx hb hml hown hts tw836 ms_X8_in ⟨Nat.le_of_ble_eq_true rfl, Nat.le_of_ble_eq_true rfl⟩ rfl rfl (ct_X8_in l v5 (0 : Int32) v8 k v9 hc) z_p0 hl.1 rfl rfl (Nat.le_of_ble_eq_true rfl) dX8_excess_58 ⟨Nat.le_refl _, Nat.le_refl _⟩) ?_
          refine zi_eq (tgt := 68) hx hb dX8_excess_61 (by decide) h (fun h => ?_) (fun h => ?_)
          · refine lv_iconst (v := (0 : Int32)) hx hb dX8_excess_68 (by decide) ?_
            exact B69 (f_X8_excess_b17 k ms p1 p2 p3 p4 n) ih17 so_ x5 x7 v5 (0 : Int32) h _ _ hP hD hS ls (lv_sub hl [1, 2, 3, 5, 0] rfl)
          · refine lv_iconst (v := (1 : Int32)) hx hb dX8_excess_64 (by decide) ?_
            refine lv_goto (tgt := 69) hx hb dX8_excess_65 (by decide) ?_
            exact B69 (f_X8_excess_b17 k ms p1 p2 p3 p4 n) ih17 so_ x5 x7 v5 (1 : Int32) h _ _ hP hD hS ls (lv_sub hl [1, 2, 3, 5, 0] rfl)
  rw [f_X8_excess] at h
  refine lv_aload_n hx hb dX8_excess_0 rfl (lv_at hl 0 rfl) ?_
  refine lv_iload_n hx hb dX8_excess_1 rfl (lv_at hl 2 rfl) ?_
  refine lv_iload_n hx hb dX8_excess_2 rfl (lv_at hl 3 rfl) ?_
  refine lv_iload hx hb dX8_excess_3 (lv_at hl 4 rfl) ?_
  obtain ⟨so1, hc, h⟩ := zb1_s h
  refine zG_v (w1 := wX8 ct a ms ah hi kp sl sv pd ln so1 po wr to) (ws' := wX8 ct a ms ah hi kp sl sv pd ln so1 po wr to) hP hD hS hA [0, 1, 2, 3, 4, 5, 6, 7, 8] [] [0, 1, 2, 3, 4, 5, 6, 7, 8] rfl rfl (by decide) (by decide) rfl (by decide) (zrV (C := RX8) (As := [.int p2, .int p3, .int p4]) (rest := []) hx hb hml hown hts tw913 mv_X8_sorts ⟨Nat.le_of_ble_eq_true rfl, Nat.le_of_ble_eq_true rfl⟩ rfl rfl (ct_X8_sorts l D ct a ms ah hi kp sl sv pd ln so po wr to _ p2 p3 p4 k so1 hc) (z_wv hK hP hD [0, 1, 2, 3, 4, 5, 6, 7, 8] (by decide) rfl 0 rfl rfl) hl.1 rfl rfl (Nat.le_of_ble_eq_true rfl) dX8_excess_5 ⟨Nat.le_refl _, Nat.le_refl _⟩) (fun H locs hP hD hS => ?_)
  refine lv_iconst (v := (0 : Int32)) hx hb dX8_excess_8 (by decide) ?_
  refine lv_istore (lv' := [(5, .int (0 : Int32)), (0, .ref (a 30)), (1, .int p1), (2, .int p2), (3, .int p3), (4, .int p4)]) hx hb dX8_excess_9 hl (by decide) rfl (fun ls hl => ?_)
  refine lv_iconst (v := (1 : Int32)) hx hb dX8_excess_11 (by decide) ?_
  refine lv_istore (lv' := [(6, .int (1 : Int32)), (5, .int (0 : Int32)), (0, .ref (a 30)), (1, .int p1), (2, .int p2), (3, .int p3), (4, .int p4)]) hx hb dX8_excess_12 hl (by decide) rfl (fun ls hl => ?_)
  refine lv_iconst (v := (0 : Int32)) hx hb dX8_excess_14 (by decide) ?_
  refine lv_istore (lv' := [(7, .int (0 : Int32)), (6, .int (1 : Int32)), (5, .int (0 : Int32)), (0, .ref (a 30)), (1, .int p1), (2, .int p2), (3, .int p3), (4, .int p4)]) hx hb dX8_excess_15 hl (by decide) rfl (fun ls hl => ?_)
  exact B17 k so1 (0 : Int32) (1 : Int32) (0 : Int32) h _ _ hP hD hS ls (lv_sub hl [3, 4, 2, 1, 0] rfl)

