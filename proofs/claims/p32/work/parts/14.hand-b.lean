/-! STATICS AND STRING CONSTANTS: by hand (wip/whole/gen_handb.py) -/
/-- what the Statement says of the statics: the settings' ranges -/
def zZs (st : Nat → Nat) (A : Nat → Prop) (U : State) (H : Heap) : Prop := va_Z "QuarryOrders" "LEAST_SETTING" "[I" (.ref (st 0)) A U H ∧ va_T .int (st 0) 4 (fun j => .int (([0, 1, -20, 0] : List Int32).getD j 0)) A U H ∧ va_Z "QuarryOrders" "MOST_SETTING" "[I" (.ref (st 1)) A U H ∧ va_T .int (st 1) 4 (fun j => .int (([9, 99, 0, 30] : List Int32).getD j 0)) A U H ∧ True
def zZ (st : Nat → Nat) (A : Nat → Prop) (U : State) (H : Heap) : Prop := zZs st A U H ∧ True
theorem zZs.moved {st : Nat → Nat} {A : Nat → Prop} {u U : State} {H : Heap} (hvm : u.vm.Alike U.vm) (h : zZs st A u H) : zZs st A U H := ⟨va_Z.moved hvm h.1, va_T.moved hvm h.2.1, va_Z.moved hvm h.2.2.1, va_T.moved hvm h.2.2.2.1, trivial⟩
theorem zZs.kept {st : Nat → Nat} {A : Nat → Prop} {U : State} {H H1 : Heap} (h : zZs st A U H) (hq : ∀ a : Nat, a < H.size → ¬ A a → H1[a]? = H[a]?) : zZs st A U H1 := ⟨h.1.kept hq, h.2.1.kept hq, h.2.2.1.kept hq, h.2.2.2.1.kept hq, trivial⟩
theorem zZs.narrow {st : Nat → Nat} {A B : Nat → Prop} {U : State} {H : Heap} (h : zZs st A U H) (hAB : ∀ q, B q → A q) : zZs st B U H := ⟨h.1.narrow hAB, h.2.1.narrow hAB, h.2.2.1.narrow hAB, h.2.2.2.1.narrow hAB, trivial⟩
theorem zZ.warm {st : Nat → Nat} {A : Nat → Prop} {s U : State} {H : Heap} (hW : s.WarmedH U.vm) (h : zZ st A s H) : zZ st A U H := ⟨h.1.moved hW.alike, trivial⟩
theorem zZ.frame {st : Nat → Nat} {A : Nat → Prop} {U : State} {H : Heap} {g : JFrame} {mk : MethodId} {a : Array Value} (h : zZ st A U H) : zZ st A (U.calling g mk a) H := ⟨zZs.moved (u := U) (U := U.calling g mk a) (Vm.Alike.refl U.vm) h.1, trivial⟩
theorem zZ.sub {st : Nat → Nat} {A B : Nat → Prop} {U : State} {H0 H : Heap} {locs : List Loc} (h : zZ st A U H0) (hS : va_S A H0 H locs) (hAB : ∀ q, B q → A q) : zZ st B U H := ⟨(h.1.kept (fun a h1 h2 => hS.2.1 a h1 h2)).narrow hAB, trivial⟩
/-- what a method that reads statics asks -/
abbrev zPZ (D : va_G) (tys : List (ClassId × FieldType)) (st : Nat → Nat) (wc : va_W) (sz : Nat) : State → Prop := fun U => zPW D tys wc sz U ∧ zZ st (va_A wc sz) U U.heap
abbrev zP0 (st : Nat → Nat) : State → Prop := fun U => zZ st (fun _ => False) U U.heap
section ZS
variable {p : Program} {l : Launch} {e : Env} {R : Room} {s : State} {m : MethodId} {args : Array Value} {below : List Frame} {meth : Method} {c : Code} {H : Heap} {locs : List Loc} {cells slots : Nat} {Q : State → Prop}
variable {cc : ByteArray} {pc : Nat} {ls : Array Slot} {rest : List Value} {D : va_G} {tys : List (ClassId × FieldType)} {ws wc : va_W} {A : Nat → Prop} {H0 : Heap} {C : String} {b : Addr} {As : List Value} {fs : List Value} {ci N : Nat} {T : u_T} {st : Nat → Nat}
theorem z_zv (hZ : zZ st A s s.heap) (hK : zK D tys s) (hP : va_P D vwCl ws H) (hD : va_D A ws) (hS : va_S A s.heap H locs) (hA : ∀ q : Nat, s.heap.size ≤ q → A q) (is : List Nat) (hn : va_nd is = true) (hs : is.map (fun i => ws[i]?) = wc.map some) (q0 : Nat) (he : ws[q0]? = some (b, .inr (ci, fs))) (hc : vwCl[ci]? = some (C, T, N)) : PreV s H C b (va_Pc (.ref b :: As) (zPZ D tys st wc H.size)) As := by
  have hF := va_free (wc := wc) hD hS hA is hs
  exact ⟨fun a U g mk q => ⟨q.1, ⟨q.2.1.1, q.2.1.2.1, q.2.1.2.2.1.frame, q.2.1.2.2.2⟩, q.2.2.frame⟩, va_recv (q := (C, T, N)) hK.1 hP hc he, fun U hU hW => ⟨rfl, ⟨by rw [hU], by rw [hU]; exact hP.sub is (z_fm hs), hK.warm hW, (hD.sub is hn hs).weaken (fun _ _ _ _ => trivial)⟩, by rw [hU]; exact (hZ.sub hS hF).warm hW⟩⟩
/-- a static method's call that asks for the statics too -/
theorem z_zs (hZ : zZ st A s s.heap) (hK : zK D tys s) (hP : va_P D vwCl ws H) (hD : va_D A ws) (hS : va_S A s.heap H locs) (hA : ∀ q : Nat, s.heap.size ≤ q → A q) (is : List Nat) (hn : va_nd is = true) (hs : is.map (fun i => ws[i]?) = wc.map some) : PreS s H (va_Pc As (zPZ D tys st wc H.size)) As := by
  have hF := va_free (wc := wc) hD hS hA is hs
  exact ⟨fun a U g mk q => ⟨q.1, ⟨q.2.1.1, q.2.1.2.1, q.2.1.2.2.1.frame, q.2.1.2.2.2⟩, q.2.2.frame⟩, fun U hU hW => ⟨rfl, ⟨by rw [hU], by rw [hU]; exact hP.sub is (z_fm hs), hK.warm hW, (hD.sub is hn hs).weaken (fun _ _ _ _ => trivial)⟩, by rw [hU]; exact (hZ.sub hS hF).warm hW⟩⟩
/-- a read-only method's end with a number of a small type -/
theorem zR_n {ty : FieldType} {v v0 : Int32} {free : Addr → Prop} (hx : p.tables.exec = Jvm.exec) (hb : c.code = cc) (hr : meth.sig.returnType = some ty) (hn : narrow ty (.int v) = .int v) (hlocks : meth.locks = false) (hdg : decode cc pc = .ok (.ireturn, 1)) (h : v = v0) : W p l e R s m args below meth c s.heap [] 0 0 (MQ below (vp_Si (fun r => r = v0)) args s 0 0 free) (F0 m pc ls [.int v]) :=
  W.zret hx hb hr hn (fun t ht _ => ⟨v, rfl, h, ht⟩) (fun _ q => absurd q List.not_mem_nil) hdg hlocks
end ZS
def zLo (j : Nat) : Int32 := ([0, 1, -20, 0] : List Int32).getD j 0
def zHi (j : Nat) : Int32 := ([9, 99, 0, 30] : List Int32).getD j 0
def f_X6_changeSetting (k : Nat) (f : Nat → Int32) (p1 p2 : Int32) : Option (Int32 × (Nat → Int32)) :=
  if p1 < 0 then some ((-2 : Int32), f)
  else if (4 : Int32) ≤ p1 then some ((-2 : Int32), f)
  else zg (zin p1 4) (if p2 < zLo p1.toNatClampNeg then some ((-2 : Int32), f)
    else if zHi p1.toNatClampNeg < p2 then some ((-2 : Int32), f)
    else zb1 (f_X5_cell k f p1) fun v1 => zb1 (f_X5_setCell k f p1 p2) fun f1 => zl (v1 + (100 : Int32)) fun v2 => some (v2, f1))
set_option maxRecDepth 100000 in
set_option maxHeartbeats 4000000 in
theorem ct_X6_changeSetting (l : Launch) (D : va_G) (ct a st : Nat → Nat) (f : Nat → Int32) (sz : Nat) (p1 p2 : Int32) (k : Nat) (r : Int32) (f' : Nat → Int32) (h : f_X6_changeSetting k f p1 p2 = some (r, f')) : Met l yX6_changeSetting (Cond.code yX6_changeSetting cX6_changeSetting 4 (some .int) :: zT) ({ frames := 1, cells := 0, slots := 0, locals := 22 } : Room) (va_Pc [.ref (a 1), .int p1, .int p2] (zPZ D (zTys ct) st (wX6 ct a f) sz)) (va_Qi (fun r' (_ : Unit) => r' = r) (zQW D (wX6 ct a f) sz (wX6 ct a f')) (va_A (wX6 ct a f) sz)) 0 0 (va_A (wX6 ct a f) sz) := by
  refine zMet (cc := cX6_changeSetting) (maxL := 4) (ret := (some .int)) (av := [.ref (a 1), .int p1, .int p2]) (by decide) (Nat.le_of_ble_eq_true rfl) (fun p e s m below meth c ls hx hb hr hml hts hown hlocks hin hB hl => ?_)
  have hl : lv_has ls 4 [(0, .ref (a 1)), (1, .int p1), (2, .int p2)] := hl
  have hown : s.vm.findClass RX6 = some m.cls := hown
  obtain ⟨⟨hsz, hP, hK, hD0⟩, hZ⟩ := hB
  subst hsz
  have hD := hD0.self (sz := s.heap.size)
  obtain ⟨A, hAe⟩ : ∃ A, A = va_A (wX6 ct a f) s.heap.size := ⟨_, rfl⟩
  rw [← hAe] at hD hZ
  have hA : ∀ q : Nat, s.heap.size ≤ q → A q := fun q h => by rw [hAe]; exact Or.inr h
  have hS : va_S A s.heap s.heap [] := va_S.rf
  have ok : ∀ w ∈ zT, w.before _ s = true := fun w h => hts w (List.mem_cons_of_mem _ h)
  rw [f_X6_changeSetting] at h
  refine lv_iload_n hx hb dX6_changeSetting_0 rfl (lv_at hl 1 rfl) ?_
  refine zi_lt (tgt := 20) hx hb dX6_changeSetting_1 (by decide) h (fun h => ?_) (fun h => ?_)
  · cases h
    refine lv_bipush (v := (-2 : Int32)) hx hb dX6_changeSetting_20 (by decide) ?_
    exact zX_i hx hb hr hlocks hP hD hS hAe dX6_changeSetting_22 rfl
  refine lv_iload_n hx hb dX6_changeSetting_4 rfl (lv_at hl 1 rfl) ?_
  refine va_getsN hx hb hZ.1.1 hS hown (va_Nw.use rfl (nw513 hK.2)) (fun _ h => h) dX6_changeSetting_5 ?_
  refine va_tlen hx hb hZ.1.2.1 hS (v := (4 : Int32)) rfl dX6_changeSetting_8 ?_
  refine lv_icmp_ge (tgt := 20) hx hb dX6_changeSetting_9 (by decide) (fun q => ?_) (fun q => ?_)
  · rw [if_pos q] at h
    cases h
    refine lv_bipush (v := (-2 : Int32)) hx hb dX6_changeSetting_20 (by decide) ?_
    exact zX_i hx hb hr hlocks hP hD hS hAe dX6_changeSetting_22 rfl
  rw [if_neg q] at h
  obtain ⟨hn, h⟩ := zg_s h
  refine lv_iload_n hx hb dX6_changeSetting_12 rfl (lv_at hl 1 rfl) ?_
  refine va_getsN hx hb hZ.1.2.2.1 hS hown (va_Nw.use rfl (nw515 hK.2)) (fun _ h => h) dX6_changeSetting_13 ?_
  refine va_tlen hx hb hZ.1.2.2.2.1 hS (v := (4 : Int32)) rfl dX6_changeSetting_16 ?_
  refine lv_icmp_lt (tgt := 23) hx hb dX6_changeSetting_17 (by decide) (fun _ => ?_) (fun q2 => absurd (Int32.not_le.mp q) q2)
  refine lv_iload_n hx hb dX6_changeSetting_23 rfl (lv_at hl 2 rfl) ?_
  refine va_getsN hx hb hZ.1.1 hS hown (va_Nw.use rfl (nw513 hK.2)) (fun _ h => h) dX6_changeSetting_24 ?_
  refine lv_iload_n hx hb dX6_changeSetting_27 rfl (lv_at hl 1 rfl) ?_
  refine va_ti hx hb hZ.1.2.1 hS (zin_s hn) (v := .int (zLo p1.toNatClampNeg)) rfl dX6_changeSetting_28 ?_
  refine zc_lt (tgt := 41) hx hb dX6_changeSetting_29 (by decide) h (fun h => ?_) (fun h => ?_)
  · cases h
    refine lv_bipush (v := (-2 : Int32)) hx hb dX6_changeSetting_41 (by decide) ?_
    exact zX_i hx hb hr hlocks hP hD hS hAe dX6_changeSetting_43 rfl
  refine lv_iload_n hx hb dX6_changeSetting_32 rfl (lv_at hl 2 rfl) ?_
  refine va_getsN hx hb hZ.1.2.2.1 hS hown (va_Nw.use rfl (nw515 hK.2)) (fun _ h => h) dX6_changeSetting_33 ?_
  refine lv_iload_n hx hb dX6_changeSetting_36 rfl (lv_at hl 1 rfl) ?_
  refine va_ti hx hb hZ.1.2.2.2.1 hS (zin_s hn) (v := .int (zHi p1.toNatClampNeg)) rfl dX6_changeSetting_37 ?_
  refine lv_icmp_le (tgt := 44) hx hb dX6_changeSetting_38 (by decide) (fun q3 => ?_) (fun q3 => ?_)
  rotate_left
  · rw [if_pos (Int32.not_le.mp q3)] at h
    cases h
    refine lv_bipush (v := (-2 : Int32)) hx hb dX6_changeSetting_41 (by decide) ?_
    exact zX_i hx hb hr hlocks hP hD hS hAe dX6_changeSetting_43 rfl
  rw [if_neg (Int32.not_lt.mpr q3)] at h
  refine lv_aload_n hx hb dX6_changeSetting_44 rfl (lv_at hl 0 rfl) ?_
  refine z_get (C := RX6) (T := TX6) (N := 2) (ci := 5) hx hb hts zin_X6 hown hK.1 hP 0 0 rfl rfl (by decide) tw64 rfl rfl dX6_changeSetting_45 ?_
  refine lv_iload_n hx hb dX6_changeSetting_48 rfl (lv_at hl 1 rfl) ?_
  obtain ⟨v1, hc, h⟩ := zb1_s h
  refine zE_i (zrV (C := RX5) (As := [.int p1]) (rest := []) hx hb hml hown hts tw280 mv_X5_cell ⟨Nat.le_of_ble_eq_true rfl, Nat.le_of_ble_eq_true rfl⟩ rfl rfl (ct_X5_cell l D ct a f p1 k v1 hc) (z_pv hK hP [2, 3] rfl 2 rfl rfl) hl.1 rfl rfl (Nat.le_of_ble_eq_true rfl) dX6_changeSetting_49 ⟨Nat.le_refl _, Nat.le_refl _⟩) ?_
  refine lv_istore_n (lv' := [(3, .int v1), (0, .ref (a 1)), (1, .int p1), (2, .int p2)]) hx hb dX6_changeSetting_52 rfl hl (by decide) rfl (fun ls hl => ?_)
  refine lv_aload_n hx hb dX6_changeSetting_53 rfl (lv_at hl 1 rfl) ?_
  refine z_get (C := RX6) (T := TX6) (N := 2) (ci := 5) hx hb hts zin_X6 hown hK.1 hP 0 0 rfl rfl (by decide) tw64 rfl rfl dX6_changeSetting_54 ?_
  refine lv_iload_n hx hb dX6_changeSetting_57 rfl (lv_at hl 2 rfl) ?_
  refine lv_iload_n hx hb dX6_changeSetting_58 rfl (lv_at hl 3 rfl) ?_
  obtain ⟨f1, hc, h⟩ := zb1_s h
  refine zG_v (w1 := wX5 ct a f1) (ws' := wX6 ct a f1) hP hD hS hA [2, 3] [0, 1] [0, 1, 2, 3] rfl rfl (by decide) (by decide) rfl (by decide) (zrV (C := RX5) (As := [.int p1, .int p2]) (rest := []) hx hb hml hown hts tw285 mv_X5_setCell ⟨Nat.le_of_ble_eq_true rfl, Nat.le_of_ble_eq_true rfl⟩ rfl rfl (ct_X5_setCell l D ct a f _ p1 p2 k f1 hc) (z_wv hK hP hD [2, 3] (by decide) rfl 2 rfl rfl) hl.1 rfl rfl (Nat.le_of_ble_eq_true rfl) dX6_changeSetting_59 ⟨Nat.le_refl _, Nat.le_refl _⟩) (fun H locs hP hD hS => ?_)
  refine lv_iload_n hx hb dX6_changeSetting_62 rfl (lv_at hl 0 rfl) ?_
  refine lv_bipush (v := (100 : Int32)) hx hb dX6_changeSetting_63 (by decide) ?_
  refine o_iadd hx hb dX6_changeSetting_65 h (fun v2 h => ?_)
  cases h
  exact zX_i hx hb hr hlocks hP hD hS hAe dX6_changeSetting_66 rfl
