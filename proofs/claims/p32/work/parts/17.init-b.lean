/-! THE CLASS'S OWN CONSTRUCTOR (wip/whole/gen_init2.py) -/
theorem va_AOA.moved {t : FieldType} {u U : State} (h : u.vm.Alike U.vm) (ha : va_AOA t u) : va_AOA t U := by
  have e : (Cond.arrayOver (.array t)).before #[] U = (Cond.arrayOver (.array t)).before #[] (u.setVm U.vm) := rfl
  unfold va_AOA
  rw [e, Cond.arrayOver_setVmC h]
  exact ha
theorem z_wo {s : State} {H : Heap} {D : va_G} {tys : List (ClassId × FieldType)} {ws wc : va_W} {A : Nat → Prop} {b : Addr} {As : List Value} (hO : va_AOA .int s) (hK : zK D tys s) (hP : va_P D vwCl ws H) (hD : va_D A ws) (is : List Nat) (hn : va_nd is = true) (hs : is.map (fun i => ws[i]?) = wc.map some) : PreS s H (va_Pc (.ref b :: As) (zPO D tys wc H.size)) (.ref b :: As) :=
  ⟨fun a U g mk q => ⟨q.1, ⟨q.2.1.1, q.2.1.2.1, q.2.1.2.2.1.frame, q.2.1.2.2.2⟩, va_AOA.moved (u := U) (U := U.calling g mk a) (Vm.Alike.refl U.vm) q.2.2⟩, fun U hU hW => ⟨rfl, ⟨by rw [hU], by rw [hU]; exact hP.sub is (z_fm hs), hK.warm hW, (hD.sub is hn hs).weaken (fun _ _ _ _ => trivial)⟩, hO.moved hW.alike⟩⟩
/-- a world speaks of its own addresses alone -/
theorem wX2_eq {ct a b : Nat → Nat} {g : Nat → Nat → Int32} {nx hz : Int32} (h : ∀ i, i < 22 → a i = b i) : wX2 ct a g nx hz = wX2 ct b g nx hz := by
  have e : (fun i => if i < 7 then some (a (13 + i)) else none) = (fun i => if i < 7 then some (b (13 + i)) else none) := by
    funext i
    by_cases hi : i < 7
    · rw [if_pos hi, if_pos hi, h _ (by omega)]
    · rw [if_neg hi, if_neg hi]
  unfold wX2
  rw [e, h 5 (by decide), h 6 (by decide), h 13 (by decide), h 14 (by decide), h 15 (by decide), h 16 (by decide), h 17 (by decide), h 18 (by decide), h 19 (by decide)]
theorem wX4_eq {ct a b : Nat → Nat} {sw : Nat → Nat → Int32} {fl : Nat → Int32} (h : ∀ i, i < 22 → a i = b i) : wX4 ct a sw fl = wX4 ct b sw fl := by
  have e : (fun i => if i < 2 then some (a (20 + i)) else none) = (fun i => if i < 2 then some (b (20 + i)) else none) := by
    funext i
    by_cases hi : i < 2
    · rw [if_pos hi, if_pos hi, h _ (by omega)]
    · rw [if_neg hi, if_neg hi]
  unfold wX4
  rw [e, h 7 (by decide), h 8 (by decide), h 9 (by decide), h 20 (by decide), h 21 (by decide)]
theorem wX7_eq {ct a b : Nat → Nat} {f : Nat → Int32} {g : Nat → Nat → Int32} {nx hz : Int32} {sw : Nat → Nat → Int32} {fl sg : Nat → Int32} {pl pa pk : Int32} {pn : Nat → Int32} {pf pg : Int32} (h : ∀ i, i < 22 → a i = b i) : wX7 ct a f g nx hz sw fl sg pl pa pk pn pf pg = wX7 ct b f g nx hz sw fl sg pl pa pk pn pf pg := by
  have e2 := wX2_eq (ct := ct) (g := g) (nx := nx) (hz := hz) h
  have e4 := wX4_eq (ct := ct) (sw := sw) (fl := fl) h
  unfold wX7
  rw [e2, e4]
  unfold wX6 wX1 wX5 wX3
  rw [h 0 (by decide), h 1 (by decide), h 2 (by decide), h 3 (by decide), h 4 (by decide), h 5 (by decide), h 7 (by decide), h 10 (by decide), h 11 (by decide), h 12 (by decide)]
set_option maxRecDepth 100000 in
set_option maxHeartbeats 4000000 in
theorem ct_X7_init (l : Launch) (D : va_G) (ct : Nat → Nat) (h0 sz k : Nat) (f' : Nat → Int32) (h : f_X5_init k (fun _ => 0) = some f') : Met l yX7_init (Cond.code yX7_init cX7_init 1 none :: zT) ({ frames := 3, cells := 21, slots := 3551, locals := 98 } : Room) (va_Pc [.ref h0] (zPO D (zTys ct) ([(h0, .inr (6, [.null, .null, .null, .null, .null, .null]))]) sz)) (va_Qv (fun (u : Nat → Nat) => u 0 = h0) (fun u t => va_P D vwCl (wX7 ct u f' (fun _ _ => 0) 0 0 (fun _ _ => 0) (fun _ => 0) (fun _ => 0) 0 0 0 (fun _ => 0) 0 0) t.heap ∧ va_D (va_A ([(h0, .inr (6, [.null, .null, .null, .null, .null, .null]))]) sz) (wX7 ct u f' (fun _ _ => 0) 0 0 (fun _ _ => 0) (fun _ => 0) (fun _ => 0) 0 0 0 (fun _ => 0) 0 0)) (va_A ([(h0, .inr (6, [.null, .null, .null, .null, .null, .null]))]) sz)) 21 3551 (va_A ([(h0, .inr (6, [.null, .null, .null, .null, .null, .null]))]) sz) := by
  refine zMet (cc := cX7_init) (maxL := 1) (ret := none) (av := [.ref h0]) (by decide) (Nat.le_of_ble_eq_true rfl) (fun p e s m below meth c ls hx hb hr hml hts hown hlocks hin hB hl => ?_)
  have hl : lv_has ls 1 [(0, .ref h0)] := hl
  have hown : s.vm.findClass RX7 = some m.cls := hown
  obtain ⟨⟨hsz, hP, hK, hD0⟩, hO⟩ := hB
  subst hsz
  have hD := hD0.self (sz := s.heap.size)
  obtain ⟨A, hAe⟩ : ∃ A, A = va_A ([(h0, .inr (6, [.null, .null, .null, .null, .null, .null]))]) s.heap.size := ⟨_, rfl⟩
  rw [← hAe] at hD
  have hA : ∀ q : Nat, s.heap.size ≤ q → A q := fun q h => by rw [hAe]; exact Or.inr h
  have hS : va_S A s.heap s.heap [] := va_S.rf
  have ok : ∀ w ∈ zT, w.before _ s = true := fun w h => hts w (List.mem_cons_of_mem _ h)
  refine lv_aload_n hx hb dX7_init_0 rfl (lv_at hl 0 rfl) ?_
  refine z_obj hx hb hml hl.1 hown hts tw26 tw27 tw28 dX7_init_1 (Nat.le_of_ble_eq_true rfl) (Nat.le_of_ble_eq_true rfl) ?_
  refine lv_aload_n hx hb dX7_init_4 rfl (lv_at hl 0 rfl) ?_
  refine va_new (C := RX5) (T := TX5) (N := 1) (ci := 4) (fs := [.null]) (Ts := Cond.code yX7_init cX7_init 1 none :: zT) hx hb hts (fun w h => List.mem_cons_of_mem _ (zin_X5 w h)) tyX5 tyX5_ok hown (ok _ tw29) (ok _ tw30) (ok _ tw11) hK.1 hP hD hS hA rfl (fun j hj => match j, hj with | 0, _ => rfl) (Nat.le_of_ble_eq_true rfl) (Nat.le_of_ble_eq_true rfl) dX7_init_5 (fun q H hP hD hS => ?_)
  refine lv_dup hx hb dX7_init_8 rfl ?_
  have hP : va_P D vwCl ([(h0, .inr (6, [.null, .null, .null, .null, .null, .null]))] ++ [(q, .inr (4, [.null]))]) H := hP
  have hD : va_D A ([(h0, .inr (6, [.null, .null, .null, .null, .null, .null]))] ++ [(q, .inr (4, [.null]))]) := hD
  refine zH_v (S := Nat → Nat) (w1 := fun u3 => wX5 ct u3 f') (wc := [(q, .inr (4, [.null]))]) hP hD hS hA [1] [0] rfl rfl (by decide) (by decide) (zrI (As := []) (rest := [.ref q, .ref h0]) hx hb hml hown hts tw31 mi_X5_init ⟨Nat.le_of_ble_eq_true rfl, Nat.le_of_ble_eq_true rfl⟩ rfl rfl (ct_X5_init l D ct q _ k f' h) (z_wi hK hP hD [1] (by decide) rfl) hl.1 rfl rfl (Nat.le_of_ble_eq_true rfl) dX7_init_9 ⟨(Nat.le_of_ble_eq_true rfl), (Nat.le_of_ble_eq_true rfl)⟩) (fun u3 H locs hu hP hD hS => ?_)
  have hu : u3 3 = q := hu
  subst hu
  have hP : va_P D vwCl ([(h0, .inr (6, [.null, .null, .null, .null, .null, .null]))] ++ wX5 ct u3 f') H := hP
  have hD : va_D A ([(h0, .inr (6, [.null, .null, .null, .null, .null, .null]))] ++ wX5 ct u3 f') := hD
  refine z_putF (ty := .object "QuarryOrders$State") (C := RX7) (T := TX7) (N := 6) (ci := 6) hx hb hts zin_X7 tyX7 tyX7_ok nmX7 hown hK.1 hP hD hS 0 0 rfl rfl (by decide) tw133 rfl rfl hin rfl (by decide +kernel) rfl rfl (Nat.le_of_ble_eq_true rfl) dX7_init_12 (fun H locs hP hD hS => ?_)
  have hP : va_P D vwCl ([(h0, .inr (6, [.ref (u3 3), .null, .null, .null, .null, .null]))] ++ wX5 ct u3 f') H := hP
  have hD : va_D A ([(h0, .inr (6, [.ref (u3 3), .null, .null, .null, .null, .null]))] ++ wX5 ct u3 f') := hD
  refine lv_aload_n hx hb dX7_init_15 rfl (lv_at hl 0 rfl) ?_
  refine va_new (C := RX1) (T := TX1) (N := 1) (ci := 0) (fs := [.null]) (Ts := Cond.code yX7_init cX7_init 1 none :: zT) hx hb hts (fun w h => List.mem_cons_of_mem _ (zin_X1 w h)) tyX1 tyX1_ok hown (ok _ tw48) (ok _ tw49) (ok _ tw12) hK.1 hP hD hS hA rfl (fun j hj => match j, hj with | 0, _ => rfl) (Nat.le_of_ble_eq_true rfl) (Nat.le_of_ble_eq_true rfl) dX7_init_16 (fun q2 H hP hD hS => ?_)
  refine lv_dup hx hb dX7_init_19 rfl ?_
  have hP : va_P D vwCl ([(h0, .inr (6, [.ref (u3 3), .null, .null, .null, .null, .null]))] ++ wX5 ct u3 f' ++ [(q2, .inr (0, [.null]))]) H := hP
  have hD : va_D A ([(h0, .inr (6, [.ref (u3 3), .null, .null, .null, .null, .null]))] ++ wX5 ct u3 f' ++ [(q2, .inr (0, [.null]))]) := hD
  refine lv_aload_n hx hb dX7_init_20 rfl (lv_at hl 0 rfl) ?_
  refine z_get (C := RX7) (T := TX7) (N := 6) (ci := 6) hx hb hts zin_X7 hown hK.1 hP 0 0 rfl rfl (by decide) tw133 rfl rfl dX7_init_21 ?_
  have hP : va_P D vwCl ([(h0, .inr (6, [.ref (u3 3), .null, .null, .null, .null, .null]))] ++ wX5 ct u3 f' ++ [(q2, .inr (0, [.null]))]) H := hP
  have hD : va_D A ([(h0, .inr (6, [.ref (u3 3), .null, .null, .null, .null, .null]))] ++ wX5 ct u3 f' ++ [(q2, .inr (0, [.null]))]) := hD
  refine zH_v (S := Unit) (w1 := fun _u => [(q2, .inr (0, [.ref (u3 3)]))]) (wc := [(q2, .inr (0, [.null]))]) hP hD hS hA [3] [0, 1, 2] rfl rfl (by decide) (by decide) (zrI (As := [.ref (u3 3)]) (rest := [.ref q2, .ref h0]) hx hb hml hown hts tw50 mi_X1_init ⟨Nat.le_of_ble_eq_true rfl, Nat.le_of_ble_eq_true rfl⟩ rfl rfl (ct_X1_init l D ct q2 (u3 3) _) (z_wi hK hP hD [3] (by decide) rfl) hl.1 rfl rfl (Nat.le_of_ble_eq_true rfl) dX7_init_24 ⟨(Nat.le_of_ble_eq_true rfl), (Nat.le_of_ble_eq_true rfl)⟩) (fun _u H locs hu hP hD hS => ?_)
  have hP : va_P D vwCl ([(h0, .inr (6, [.ref (u3 3), .null, .null, .null, .null, .null]))] ++ wX5 ct u3 f' ++ [(q2, .inr (0, [.ref (u3 3)]))]) H := hP
  have hD : va_D A ([(h0, .inr (6, [.ref (u3 3), .null, .null, .null, .null, .null]))] ++ wX5 ct u3 f' ++ [(q2, .inr (0, [.ref (u3 3)]))]) := hD
  refine z_putF (ty := .object "QuarryOrders$Facts") (C := RX7) (T := TX7) (N := 6) (ci := 6) hx hb hts zin_X7 tyX7 tyX7_ok nmX7 hown hK.1 hP hD hS 0 1 rfl rfl (by decide) tw134 rfl rfl hin rfl (by decide +kernel) rfl rfl (Nat.le_of_ble_eq_true rfl) dX7_init_27 (fun H locs hP hD hS => ?_)
  have hP : va_P D vwCl ([(h0, .inr (6, [.ref (u3 3), .ref q2, .null, .null, .null, .null]))] ++ wX5 ct u3 f' ++ [(q2, .inr (0, [.ref (u3 3)]))]) H := hP
  have hD : va_D A ([(h0, .inr (6, [.ref (u3 3), .ref q2, .null, .null, .null, .null]))] ++ wX5 ct u3 f' ++ [(q2, .inr (0, [.ref (u3 3)]))]) := hD
  refine lv_aload_n hx hb dX7_init_30 rfl (lv_at hl 0 rfl) ?_
  refine va_new (C := RX6) (T := TX6) (N := 2) (ci := 5) (fs := [.null, .null]) (Ts := Cond.code yX7_init cX7_init 1 none :: zT) hx hb hts (fun w h => List.mem_cons_of_mem _ (zin_X6 w h)) tyX6 tyX6_ok hown (ok _ tw58) (ok _ tw59) (ok _ tw13) hK.1 hP hD hS hA rfl (fun j hj => match j, hj with | 0, _ => rfl | 1, _ => rfl) (Nat.le_of_ble_eq_true rfl) (Nat.le_of_ble_eq_true rfl) dX7_init_31 (fun q1 H hP hD hS => ?_)
  refine lv_dup hx hb dX7_init_34 rfl ?_
  have hP : va_P D vwCl ([(h0, .inr (6, [.ref (u3 3), .ref q2, .null, .null, .null, .null]))] ++ wX5 ct u3 f' ++ [(q2, .inr (0, [.ref (u3 3)]))] ++ [(q1, .inr (5, [.null, .null]))]) H := hP
  have hD : va_D A ([(h0, .inr (6, [.ref (u3 3), .ref q2, .null, .null, .null, .null]))] ++ wX5 ct u3 f' ++ [(q2, .inr (0, [.ref (u3 3)]))] ++ [(q1, .inr (5, [.null, .null]))]) := hD
  refine lv_aload_n hx hb dX7_init_35 rfl (lv_at hl 0 rfl) ?_
  refine z_get (C := RX7) (T := TX7) (N := 6) (ci := 6) hx hb hts zin_X7 hown hK.1 hP 0 0 rfl rfl (by decide) tw133 rfl rfl dX7_init_36 ?_
  refine lv_aload_n hx hb dX7_init_39 rfl (lv_at hl 0 rfl) ?_
  refine z_get (C := RX7) (T := TX7) (N := 6) (ci := 6) hx hb hts zin_X7 hown hK.1 hP 0 1 rfl rfl (by decide) tw134 rfl rfl dX7_init_40 ?_
  have hP : va_P D vwCl ([(h0, .inr (6, [.ref (u3 3), .ref q2, .null, .null, .null, .null]))] ++ wX5 ct u3 f' ++ [(q2, .inr (0, [.ref (u3 3)]))] ++ [(q1, .inr (5, [.null, .null]))]) H := hP
  have hD : va_D A ([(h0, .inr (6, [.ref (u3 3), .ref q2, .null, .null, .null, .null]))] ++ wX5 ct u3 f' ++ [(q2, .inr (0, [.ref (u3 3)]))] ++ [(q1, .inr (5, [.null, .null]))]) := hD
  refine zH_v (S := Unit) (w1 := fun _u => [(q1, .inr (5, [.ref (u3 3), .ref q2]))]) (wc := [(q1, .inr (5, [.null, .null]))]) hP hD hS hA [4] [0, 1, 2, 3] rfl rfl (by decide) (by decide) (zrI (As := [.ref (u3 3), .ref q2]) (rest := [.ref q1, .ref h0]) hx hb hml hown hts tw60 mi_X6_init ⟨Nat.le_of_ble_eq_true rfl, Nat.le_of_ble_eq_true rfl⟩ rfl rfl (ct_X6_init l D ct q1 (u3 3) q2 _) (z_wi hK hP hD [4] (by decide) rfl) hl.1 rfl rfl (Nat.le_of_ble_eq_true rfl) dX7_init_43 ⟨(Nat.le_of_ble_eq_true rfl), (Nat.le_of_ble_eq_true rfl)⟩) (fun _u H locs hu hP hD hS => ?_)
  have hP : va_P D vwCl ([(h0, .inr (6, [.ref (u3 3), .ref q2, .null, .null, .null, .null]))] ++ wX5 ct u3 f' ++ [(q2, .inr (0, [.ref (u3 3)]))] ++ [(q1, .inr (5, [.ref (u3 3), .ref q2]))]) H := hP
  have hD : va_D A ([(h0, .inr (6, [.ref (u3 3), .ref q2, .null, .null, .null, .null]))] ++ wX5 ct u3 f' ++ [(q2, .inr (0, [.ref (u3 3)]))] ++ [(q1, .inr (5, [.ref (u3 3), .ref q2]))]) := hD
  refine z_putF (ty := .object "QuarryOrders$Works") (C := RX7) (T := TX7) (N := 6) (ci := 6) hx hb hts zin_X7 tyX7 tyX7_ok nmX7 hown hK.1 hP hD hS 0 2 rfl rfl (by decide) tw135 rfl rfl hin rfl (by decide +kernel) rfl rfl (Nat.le_of_ble_eq_true rfl) dX7_init_46 (fun H locs hP hD hS => ?_)
  have hP : va_P D vwCl ([(h0, .inr (6, [.ref (u3 3), .ref q2, .ref q1, .null, .null, .null]))] ++ wX5 ct u3 f' ++ [(q2, .inr (0, [.ref (u3 3)]))] ++ [(q1, .inr (5, [.ref (u3 3), .ref q2]))]) H := hP
  have hD : va_D A ([(h0, .inr (6, [.ref (u3 3), .ref q2, .ref q1, .null, .null, .null]))] ++ wX5 ct u3 f' ++ [(q2, .inr (0, [.ref (u3 3)]))] ++ [(q1, .inr (5, [.ref (u3 3), .ref q2]))]) := hD
  refine lv_aload_n hx hb dX7_init_49 rfl (lv_at hl 0 rfl) ?_
  refine va_new (C := RX2) (T := TX2) (N := 3) (ci := 1) (fs := [.null, .int 0, .int 0]) (Ts := Cond.code yX7_init cX7_init 1 none :: zT) hx hb hts (fun w h => List.mem_cons_of_mem _ (zin_X2 w h)) tyX2 tyX2_ok hown (ok _ tw71) (ok _ tw72) (ok _ tw14) hK.1 hP hD hS hA rfl (fun j hj => match j, hj with | 0, _ => rfl | 1, _ => rfl | 2, _ => rfl) (Nat.le_of_ble_eq_true rfl) (Nat.le_of_ble_eq_true rfl) dX7_init_50 (fun q5 H hP hD hS => ?_)
  refine lv_dup hx hb dX7_init_53 rfl ?_
  have hP : va_P D vwCl ([(h0, .inr (6, [.ref (u3 3), .ref q2, .ref q1, .null, .null, .null]))] ++ wX5 ct u3 f' ++ [(q2, .inr (0, [.ref (u3 3)]))] ++ [(q1, .inr (5, [.ref (u3 3), .ref q2]))] ++ [(q5, .inr (1, [.null, .int 0, .int 0]))]) H := hP
  have hD : va_D A ([(h0, .inr (6, [.ref (u3 3), .ref q2, .ref q1, .null, .null, .null]))] ++ wX5 ct u3 f' ++ [(q2, .inr (0, [.ref (u3 3)]))] ++ [(q1, .inr (5, [.ref (u3 3), .ref q2]))] ++ [(q5, .inr (1, [.null, .int 0, .int 0]))]) := hD
  refine zH_v (S := Nat → Nat) (w1 := fun u5 => wX2 ct u5 (fun _ _ => 0) 0 0) (wc := [(q5, .inr (1, [.null, .int 0, .int 0]))]) hP hD hS hA [5] [0, 1, 2, 3, 4] rfl rfl (by decide) (by decide) (zrIN (As := []) (rest := [.ref q5, .ref h0]) hx hb hml hown hts (nw73 hK.2) mi_X2_init ⟨Nat.le_of_ble_eq_true rfl, Nat.le_of_ble_eq_true rfl⟩ rfl rfl (ct_X2_init l D ct q5 _) (z_wo hO hK hP hD [5] (by decide) rfl) hl.1 rfl rfl (Nat.le_of_ble_eq_true rfl) dX7_init_54 ⟨(Nat.le_of_ble_eq_true rfl), (Nat.le_of_ble_eq_true rfl)⟩) (fun u5 H locs hu hP hD hS => ?_)
  have hu : u5 5 = q5 := hu
  subst hu
  have hP : va_P D vwCl ([(h0, .inr (6, [.ref (u3 3), .ref q2, .ref q1, .null, .null, .null]))] ++ wX5 ct u3 f' ++ [(q2, .inr (0, [.ref (u3 3)]))] ++ [(q1, .inr (5, [.ref (u3 3), .ref q2]))] ++ wX2 ct u5 (fun _ _ => 0) 0 0) H := hP
  have hD : va_D A ([(h0, .inr (6, [.ref (u3 3), .ref q2, .ref q1, .null, .null, .null]))] ++ wX5 ct u3 f' ++ [(q2, .inr (0, [.ref (u3 3)]))] ++ [(q1, .inr (5, [.ref (u3 3), .ref q2]))] ++ wX2 ct u5 (fun _ _ => 0) 0 0) := hD
  refine z_putF (ty := .object "QuarryOrders$History") (C := RX7) (T := TX7) (N := 6) (ci := 6) hx hb hts zin_X7 tyX7 tyX7_ok nmX7 hown hK.1 hP hD hS 0 3 rfl rfl (by decide) tw136 rfl rfl hin rfl (by decide +kernel) rfl rfl (Nat.le_of_ble_eq_true rfl) dX7_init_57 (fun H locs hP hD hS => ?_)
  have hP : va_P D vwCl ([(h0, .inr (6, [.ref (u3 3), .ref q2, .ref q1, .ref (u5 5), .null, .null]))] ++ wX5 ct u3 f' ++ [(q2, .inr (0, [.ref (u3 3)]))] ++ [(q1, .inr (5, [.ref (u3 3), .ref q2]))] ++ wX2 ct u5 (fun _ _ => 0) 0 0) H := hP
  have hD : va_D A ([(h0, .inr (6, [.ref (u3 3), .ref q2, .ref q1, .ref (u5 5), .null, .null]))] ++ wX5 ct u3 f' ++ [(q2, .inr (0, [.ref (u3 3)]))] ++ [(q1, .inr (5, [.ref (u3 3), .ref q2]))] ++ wX2 ct u5 (fun _ _ => 0) 0 0) := hD
  refine lv_aload_n hx hb dX7_init_60 rfl (lv_at hl 0 rfl) ?_
  refine va_new (C := RX4) (T := TX4) (N := 2) (ci := 3) (fs := [.null, .null]) (Ts := Cond.code yX7_init cX7_init 1 none :: zT) hx hb hts (fun w h => List.mem_cons_of_mem _ (zin_X4 w h)) tyX4 tyX4_ok hown (ok _ tw89) (ok _ tw90) (ok _ tw15) hK.1 hP hD hS hA rfl (fun j hj => match j, hj with | 0, _ => rfl | 1, _ => rfl) (Nat.le_of_ble_eq_true rfl) (Nat.le_of_ble_eq_true rfl) dX7_init_61 (fun q7 H hP hD hS => ?_)
  refine lv_dup hx hb dX7_init_64 rfl ?_
  have hP : va_P D vwCl ([(h0, .inr (6, [.ref (u3 3), .ref q2, .ref q1, .ref (u5 5), .null, .null]))] ++ wX5 ct u3 f' ++ [(q2, .inr (0, [.ref (u3 3)]))] ++ [(q1, .inr (5, [.ref (u3 3), .ref q2]))] ++ wX2 ct u5 (fun _ _ => 0) 0 0 ++ [(q7, .inr (3, [.null, .null]))]) H := hP
  have hD : va_D A ([(h0, .inr (6, [.ref (u3 3), .ref q2, .ref q1, .ref (u5 5), .null, .null]))] ++ wX5 ct u3 f' ++ [(q2, .inr (0, [.ref (u3 3)]))] ++ [(q1, .inr (5, [.ref (u3 3), .ref q2]))] ++ wX2 ct u5 (fun _ _ => 0) 0 0 ++ [(q7, .inr (3, [.null, .null]))]) := hD
  refine zH_v (S := Nat → Nat) (w1 := fun u7 => wX4 ct u7 (fun _ _ => 0) (fun _ => 0)) (wc := [(q7, .inr (3, [.null, .null]))]) hP hD hS hA [14] [0, 1, 2, 3, 4, 5, 6, 7, 8, 9, 10, 11, 12, 13] rfl rfl (by decide) (by decide) (zrIN (As := []) (rest := [.ref q7, .ref h0]) hx hb hml hown hts (nw91 hK.2) mi_X4_init ⟨Nat.le_of_ble_eq_true rfl, Nat.le_of_ble_eq_true rfl⟩ rfl rfl (ct_X4_init l D ct q7 _) (z_wo hO hK hP hD [14] (by decide) rfl) hl.1 rfl rfl (Nat.le_of_ble_eq_true rfl) dX7_init_65 ⟨(Nat.le_of_ble_eq_true rfl), (Nat.le_of_ble_eq_true rfl)⟩) (fun u7 H locs hu hP hD hS => ?_)
  have hu : u7 7 = q7 := hu
  subst hu
  have hP : va_P D vwCl ([(h0, .inr (6, [.ref (u3 3), .ref q2, .ref q1, .ref (u5 5), .null, .null]))] ++ wX5 ct u3 f' ++ [(q2, .inr (0, [.ref (u3 3)]))] ++ [(q1, .inr (5, [.ref (u3 3), .ref q2]))] ++ wX2 ct u5 (fun _ _ => 0) 0 0 ++ wX4 ct u7 (fun _ _ => 0) (fun _ => 0)) H := hP
  have hD : va_D A ([(h0, .inr (6, [.ref (u3 3), .ref q2, .ref q1, .ref (u5 5), .null, .null]))] ++ wX5 ct u3 f' ++ [(q2, .inr (0, [.ref (u3 3)]))] ++ [(q1, .inr (5, [.ref (u3 3), .ref q2]))] ++ wX2 ct u5 (fun _ _ => 0) 0 0 ++ wX4 ct u7 (fun _ _ => 0) (fun _ => 0)) := hD
  refine z_putF (ty := .object "QuarryOrders$Slots") (C := RX7) (T := TX7) (N := 6) (ci := 6) hx hb hts zin_X7 tyX7 tyX7_ok nmX7 hown hK.1 hP hD hS 0 4 rfl rfl (by decide) tw137 rfl rfl hin rfl (by decide +kernel) rfl rfl (Nat.le_of_ble_eq_true rfl) dX7_init_68 (fun H locs hP hD hS => ?_)
  have hP : va_P D vwCl ([(h0, .inr (6, [.ref (u3 3), .ref q2, .ref q1, .ref (u5 5), .ref (u7 7), .null]))] ++ wX5 ct u3 f' ++ [(q2, .inr (0, [.ref (u3 3)]))] ++ [(q1, .inr (5, [.ref (u3 3), .ref q2]))] ++ wX2 ct u5 (fun _ _ => 0) 0 0 ++ wX4 ct u7 (fun _ _ => 0) (fun _ => 0)) H := hP
  have hD : va_D A ([(h0, .inr (6, [.ref (u3 3), .ref q2, .ref q1, .ref (u5 5), .ref (u7 7), .null]))] ++ wX5 ct u3 f' ++ [(q2, .inr (0, [.ref (u3 3)]))] ++ [(q1, .inr (5, [.ref (u3 3), .ref q2]))] ++ wX2 ct u5 (fun _ _ => 0) 0 0 ++ wX4 ct u7 (fun _ _ => 0) (fun _ => 0)) := hD
  refine lv_aload_n hx hb dX7_init_71 rfl (lv_at hl 0 rfl) ?_
  refine va_new (C := RX3) (T := TX3) (N := 7) (ci := 2) (fs := [.null, .int 0, .int 0, .int 0, .null, .int 0, .int 0]) (Ts := Cond.code yX7_init cX7_init 1 none :: zT) hx hb hts (fun w h => List.mem_cons_of_mem _ (zin_X3 w h)) tyX3 tyX3_ok hown (ok _ tw104) (ok _ tw105) (ok _ tw16) hK.1 hP hD hS hA rfl (fun j hj => match j, hj with | 0, _ => rfl | 1, _ => rfl | 2, _ => rfl | 3, _ => rfl | 4, _ => rfl | 5, _ => rfl | 6, _ => rfl) (Nat.le_of_ble_eq_true rfl) (Nat.le_of_ble_eq_true rfl) dX7_init_72 (fun q9 H hP hD hS => ?_)
  refine lv_dup hx hb dX7_init_75 rfl ?_
  have hP : va_P D vwCl ([(h0, .inr (6, [.ref (u3 3), .ref q2, .ref q1, .ref (u5 5), .ref (u7 7), .null]))] ++ wX5 ct u3 f' ++ [(q2, .inr (0, [.ref (u3 3)]))] ++ [(q1, .inr (5, [.ref (u3 3), .ref q2]))] ++ wX2 ct u5 (fun _ _ => 0) 0 0 ++ wX4 ct u7 (fun _ _ => 0) (fun _ => 0) ++ [(q9, .inr (2, [.null, .int 0, .int 0, .int 0, .null, .int 0, .int 0]))]) H := hP
  have hD : va_D A ([(h0, .inr (6, [.ref (u3 3), .ref q2, .ref q1, .ref (u5 5), .ref (u7 7), .null]))] ++ wX5 ct u3 f' ++ [(q2, .inr (0, [.ref (u3 3)]))] ++ [(q1, .inr (5, [.ref (u3 3), .ref q2]))] ++ wX2 ct u5 (fun _ _ => 0) 0 0 ++ wX4 ct u7 (fun _ _ => 0) (fun _ => 0) ++ [(q9, .inr (2, [.null, .int 0, .int 0, .int 0, .null, .int 0, .int 0]))]) := hD
  refine zH_v (S := Nat → Nat) (w1 := fun u9 => wX3 ct u9 (fun _ => 0) 0 0 0 (fun _ => 0) 0 0) (wc := [(q9, .inr (2, [.null, .int 0, .int 0, .int 0, .null, .int 0, .int 0]))]) hP hD hS hA [19] [0, 1, 2, 3, 4, 5, 6, 7, 8, 9, 10, 11, 12, 13, 14, 15, 16, 17, 18] rfl rfl (by decide) (by decide) (zrIN (As := []) (rest := [.ref q9, .ref h0]) hx hb hml hown hts (nw106 hK.2) mi_X3_init ⟨Nat.le_of_ble_eq_true rfl, Nat.le_of_ble_eq_true rfl⟩ rfl rfl (ct_X3_init l D ct q9 _) (z_wi hK hP hD [19] (by decide) rfl) hl.1 rfl rfl (Nat.le_of_ble_eq_true rfl) dX7_init_76 ⟨(Nat.le_of_ble_eq_true rfl), (Nat.le_of_ble_eq_true rfl)⟩) (fun u9 H locs hu hP hD hS => ?_)
  have hu : u9 10 = q9 := hu
  subst hu
  have hP : va_P D vwCl ([(h0, .inr (6, [.ref (u3 3), .ref q2, .ref q1, .ref (u5 5), .ref (u7 7), .null]))] ++ wX5 ct u3 f' ++ [(q2, .inr (0, [.ref (u3 3)]))] ++ [(q1, .inr (5, [.ref (u3 3), .ref q2]))] ++ wX2 ct u5 (fun _ _ => 0) 0 0 ++ wX4 ct u7 (fun _ _ => 0) (fun _ => 0) ++ wX3 ct u9 (fun _ => 0) 0 0 0 (fun _ => 0) 0 0) H := hP
  have hD : va_D A ([(h0, .inr (6, [.ref (u3 3), .ref q2, .ref q1, .ref (u5 5), .ref (u7 7), .null]))] ++ wX5 ct u3 f' ++ [(q2, .inr (0, [.ref (u3 3)]))] ++ [(q1, .inr (5, [.ref (u3 3), .ref q2]))] ++ wX2 ct u5 (fun _ _ => 0) 0 0 ++ wX4 ct u7 (fun _ _ => 0) (fun _ => 0) ++ wX3 ct u9 (fun _ => 0) 0 0 0 (fun _ => 0) 0 0) := hD
  refine z_putF (ty := .object "QuarryOrders$Pad") (C := RX7) (T := TX7) (N := 6) (ci := 6) hx hb hts zin_X7 tyX7 tyX7_ok nmX7 hown hK.1 hP hD hS 0 5 rfl rfl (by decide) tw138 rfl rfl hin rfl (by decide +kernel) rfl rfl (Nat.le_of_ble_eq_true rfl) dX7_init_79 (fun H locs hP hD hS => ?_)
  have hP : va_P D vwCl ([(h0, .inr (6, [.ref (u3 3), .ref q2, .ref q1, .ref (u5 5), .ref (u7 7), .ref (u9 10)]))] ++ wX5 ct u3 f' ++ [(q2, .inr (0, [.ref (u3 3)]))] ++ [(q1, .inr (5, [.ref (u3 3), .ref q2]))] ++ wX2 ct u5 (fun _ _ => 0) 0 0 ++ wX4 ct u7 (fun _ _ => 0) (fun _ => 0) ++ wX3 ct u9 (fun _ => 0) 0 0 0 (fun _ => 0) 0 0) H := hP
  have hD : va_D A ([(h0, .inr (6, [.ref (u3 3), .ref q2, .ref q1, .ref (u5 5), .ref (u7 7), .ref (u9 10)]))] ++ wX5 ct u3 f' ++ [(q2, .inr (0, [.ref (u3 3)]))] ++ [(q1, .inr (5, [.ref (u3 3), .ref q2]))] ++ wX2 ct u5 (fun _ _ => 0) 0 0 ++ wX4 ct u7 (fun _ _ => 0) (fun _ => 0) ++ wX3 ct u9 (fun _ => 0) 0 0 0 (fun _ => 0) 0 0) := hD
  obtain ⟨v, hv⟩ : ∃ v : Nat → Nat, v = (fun i => if i = 0 then h0 else if i = 1 then q1 else if i = 2 then q2 else if i < 5 then u3 i else if i < 7 then u5 i else if i < 10 then u7 i else if i < 13 then u9 i else if i < 20 then u5 i else u7 i) := ⟨_, rfl⟩
  have e5 : wX2 ct u5 (fun _ _ => 0) 0 0 = wX2 ct v (fun _ _ => 0) 0 0 := by
    have e : (fun i => if i < 7 then some (u5 (13 + i)) else none) = (fun i => if i < 7 then some (v (13 + i)) else none) := by
      funext i
      by_cases hi : i < 7
      · rw [if_pos hi, if_pos hi, hv]
        show some (u5 (13 + i)) = some (if 13 + i = 0 then h0 else if 13 + i = 1 then q1 else if 13 + i = 2 then q2 else if 13 + i < 5 then u3 (13 + i) else if 13 + i < 7 then u5 (13 + i) else if 13 + i < 10 then u7 (13 + i) else if 13 + i < 13 then u9 (13 + i) else if 13 + i < 20 then u5 (13 + i) else u7 (13 + i))
        rw [if_neg (by omega), if_neg (by omega), if_neg (by omega), if_neg (by omega), if_neg (by omega), if_neg (by omega), if_neg (by omega), if_pos (by omega)]
      · rw [if_neg hi, if_neg hi]
    unfold wX2
    rw [e, show v 5 = u5 5 by rw [hv]; rfl, show v 6 = u5 6 by rw [hv]; rfl, show v 13 = u5 13 by rw [hv]; rfl, show v 14 = u5 14 by rw [hv]; rfl, show v 15 = u5 15 by rw [hv]; rfl, show v 16 = u5 16 by rw [hv]; rfl, show v 17 = u5 17 by rw [hv]; rfl, show v 18 = u5 18 by rw [hv]; rfl, show v 19 = u5 19 by rw [hv]; rfl]
  have e7 : wX4 ct u7 (fun _ _ => 0) (fun _ => 0) = wX4 ct v (fun _ _ => 0) (fun _ => 0) := by
    have e : (fun i => if i < 2 then some (u7 (20 + i)) else none) = (fun i => if i < 2 then some (v (20 + i)) else none) := by
      funext i
      by_cases hi : i < 2
      · rw [if_pos hi, if_pos hi, hv]
        show some (u7 (20 + i)) = some (if 20 + i = 0 then h0 else if 20 + i = 1 then q1 else if 20 + i = 2 then q2 else if 20 + i < 5 then u3 (20 + i) else if 20 + i < 7 then u5 (20 + i) else if 20 + i < 10 then u7 (20 + i) else if 20 + i < 13 then u9 (20 + i) else if 20 + i < 20 then u5 (20 + i) else u7 (20 + i))
        rw [if_neg (by omega), if_neg (by omega), if_neg (by omega), if_neg (by omega), if_neg (by omega), if_neg (by omega), if_neg (by omega), if_neg (by omega)]
      · rw [if_neg hi, if_neg hi]
    unfold wX4
    rw [e, show v 7 = u7 7 by rw [hv]; rfl, show v 8 = u7 8 by rw [hv]; rfl, show v 9 = u7 9 by rw [hv]; rfl, show v 20 = u7 20 by rw [hv]; rfl, show v 21 = u7 21 by rw [hv]; rfl]
  rw [e5, e7] at hP hD
  have hw : ([0, 4, 3, 1, 2, 5, 6, 7, 8, 9, 10, 11, 12, 13, 14, 15, 16, 17, 18, 19, 20, 21] : List Nat).map (fun i => ([(h0, .inr (6, [.ref (u3 3), .ref q2, .ref q1, .ref (u5 5), .ref (u7 7), .ref (u9 10)]))] ++ wX5 ct u3 f' ++ [(q2, .inr (0, [.ref (u3 3)]))] ++ [(q1, .inr (5, [.ref (u3 3), .ref q2]))] ++ wX2 ct v (fun _ _ => 0) 0 0 ++ wX4 ct v (fun _ _ => 0) (fun _ => 0) ++ wX3 ct u9 (fun _ => 0) 0 0 0 (fun _ => 0) 0 0)[i]?) = (wX7 ct v f' (fun _ _ => 0) 0 0 (fun _ _ => 0) (fun _ => 0) (fun _ => 0) 0 0 0 (fun _ => 0) 0 0).map some := by
    unfold wX5 wX3
    rw [show h0 = v 0 by rw [hv]; rfl, show q1 = v 1 by rw [hv]; rfl, show q2 = v 2 by rw [hv]; rfl, show u3 3 = v 3 by rw [hv]; rfl, show u3 4 = v 4 by rw [hv]; rfl, show u5 5 = v 5 by rw [hv]; rfl, show u7 7 = v 7 by rw [hv]; rfl, show u9 10 = v 10 by rw [hv]; rfl, show u9 11 = v 11 by rw [hv]; rfl, show u9 12 = v 12 by rw [hv]; rfl]
    rfl
  have hP : va_P D vwCl (wX7 ct v f' (fun _ _ => 0) 0 0 (fun _ _ => 0) (fun _ => 0) (fun _ => 0) 0 0 0 (fun _ => 0) 0 0) H := hP.sub [0, 4, 3, 1, 2, 5, 6, 7, 8, 9, 10, 11, 12, 13, 14, 15, 16, 17, 18, 19, 20, 21] (z_fm hw)
  have hD : va_D A (wX7 ct v f' (fun _ _ => 0) 0 0 (fun _ _ => 0) (fun _ => 0) (fun _ => 0) 0 0 0 (fun _ => 0) 0 0) := hD.sub [0, 4, 3, 1, 2, 5, 6, 7, 8, 9, 10, 11, 12, 13, 14, 15, 16, 17, 18, 19, 20, 21] (by decide) hw
  rw [hAe] at hS hD
  exact zX_n v hx hb hr hlocks hS (by rw [hv]; rfl) (fun t ht => ⟨by rw [ht]; exact hP, hD⟩) (Nat.le_of_ble_eq_true rfl) (Nat.le_of_ble_eq_true rfl) dX7_init_82
