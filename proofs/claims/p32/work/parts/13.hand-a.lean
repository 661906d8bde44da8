/-! THE METHODS OF ROWS: by hand (wip/p32/gen_hand.py) -/
section ZH
variable {p : Program} {l : Launch} {e : Env} {R : Room} {s : State} {m : MethodId} {args : Array Value} {below : List Frame} {meth : Method} {c : Code} {H : Heap} {locs : List Loc} {cells slots : Nat} {Q : State → Prop}
variable {cc : ByteArray} {pc : Nat} {ls : Array Slot} {rest : List Value} {D : va_G} {tys : List (ClassId × FieldType)} {ws : va_W} {A : Nat → Prop} {a : Nat} {H0 : Heap}
theorem zE_r {j : Nat} {ad : Nat → Value} {st0 : List Value} {a : Array Value} (hr : va_Run p l e R s m args below meth c H locs cells slots 0 0 (F0 m pc ls st0) rest (va_Sr (fun i => i = j) ad a) (fun _ => False))
    (kk : W p l e R s m args below meth c H locs cells slots Q (F0 m (pc + 3) ls (ad j :: rest))) : W p l e R s m args below meth c H locs cells slots Q (F0 m pc ls st0) := by
  intro T hT X
  obtain ⟨v, st₀, t, T', L, h0, X', hL, e1, e2, ⟨k, hv, hp, hh⟩, st⟩ := hr T hT X
  cases hv
  subst hp
  obtain ⟨t2, a1, b1⟩ := kk T' (by rw [e1, hh, h0]) (Stand.forget X' (fun q h => (hL q h).elim))
  exact ⟨t2, st t2 a1, b1⟩
/-- a row of an array of rows -/
theorem y_aald (hexec : p.tables.exec = Jvm.exec) (hb : c.code = cc) (hK : zK D tys s) (hP : va_P D vwCl ws H) (q0 t0 j : Nat) {cA : ClassId} {n : Nat} {f : Nat → Option Nat} {y : Nat} (ha : ws[q0]? = some (a, .inl (cA, n, .inr (.inr (.inr (.inr f)))))) (ht : tys[t0]? = some (cA, .array .int)) {i : Int32} (hin : vp_in i n) (hj : i.toNatClampNeg = j) (hf : f j = some y) (hdg : decode cc pc = .ok (.aaload, 1))
    (kk : W p l e R s m args below meth c H locs cells slots Q (F0 m (pc + 1) ls (.ref y :: rest))) : W p l e R s m args below meth c H locs cells slots Q (F0 m pc ls (.int i :: .ref a :: rest)) := by
  subst hj
  have hlt : i.toNatClampNeg < n := Nat.not_le.mp fun q => hin (Or.inr q)
  exact W.aald (v := .ref y) (ty := .array .int) hexec hb (hP q0 _ ha) ((hK.1.2 t0 _ ht).1 n (fun j => va_rf (f j))) rfl (fun q => by cases q) (by show ¬ (i < 0 ∨ (arrV _ _ _).slots.size ≤ _); rw [arrV_size]; exact hin) (by show (arrV _ _ _).slots[_]? = _; rw [arrV_read _ _ hlt, hf]; rfl) rfl rfl hdg kk
end ZH
set_option maxRecDepth 100000 in
set_option maxHeartbeats 4000000 in
theorem ct_X7_copyRow (l : Launch) (D : va_G) (ct : Nat → Nat) (x y : Nat) (f g : Nat → Int32) (sz : Nat) : Met l yX7_copyRow (Cond.code yX7_copyRow cX7_copyRow 2 none :: zT) ({ frames := 1, cells := 0, slots := 0, locals := 40 } : Room) (va_Pc [.ref x, .ref y] (zPW D (zTys ct) ([(x, .inl (ct 0, 344, .inl f)), (y, .inl (ct 0, 344, .inl g))]) sz)) (va_Qv (fun (_ : Unit) => True) (zQW D ([(x, .inl (ct 0, 344, .inl f)), (y, .inl (ct 0, 344, .inl g))]) sz ([(x, .inl (ct 0, 344, .inl f)), (y, .inl (ct 0, 344, .inl (va_cpy f g 0 0 344)))])) (va_A ([(x, .inl (ct 0, 344, .inl f)), (y, .inl (ct 0, 344, .inl g))]) sz)) 0 0 (va_A ([(x, .inl (ct 0, 344, .inl f)), (y, .inl (ct 0, 344, .inl g))]) sz) := by
  refine zMet (cc := cX7_copyRow) (maxL := 2) (ret := none) (av := [.ref x, .ref y]) (by decide) (Nat.le_of_ble_eq_true rfl) (fun p e s m below meth c ls hx hb hr hml hts hown hlocks hin hB hl => ?_)
  have hl : lv_has ls 2 [(0, .ref x), (1, .ref y)] := hl
  have hown : s.vm.findClass RX7 = some m.cls := hown
  obtain ⟨hsz, hP, hK, hD0⟩ := hB
  subst hsz
  have hD := hD0.self (sz := s.heap.size)
  obtain ⟨A, hAe⟩ : ∃ A, A = va_A ([(x, .inl (ct 0, 344, .inl f)), (y, .inl (ct 0, 344, .inl g))]) s.heap.size := ⟨_, rfl⟩
  rw [← hAe] at hD
  have hA : ∀ q : Nat, s.heap.size ≤ q → A q := fun q h => by rw [hAe]; exact Or.inr h
  have hS : va_S A s.heap s.heap [] := va_S.rf
  have ok : ∀ w ∈ zT, w.before _ s = true := fun w h => hts w (List.mem_cons_of_mem _ h)
  refine lv_aload_n hx hb dX7_copyRow_0 rfl (lv_at hl 0 rfl) ?_
  refine lv_ifnull hx hb dX7_copyRow_1 ?_
  refine lv_aload_n hx hb dX7_copyRow_4 rfl (lv_at hl 1 rfl) ?_
  refine lv_ifnull hx hb dX7_copyRow_5 ?_
  refine lv_aload_n hx hb dX7_copyRow_8 rfl (lv_at hl 0 rfl) ?_
  refine y_alen (v := (344 : Int32)) hx hb hK hP 0 0 rfl rfl rfl dX7_copyRow_9 ?_
  refine lv_aload_n hx hb dX7_copyRow_10 rfl (lv_at hl 1 rfl) ?_
  refine y_alen (v := (344 : Int32)) hx hb hK hP 1 0 rfl rfl rfl dX7_copyRow_11 ?_
  refine lv_icmp_ne (tgt := 24) hx hb dX7_copyRow_12 (by decide) (fun q => absurd rfl q) (fun _ => ?_)
  refine lv_aload_n hx hb dX7_copyRow_15 rfl (lv_at hl 0 rfl) ?_
  refine lv_iconst (v := (0 : Int32)) hx hb dX7_copyRow_16 (by decide) ?_
  refine lv_aload_n hx hb dX7_copyRow_17 rfl (lv_at hl 1 rfl) ?_
  refine lv_iconst (v := (0 : Int32)) hx hb dX7_copyRow_18 (by decide) ?_
  refine lv_aload_n hx hb dX7_copyRow_19 rfl (lv_at hl 0 rfl) ?_
  refine y_alen (v := (344 : Int32)) hx hb hK hP 0 0 rfl rfl rfl dX7_copyRow_20 ?_
  refine va_copyi hx hb (hml.trans hl.1.symm) hown (ok _ tw247) (ok _ tw249) (ok _ tw248) (ok _ tw19) hK.1 hP hD hS 0 1 0 0 rfl rfl rfl rfl rfl (by decide) (by decide) (by decide) (by decide) (by decide) (fun i _ => rfl) (Nat.le_of_ble_eq_true rfl) (Nat.le_of_ble_eq_true rfl) dX7_copyRow_21 (fun H locs hP hD hS => ?_)
  have hP : va_P D vwCl ([(x, .inl (ct 0, 344, .inl f)), (y, .inl (ct 0, 344, .inl (va_cpy f g 0 0 344)))]) H := hP
  have hD : va_D A ([(x, .inl (ct 0, 344, .inl f)), (y, .inl (ct 0, 344, .inl (va_cpy f g 0 0 344)))]) := hD
  exact zX_v hx hb hr hlocks hP hD hS hAe dX7_copyRow_24
set_option maxRecDepth 100000 in
set_option maxHeartbeats 4000000 in
theorem ct_X5_copyTo (l : Launch) (D : va_G) (ct a : Nat → Nat) (f : Nat → Int32) (y : Nat) (g : Nat → Int32) (sz : Nat) : Met l yX5_copyTo (Cond.code yX5_copyTo cX5_copyTo 2 none :: zT) ({ frames := 2, cells := 0, slots := 0, locals := 61 } : Room) (va_Pc [.ref (a 3), .ref y] (zPW D (zTys ct) (wX5 ct a f ++ [(y, .inl (ct 0, 344, .inl g))]) sz)) (va_Qv (fun (_ : Unit) => True) (zQW D (wX5 ct a f ++ [(y, .inl (ct 0, 344, .inl g))]) sz (wX5 ct a f ++ [(y, .inl (ct 0, 344, .inl (va_cpy f g 0 0 344)))])) (va_A (wX5 ct a f ++ [(y, .inl (ct 0, 344, .inl g))]) sz)) 0 0 (va_A (wX5 ct a f ++ [(y, .inl (ct 0, 344, .inl g))]) sz) := by
  refine zMet (cc := cX5_copyTo) (maxL := 2) (ret := none) (av := [.ref (a 3), .ref y]) (by decide) (Nat.le_of_ble_eq_true rfl) (fun p e s m below meth c ls hx hb hr hml hts hown hlocks hin hB hl => ?_)
  have hl : lv_has ls 2 [(0, .ref (a 3)), (1, .ref y)] := hl
  have hown : s.vm.findClass RX5 = some m.cls := hown
  obtain ⟨hsz, hP, hK, hD0⟩ := hB
  subst hsz
  have hD := hD0.self (sz := s.heap.size)
  obtain ⟨A, hAe⟩ : ∃ A, A = va_A (wX5 ct a f ++ [(y, .inl (ct 0, 344, .inl g))]) s.heap.size := ⟨_, rfl⟩
  rw [← hAe] at hD
  have hA : ∀ q : Nat, s.heap.size ≤ q → A q := fun q h => by rw [hAe]; exact Or.inr h
  have hS : va_S A s.heap s.heap [] := va_S.rf
  refine lv_aload_n hx hb dX5_copyTo_0 rfl (lv_at hl 0 rfl) ?_
  refine z_get (C := RX5) (T := TX5) (N := 1) (ci := 4) hx hb hts zin_X5 hown hK.1 hP 0 0 rfl rfl (by decide) tw43 rfl rfl dX5_copyTo_1 ?_
  refine lv_aload_n hx hb dX5_copyTo_4 rfl (lv_at hl 1 rfl) ?_
  refine zG_v (w1 := [(a 4, .inl (ct 0, 344, .inl f)), (y, .inl (ct 0, 344, .inl (va_cpy f g 0 0 344)))]) (ws' := wX5 ct a f ++ [(y, .inl (ct 0, 344, .inl (va_cpy f g 0 0 344)))]) hP hD hS hA [1, 2] [0] [0, 1, 2] rfl rfl (by decide) (by decide) rfl (by decide) (zrN (As := [.ref (a 4), .ref y]) (rest := []) hx hb hml hown hts (nw244 hK.2) ms_X7_copyRow ⟨Nat.le_of_ble_eq_true rfl, Nat.le_of_ble_eq_true rfl⟩ rfl rfl (ct_X7_copyRow l D ct (a 4) y f g _) (z_ws hK hP hD [1, 2] (by decide) rfl) hl.1 rfl rfl (Nat.le_of_ble_eq_true rfl) dX5_copyTo_5 ⟨Nat.le_refl _, Nat.le_refl _⟩) (fun H locs hP hD hS => ?_)
  exact zX_v hx hb hr hlocks hP hD hS hAe dX5_copyTo_8
set_option maxRecDepth 100000 in
set_option maxHeartbeats 4000000 in
theorem ct_X5_copyFrom (l : Launch) (D : va_G) (ct a : Nat → Nat) (f : Nat → Int32) (y : Nat) (g : Nat → Int32) (sz : Nat) : Met l yX5_copyFrom (Cond.code yX5_copyFrom cX5_copyFrom 2 none :: zT) ({ frames := 2, cells := 0, slots := 0, locals := 61 } : Room) (va_Pc [.ref (a 3), .ref y] (zPW D (zTys ct) (wX5 ct a f ++ [(y, .inl (ct 0, 344, .inl g))]) sz)) (va_Qv (fun (_ : Unit) => True) (zQW D (wX5 ct a f ++ [(y, .inl (ct 0, 344, .inl g))]) sz (wX5 ct a (va_cpy g f 0 0 344) ++ [(y, .inl (ct 0, 344, .inl g))])) (va_A (wX5 ct a f ++ [(y, .inl (ct 0, 344, .inl g))]) sz)) 0 0 (va_A (wX5 ct a f ++ [(y, .inl (ct 0, 344, .inl g))]) sz) := by
  refine zMet (cc := cX5_copyFrom) (maxL := 2) (ret := none) (av := [.ref (a 3), .ref y]) (by decide) (Nat.le_of_ble_eq_true rfl) (fun p e s m below meth c ls hx hb hr hml hts hown hlocks hin hB hl => ?_)
  have hl : lv_has ls 2 [(0, .ref (a 3)), (1, .ref y)] := hl
  have hown : s.vm.findClass RX5 = some m.cls := hown
  obtain ⟨hsz, hP, hK, hD0⟩ := hB
  subst hsz
  have hD := hD0.self (sz := s.heap.size)
  obtain ⟨A, hAe⟩ : ∃ A, A = va_A (wX5 ct a f ++ [(y, .inl (ct 0, 344, .inl g))]) s.heap.size := ⟨_, rfl⟩
  rw [← hAe] at hD
  have hA : ∀ q : Nat, s.heap.size ≤ q → A q := fun q h => by rw [hAe]; exact Or.inr h
  have hS : va_S A s.heap s.heap [] := va_S.rf
  refine lv_aload_n hx hb dX5_copyFrom_0 rfl (lv_at hl 1 rfl) ?_
  refine lv_aload_n hx hb dX5_copyFrom_1 rfl (lv_at hl 0 rfl) ?_
  refine z_get (C := RX5) (T := TX5) (N := 1) (ci := 4) hx hb hts zin_X5 hown hK.1 hP 0 0 rfl rfl (by decide) tw43 rfl rfl dX5_copyFrom_2 ?_
  refine zG_v (w1 := [(y, .inl (ct 0, 344, .inl g)), (a 4, .inl (ct 0, 344, .inl (va_cpy g f 0 0 344)))]) (ws' := wX5 ct a (va_cpy g f 0 0 344) ++ [(y, .inl (ct 0, 344, .inl g))]) hP hD hS hA [2, 1] [0] [0, 2, 1] rfl rfl (by decide) (by decide) rfl (by decide) (zrN (As := [.ref y, .ref (a 4)]) (rest := []) hx hb hml hown hts (nw244 hK.2) ms_X7_copyRow ⟨Nat.le_of_ble_eq_true rfl, Nat.le_of_ble_eq_true rfl⟩ rfl rfl (ct_X7_copyRow l D ct y (a 4) g f _) (z_ws hK hP hD [2, 1] (by decide) rfl) hl.1 rfl rfl (Nat.le_of_ble_eq_true rfl) dX5_copyFrom_5 ⟨Nat.le_refl _, Nat.le_refl _⟩) (fun H locs hP hD hS => ?_)
  exact zX_v hx hb hr hlocks hP hD hS hAe dX5_copyFrom_8
set_option maxRecDepth 100000 in
set_option maxHeartbeats 4000000 in
theorem ct_X2_nextRow (l : Launch) (D : va_G) (ct a : Nat → Nat) (g : Nat → Nat → Int32) (hz : Int32) (j : Nat) (hj : j < 7) : Met l yX2_nextRow (Cond.code yX2_nextRow cX2_nextRow 1 (some (.array .int)) :: zT) ({ frames := 0, cells := 0, slots := 0, locals := 0 } : Room) (va_Pc [.ref (a 5)] (zPR D (zTys ct) (wX2 ct a g (nI j) hz))) (va_Sr (fun i => i = j) (fun i => .ref (a (13 + i)))) 0 0 (fun _ => False) := by
  refine zMet (cc := cX2_nextRow) (maxL := 1) (ret := (some (.array .int))) (av := [.ref (a 5)]) (by decide) (Nat.le_of_ble_eq_true rfl) (fun p e s m below meth c ls hx hb hr hml hts hown hlocks hin hB hl => ?_)
  have hl : lv_has ls 1 [(0, .ref (a 5))] := hl
  have hown : s.vm.findClass RX2 = some m.cls := hown
  obtain ⟨hP, hK⟩ := hB
  refine lv_aload_n hx hb dX2_nextRow_0 rfl (lv_at hl 0 rfl) ?_
  refine z_get (C := RX2) (T := TX2) (N := 3) (ci := 1) hx hb hts zin_X2 hown hK.1 hP 0 1 rfl rfl (by decide) tw80 rfl rfl dX2_nextRow_1 ?_
  refine lv_if_lt (tgt := 31) hx hb dX2_nextRow_4 (by decide) (fun q => absurd q (nI_pos (by omega))) (fun _ => ?_)
  refine lv_aload_n hx hb dX2_nextRow_7 rfl (lv_at hl 0 rfl) ?_
  refine z_get (C := RX2) (T := TX2) (N := 3) (ci := 1) hx hb hts zin_X2 hown hK.1 hP 0 1 rfl rfl (by decide) tw80 rfl rfl dX2_nextRow_8 ?_
  refine lv_aload_n hx hb dX2_nextRow_11 rfl (lv_at hl 0 rfl) ?_
  refine z_get (C := RX2) (T := TX2) (N := 3) (ci := 1) hx hb hts zin_X2 hown hK.1 hP 0 0 rfl rfl (by decide) tw79 rfl rfl dX2_nextRow_12 ?_
  refine y_alen (v := (7 : Int32)) hx hb hK hP 1 3 rfl rfl rfl dX2_nextRow_15 ?_
  refine lv_icmp_ge (tgt := 31) hx hb dX2_nextRow_16 (by decide) (fun q => absurd q (nI_ge (b := 7) hj (by decide))) (fun _ => ?_)
  refine lv_aload_n hx hb dX2_nextRow_19 rfl (lv_at hl 0 rfl) ?_
  refine z_get (C := RX2) (T := TX2) (N := 3) (ci := 1) hx hb hts zin_X2 hown hK.1 hP 0 0 rfl rfl (by decide) tw79 rfl rfl dX2_nextRow_20 ?_
  refine lv_aload_n hx hb dX2_nextRow_23 rfl (lv_at hl 0 rfl) ?_
  refine z_get (C := RX2) (T := TX2) (N := 3) (ci := 1) hx hb hts zin_X2 hown hK.1 hP 0 1 rfl rfl (by decide) tw80 rfl rfl dX2_nextRow_24 ?_
  refine y_aald hx hb hK hP 1 3 j rfl rfl (vp_in_nI hj (by decide)) (nI_clamp (by omega)) (if_pos hj) dX2_nextRow_27 ?_
  refine lv_goto (tgt := 32) hx hb dX2_nextRow_28 (by decide) ?_
  exact W.aret hx hb hr (Or.inr ⟨_, rfl⟩) (Or.inr ⟨_, rfl⟩) (fun t ht _ => ⟨j, rfl, rfl, ht⟩) (fun _ q => absurd q List.not_mem_nil) dX2_nextRow_32 hlocks
set_option maxRecDepth 100000 in
set_option maxHeartbeats 4000000 in
theorem zNoteRow {p : Program} {l : Launch} {e : Env} {R : Room} {s : State} {m : MethodId} {args : Array Value} {below : List Frame} {meth : Method} {c : Code} {H : Heap} {locs : List Loc} {Q : State → Prop} {cc : ByteArray} {pc nL i1 i2 : Nat} {ls : Array Slot} {rest : List Value} {D : va_G} {ct a : Nat → Nat} {A : Nat → Prop} {H0 : Heap} {g : Nat → Nat → Int32} {nx hz : Int32} {f : Nat → Int32} {a0 : Cond} (hx : p.tables.exec = Jvm.exec) (hb : c.code = cc) (hml : c.maxLocals = nL) (hown : s.vm.findClass RX2 = some m.cls) (hts : ∀ w ∈ a0 :: zT, w.before args s = true) (hk1 : Cond.methodLink RX2 i1 yX2_nextRow ∈ zT) (hk2 : Cond.methodLink RX2 i2 yX5_copyTo ∈ zT) (hR1 : 1 ≤ R.frames ∧ 20 ≤ R.locals) (hR : 3 ≤ R.frames ∧ 82 ≤ R.locals) (hK : zK D (zTys ct) s) (hP : va_P D vwCl (wX2 ct a g nx hz ++ wX5 ct a f) H) (hD : va_D A (wX2 ct a g nx hz ++ wX5 ct a f)) (hS : va_S A H0 H locs) (hA : ∀ q, H0.size ≤ q → A q) (hn : zin nx 7 = true) (hl : ls.size = nL) (hW : rest.length ≤ 4) (hW2 : (rest.map fun v => v.category).sum ≤ 4) (hd1 : decode cc pc = .ok (.invokevirtual i1, 3)) (hd2 : decode cc (pc + 3) = .ok (.invokevirtual i2, 3))
    (kk : ∀ (H1 : Heap) (locs1 : List Loc), va_P D vwCl (wX2 ct a (fun i => if i = nx.toNatClampNeg then va_cpy f (g i) 0 0 344 else g i) nx hz ++ wX5 ct a f) H1 → va_D A (wX2 ct a (fun i => if i = nx.toNatClampNeg then va_cpy f (g i) 0 0 344 else g i) nx hz ++ wX5 ct a f) → va_S A H0 H1 locs1 → W p l e R s m args below meth c H1 locs1 0 0 Q (F0 m (pc + 3 + 3) ls rest)) : W p l e R s m args below meth c H locs 0 0 Q (F0 m pc ls (.ref (a 5) :: .ref (a 3) :: rest)) := by
  obtain ⟨j, hj, rfl⟩ := vp_in_of (zin_s hn) (by decide)
  have hcl : (nI j).toNatClampNeg = j := nI_clamp (by omega)
  rw [hcl] at kk
  refine zE_r (zrV (C := RX2) (As := []) (rest := .ref (a 3) :: rest) hx hb hml hown hts hk1 mv_X2_nextRow ⟨by show 0 + 1 ≤ _; omega, by show 8 + (1 + 11) + 0 ≤ _; omega⟩ rfl rfl (ct_X2_nextRow l D ct a g hz j hj) (z_pv hK hP [0, 1, 2, 3, 4, 5, 6, 7, 8] rfl 0 rfl rfl) hl rfl rfl (by rw [List.map_cons, List.sum_cons]; show 1 + _ ≤ 8; omega) hd1 ⟨Nat.zero_le _, Nat.zero_le _⟩) ?_
  rcases (show j = 0 ∨ j = 1 ∨ j = 2 ∨ j = 3 ∨ j = 4 ∨ j = 5 ∨ j = 6 by omega) with rfl | rfl | rfl | rfl | rfl | rfl | rfl
  · refine zG_v (w1 := wX5 ct a f ++ [(a 13, .inl (ct 0, 344, .inl (va_cpy f (g 0) 0 0 344)))]) (ws' := wX2 ct a (fun i => if i = 0 then va_cpy f (g i) 0 0 344 else g i) (nI 0) hz ++ wX5 ct a f) hP hD hS hA [9, 10, 2] [0, 1, 3, 4, 5, 6, 7, 8] [0, 1, 10, 2, 3, 4, 5, 6, 7, 8, 9] rfl rfl (by decide) (by decide) rfl (by decide) (zrV (C := RX5) (As := [.ref (a 13)]) (rest := rest) hx hb hml hown hts hk2 mv_X5_copyTo ⟨by show 2 + 1 ≤ _; omega, by show 8 + (2 + 11) + 61 ≤ _; omega⟩ rfl rfl (ct_X5_copyTo l D ct a f (a 13) (g 0) _) (z_wv hK hP hD [9, 10, 2] (by decide) rfl 9 rfl rfl) hl rfl rfl (by omega) hd2 ⟨Nat.zero_le _, Nat.zero_le _⟩) (fun H locs hP hD hS => ?_)
    exact kk H locs hP hD hS
  · refine zG_v (w1 := wX5 ct a f ++ [(a 14, .inl (ct 0, 344, .inl (va_cpy f (g 1) 0 0 344)))]) (ws' := wX2 ct a (fun i => if i = 1 then va_cpy f (g i) 0 0 344 else g i) (nI 1) hz ++ wX5 ct a f) hP hD hS hA [9, 10, 3] [0, 1, 2, 4, 5, 6, 7, 8] [0, 1, 2, 10, 3, 4, 5, 6, 7, 8, 9] rfl rfl (by decide) (by decide) rfl (by decide) (zrV (C := RX5) (As := [.ref (a 14)]) (rest := rest) hx hb hml hown hts hk2 mv_X5_copyTo ⟨by show 2 + 1 ≤ _; omega, by show 8 + (2 + 11) + 61 ≤ _; omega⟩ rfl rfl (ct_X5_copyTo l D ct a f (a 14) (g 1) _) (z_wv hK hP hD [9, 10, 3] (by decide) rfl 9 rfl rfl) hl rfl rfl (by omega) hd2 ⟨Nat.zero_le _, Nat.zero_le _⟩) (fun H locs hP hD hS => ?_)
    exact kk H locs hP hD hS
  · refine zG_v (w1 := wX5 ct a f ++ [(a 15, .inl (ct 0, 344, .inl (va_cpy f (g 2) 0 0 344)))]) (ws' := wX2 ct a (fun i => if i = 2 then va_cpy f (g i) 0 0 344 else g i) (nI 2) hz ++ wX5 ct a f) hP hD hS hA [9, 10, 4] [0, 1, 2, 3, 5, 6, 7, 8] [0, 1, 2, 3, 10, 4, 5, 6, 7, 8, 9] rfl rfl (by decide) (by decide) rfl (by decide) (zrV (C := RX5) (As := [.ref (a 15)]) (rest := rest) hx hb hml hown hts hk2 mv_X5_copyTo ⟨by show 2 + 1 ≤ _; omega, by show 8 + (2 + 11) + 61 ≤ _; omega⟩ rfl rfl (ct_X5_copyTo l D ct a f (a 15) (g 2) _) (z_wv hK hP hD [9, 10, 4] (by decide) rfl 9 rfl rfl) hl rfl rfl (by omega) hd2 ⟨Nat.zero_le _, Nat.zero_le _⟩) (fun H locs hP hD hS => ?_)
    exact kk H locs hP hD hS
  · refine zG_v (w1 := wX5 ct a f ++ [(a 16, .inl (ct 0, 344, .inl (va_cpy f (g 3) 0 0 344)))]) (ws' := wX2 ct a (fun i => if i = 3 then va_cpy f (g i) 0 0 344 else g i) (nI 3) hz ++ wX5 ct a f) hP hD hS hA [9, 10, 5] [0, 1, 2, 3, 4, 6, 7, 8] [0, 1, 2, 3, 4, 10, 5, 6, 7, 8, 9] rfl rfl (by decide) (by decide) rfl (by decide) (zrV (C := RX5) (As := [.ref (a 16)]) (rest := rest) hx hb hml hown hts hk2 mv_X5_copyTo ⟨by show 2 + 1 ≤ _; omega, by show 8 + (2 + 11) + 61 ≤ _; omega⟩ rfl rfl (ct_X5_copyTo l D ct a f (a 16) (g 3) _) (z_wv hK hP hD [9, 10, 5] (by decide) rfl 9 rfl rfl) hl rfl rfl (by omega) hd2 ⟨Nat.zero_le _, Nat.zero_le _⟩) (fun H locs hP hD hS => ?_)
    exact kk H locs hP hD hS
  · refine zG_v (w1 := wX5 ct a f ++ [(a 17, .inl (ct 0, 344, .inl (va_cpy f (g 4) 0 0 344)))]) (ws' := wX2 ct a (fun i => if i = 4 then va_cpy f (g i) 0 0 344 else g i) (nI 4) hz ++ wX5 ct a f) hP hD hS hA [9, 10, 6] [0, 1, 2, 3, 4, 5, 7, 8] [0, 1, 2, 3, 4, 5, 10, 6, 7, 8, 9] rfl rfl (by decide) (by decide) rfl (by decide) (zrV (C := RX5) (As := [.ref (a 17)]) (rest := rest) hx hb hml hown hts hk2 mv_X5_copyTo ⟨by show 2 + 1 ≤ _; omega, by show 8 + (2 + 11) + 61 ≤ _; omega⟩ rfl rfl (ct_X5_copyTo l D ct a f (a 17) (g 4) _) (z_wv hK hP hD [9, 10, 6] (by decide) rfl 9 rfl rfl) hl rfl rfl (by omega) hd2 ⟨Nat.zero_le _, Nat.zero_le _⟩) (fun H locs hP hD hS => ?_)
    exact kk H locs hP hD hS
  · refine zG_v (w1 := wX5 ct a f ++ [(a 18, .inl (ct 0, 344, .inl (va_cpy f (g 5) 0 0 344)))]) (ws' := wX2 ct a (fun i => if i = 5 then va_cpy f (g i) 0 0 344 else g i) (nI 5) hz ++ wX5 ct a f) hP hD hS hA [9, 10, 7] [0, 1, 2, 3, 4, 5, 6, 8] [0, 1, 2, 3, 4, 5, 6, 10, 7, 8, 9] rfl rfl (by decide) (by decide) rfl (by decide) (zrV (C := RX5) (As := [.ref (a 18)]) (rest := rest) hx hb hml hown hts hk2 mv_X5_copyTo ⟨by show 2 + 1 ≤ _; omega, by show 8 + (2 + 11) + 61 ≤ _; omega⟩ rfl rfl (ct_X5_copyTo l D ct a f (a 18) (g 5) _) (z_wv hK hP hD [9, 10, 7] (by decide) rfl 9 rfl rfl) hl rfl rfl (by omega) hd2 ⟨Nat.zero_le _, Nat.zero_le _⟩) (fun H locs hP hD hS => ?_)
    exact kk H locs hP hD hS
  · refine zG_v (w1 := wX5 ct a f ++ [(a 19, .inl (ct 0, 344, .inl (va_cpy f (g 6) 0 0 344)))]) (ws' := wX2 ct a (fun i => if i = 6 then va_cpy f (g i) 0 0 344 else g i) (nI 6) hz ++ wX5 ct a f) hP hD hS hA [9, 10, 8] [0, 1, 2, 3, 4, 5, 6, 7] [0, 1, 2, 3, 4, 5, 6, 7, 10, 8, 9] rfl rfl (by decide) (by decide) rfl (by decide) (zrV (C := RX5) (As := [.ref (a 19)]) (rest := rest) hx hb hml hown hts hk2 mv_X5_copyTo ⟨by show 2 + 1 ≤ _; omega, by show 8 + (2 + 11) + 61 ≤ _; omega⟩ rfl rfl (ct_X5_copyTo l D ct a f (a 19) (g 6) _) (z_wv hK hP hD [9, 10, 8] (by decide) rfl 9 rfl rfl) hl rfl rfl (by omega) hd2 ⟨Nat.zero_le _, Nat.zero_le _⟩) (fun H locs hP hD hS => ?_)
    exact kk H locs hP hD hS
set_option maxRecDepth 100000 in
set_option maxHeartbeats 4000000 in
theorem zBackRow {p : Program} {l : Launch} {e : Env} {R : Room} {s : State} {m : MethodId} {args : Array Value} {below : List Frame} {meth : Method} {c : Code} {H : Heap} {locs : List Loc} {Q : State → Prop} {cc : ByteArray} {pc nL i1 i2 : Nat} {ls : Array Slot} {rest : List Value} {D : va_G} {ct a : Nat → Nat} {A : Nat → Prop} {H0 : Heap} {g : Nat → Nat → Int32} {nx hz : Int32} {f : Nat → Int32} {a0 : Cond} (hx : p.tables.exec = Jvm.exec) (hb : c.code = cc) (hml : c.maxLocals = nL) (hown : s.vm.findClass RX2 = some m.cls) (hts : ∀ w ∈ a0 :: zT, w.before args s = true) (hk1 : Cond.methodLink RX2 i1 yX2_nextRow ∈ zT) (hk2 : Cond.methodLink RX2 i2 yX5_copyFrom ∈ zT) (hR1 : 1 ≤ R.frames ∧ 20 ≤ R.locals) (hR : 3 ≤ R.frames ∧ 82 ≤ R.locals) (hK : zK D (zTys ct) s) (hP : va_P D vwCl (wX2 ct a g nx hz ++ wX5 ct a f) H) (hD : va_D A (wX2 ct a g nx hz ++ wX5 ct a f)) (hS : va_S A H0 H locs) (hA : ∀ q, H0.size ≤ q → A q) (hn : zin nx 7 = true) (hl : ls.size = nL) (hW : rest.length ≤ 4) (hW2 : (rest.map fun v => v.category).sum ≤ 4) (hd1 : decode cc pc = .ok (.invokevirtual i1, 3)) (hd2 : decode cc (pc + 3) = .ok (.invokevirtual i2, 3))
    (kk : ∀ (H1 : Heap) (locs1 : List Loc), va_P D vwCl (wX2 ct a g nx hz ++ wX5 ct a (va_cpy (g nx.toNatClampNeg) f 0 0 344)) H1 → va_D A (wX2 ct a g nx hz ++ wX5 ct a (va_cpy (g nx.toNatClampNeg) f 0 0 344)) → va_S A H0 H1 locs1 → W p l e R s m args below meth c H1 locs1 0 0 Q (F0 m (pc + 3 + 3) ls rest)) : W p l e R s m args below meth c H locs 0 0 Q (F0 m pc ls (.ref (a 5) :: .ref (a 3) :: rest)) := by
  obtain ⟨j, hj, rfl⟩ := vp_in_of (zin_s hn) (by decide)
  have hcl : (nI j).toNatClampNeg = j := nI_clamp (by omega)
  rw [hcl] at kk
  refine zE_r (zrV (C := RX2) (As := []) (rest := .ref (a 3) :: rest) hx hb hml hown hts hk1 mv_X2_nextRow ⟨by show 0 + 1 ≤ _; omega, by show 8 + (1 + 11) + 0 ≤ _; omega⟩ rfl rfl (ct_X2_nextRow l D ct a g hz j hj) (z_pv hK hP [0, 1, 2, 3, 4, 5, 6, 7, 8] rfl 0 rfl rfl) hl rfl rfl (by rw [List.map_cons, List.sum_cons]; show 1 + _ ≤ 8; omega) hd1 ⟨Nat.zero_le _, Nat.zero_le _⟩) ?_
  rcases (show j = 0 ∨ j = 1 ∨ j = 2 ∨ j = 3 ∨ j = 4 ∨ j = 5 ∨ j = 6 by omega) with rfl | rfl | rfl | rfl | rfl | rfl | rfl
  · refine zG_v (w1 := wX5 ct a (va_cpy (g 0) f 0 0 344) ++ [(a 13, .inl (ct 0, 344, .inl (g 0)))]) (ws' := wX2 ct a g (nI 0) hz ++ wX5 ct a (va_cpy (g 0) f 0 0 344)) hP hD hS hA [9, 10, 2] [0, 1, 3, 4, 5, 6, 7, 8] [0, 1, 10, 2, 3, 4, 5, 6, 7, 8, 9] rfl rfl (by decide) (by decide) rfl (by decide) (zrV (C := RX5) (As := [.ref (a 13)]) (rest := rest) hx hb hml hown hts hk2 mv_X5_copyFrom ⟨by show 2 + 1 ≤ _; omega, by show 8 + (2 + 11) + 61 ≤ _; omega⟩ rfl rfl (ct_X5_copyFrom l D ct a f (a 13) (g 0) _) (z_wv hK hP hD [9, 10, 2] (by decide) rfl 9 rfl rfl) hl rfl rfl (by omega) hd2 ⟨Nat.zero_le _, Nat.zero_le _⟩) (fun H locs hP hD hS => ?_)
    exact kk H locs hP hD hS
  · refine zG_v (w1 := wX5 ct a (va_cpy (g 1) f 0 0 344) ++ [(a 14, .inl (ct 0, 344, .inl (g 1)))]) (ws' := wX2 ct a g (nI 1) hz ++ wX5 ct a (va_cpy (g 1) f 0 0 344)) hP hD hS hA [9, 10, 3] [0, 1, 2, 4, 5, 6, 7, 8] [0, 1, 2, 10, 3, 4, 5, 6, 7, 8, 9] rfl rfl (by decide) (by decide) rfl (by decide) (zrV (C := RX5) (As := [.ref (a 14)]) (rest := rest) hx hb hml hown hts hk2 mv_X5_copyFrom ⟨by show 2 + 1 ≤ _; omega, by show 8 + (2 + 11) + 61 ≤ _; omega⟩ rfl rfl (ct_X5_copyFrom l D ct a f (a 14) (g 1) _) (z_wv hK hP hD [9, 10, 3] (by decide) rfl 9 rfl rfl) hl rfl rfl (by omega) hd2 ⟨Nat.zero_le _, Nat.zero_le _⟩) (fun H locs hP hD hS => ?_)
    exact kk H locs hP hD hS
  · refine zG_v (w1 := wX5 ct a (va_cpy (g 2) f 0 0 344) ++ [(a 15, .inl (ct 0, 344, .inl (g 2)))]) (ws' := wX2 ct a g (nI 2) hz ++ wX5 ct a (va_cpy (g 2) f 0 0 344)) hP hD hS hA [9, 10, 4] [0, 1, 2, 3, 5, 6, 7, 8] [0, 1, 2, 3, 10, 4, 5, 6, 7, 8, 9] rfl rfl (by decide) (by decide) rfl (by decide) (zrV (C := RX5) (As := [.ref (a 15)]) (rest := rest) hx hb hml hown hts hk2 mv_X5_copyFrom ⟨by show 2 + 1 ≤ _; omega, by show 8 + (2 + 11) + 61 ≤ _; omega⟩ rfl rfl (ct_X5_copyFrom l D ct a f (a 15) (g 2) _) (z_wv hK hP hD [9, 10, 4] (by decide) rfl 9 rfl rfl) hl rfl rfl (by omega) hd2 ⟨Nat.zero_le _, Nat.zero_le _⟩) (fun H locs hP hD hS => ?_)
    exact kk H locs hP hD hS
  · refine zG_v (w1 := wX5 ct a (va_cpy (g 3) f 0 0 344) ++ [(a 16, .inl (ct 0, 344, .inl (g 3)))]) (ws' := wX2 ct a g (nI 3) hz ++ wX5 ct a (va_cpy (g 3) f 0 0 344)) hP hD hS hA [9, 10, 5] [0, 1, 2, 3, 4, 6, 7, 8] [0, 1, 2, 3, 4, 10, 5, 6, 7, 8, 9] rfl rfl (by decide) (by decide) rfl (by decide) (zrV (C := RX5) (As := [.ref (a 16)]) (rest := rest) hx hb hml hown hts hk2 mv_X5_copyFrom ⟨by show 2 + 1 ≤ _; omega, by show 8 + (2 + 11) + 61 ≤ _; omega⟩ rfl rfl (ct_X5_copyFrom l D ct a f (a 16) (g 3) _) (z_wv hK hP hD [9, 10, 5] (by decide) rfl 9 rfl rfl) hl rfl rfl (by omega) hd2 ⟨Nat.zero_le _, Nat.zero_le _⟩) (fun H locs hP hD hS => ?_)
    exact kk H locs hP hD hS
  · refine zG_v (w1 := wX5 ct a (va_cpy (g 4) f 0 0 344) ++ [(a 17, .inl (ct 0, 344, .inl (g 4)))]) (ws' := wX2 ct a g (nI 4) hz ++ wX5 ct a (va_cpy (g 4) f 0 0 344)) hP hD hS hA [9, 10, 6] [0, 1, 2, 3, 4, 5, 7, 8] [0, 1, 2, 3, 4, 5, 10, 6, 7, 8, 9] rfl rfl (by decide) (by decide) rfl (by decide) (zrV (C := RX5) (As := [.ref (a 17)]) (rest := rest) hx hb hml hown hts hk2 mv_X5_copyFrom ⟨by show 2 + 1 ≤ _; omega, by show 8 + (2 + 11) + 61 ≤ _; omega⟩ rfl rfl (ct_X5_copyFrom l D ct a f (a 17) (g 4) _) (z_wv hK hP hD [9, 10, 6] (by decide) rfl 9 rfl rfl) hl rfl rfl (by omega) hd2 ⟨Nat.zero_le _, Nat.zero_le _⟩) (fun H locs hP hD hS => ?_)
    exact kk H locs hP hD hS
  · refine zG_v (w1 := wX5 ct a (va_cpy (g 5) f 0 0 344) ++ [(a 18, .inl (ct 0, 344, .inl (g 5)))]) (ws' := wX2 ct a g (nI 5) hz ++ wX5 ct a (va_cpy (g 5) f 0 0 344)) hP hD hS hA [9, 10, 7] [0, 1, 2, 3, 4, 5, 6, 8] [0, 1, 2, 3, 4, 5, 6, 10, 7, 8, 9] rfl rfl (by decide) (by decide) rfl (by decide) (zrV (C := RX5) (As := [.ref (a 18)]) (rest := rest) hx hb hml hown hts hk2 mv_X5_copyFrom ⟨by show 2 + 1 ≤ _; omega, by show 8 + (2 + 11) + 61 ≤ _; omega⟩ rfl rfl (ct_X5_copyFrom l D ct a f (a 18) (g 5) _) (z_wv hK hP hD [9, 10, 7] (by decide) rfl 9 rfl rfl) hl rfl rfl (by omega) hd2 ⟨Nat.zero_le _, Nat.zero_le _⟩) (fun H locs hP hD hS => ?_)
    exact kk H locs hP hD hS
  · refine zG_v (w1 := wX5 ct a (va_cpy (g 6) f 0 0 344) ++ [(a 19, .inl (ct 0, 344, .inl (g 6)))]) (ws' := wX2 ct a g (nI 6) hz ++ wX5 ct a (va_cpy (g 6) f 0 0 344)) hP hD hS hA [9, 10, 8] [0, 1, 2, 3, 4, 5, 6, 7] [0, 1, 2, 3, 4, 5, 6, 7, 10, 8, 9] rfl rfl (by decide) (by decide) rfl (by decide) (zrV (C := RX5) (As := [.ref (a 19)]) (rest := rest) hx hb hml hown hts hk2 mv_X5_copyFrom ⟨by show 2 + 1 ≤ _; omega, by show 8 + (2 + 11) + 61 ≤ _; omega⟩ rfl rfl (ct_X5_copyFrom l D ct a f (a 19) (g 6) _) (z_wv hK hP hD [9, 10, 8] (by decide) rfl 9 rfl rfl) hl rfl rfl (by omega) hd2 ⟨Nat.zero_le _, Nat.zero_le _⟩) (fun H locs hP hD hS => ?_)
    exact kk H locs hP hD hS
def f_X2_note (k : Nat) (f : Nat → Int32) (g : Nat → Nat → Int32) (nx : Int32) : Option (Nat → Nat → Int32) :=
  zg (zin nx 7) (some (fun i => if i = nx.toNatClampNeg then va_cpy f (g i) 0 0 344 else g i))
set_option maxRecDepth 100000 in
set_option maxHeartbeats 4000000 in
theorem ct_X2_note (l : Launch) (D : va_G) (ct a : Nat → Nat) (g : Nat → Nat → Int32) (nx hz : Int32) (f : Nat → Int32) (sz : Nat) (k : Nat) (g' : Nat → Nat → Int32) (h : f_X2_note k f g nx = some g') : Met l yX2_note (Cond.code yX2_note cX2_note 2 none :: zT) ({ frames := 3, cells := 0, slots := 0, locals := 82 } : Room) (va_Pc [.ref (a 5), .ref (a 3)] (zPW D (zTys ct) (wX2 ct a g nx hz ++ wX5 ct a f) sz)) (va_Qv (fun (_ : Unit) => True) (zQW D (wX2 ct a g nx hz ++ wX5 ct a f) sz (wX2 ct a g' nx hz ++ wX5 ct a f)) (va_A (wX2 ct a g nx hz ++ wX5 ct a f) sz)) 0 0 (va_A (wX2 ct a g nx hz ++ wX5 ct a f) sz) := by
  refine zMet (cc := cX2_note) (maxL := 2) (ret := none) (av := [.ref (a 5), .ref (a 3)]) (by decide) (Nat.le_of_ble_eq_true rfl) (fun p e s m below meth c ls hx hb hr hml hts hown hlocks hin hB hl => ?_)
  have hl : lv_has ls 2 [(0, .ref (a 5)), (1, .ref (a 3))] := hl
  have hown : s.vm.findClass RX2 = some m.cls := hown
  obtain ⟨hsz, hP, hK, hD0⟩ := hB
  subst hsz
  have hD := hD0.self (sz := s.heap.size)
  obtain ⟨A, hAe⟩ : ∃ A, A = va_A (wX2 ct a g nx hz ++ wX5 ct a f) s.heap.size := ⟨_, rfl⟩
  rw [← hAe] at hD
  have hA : ∀ q : Nat, s.heap.size ≤ q → A q := fun q h => by rw [hAe]; exact Or.inr h
  have hS : va_S A s.heap s.heap [] := va_S.rf
  obtain ⟨hn, h⟩ := zg_s h
  cases h
  refine lv_aload_n hx hb dX2_note_0 rfl (lv_at hl 1 rfl) ?_
  refine lv_aload_n hx hb dX2_note_1 rfl (lv_at hl 0 rfl) ?_
  refine zNoteRow hx hb hml hown hts tw236 tw269 ⟨Nat.le_of_ble_eq_true rfl, Nat.le_of_ble_eq_true rfl⟩ ⟨Nat.le_of_ble_eq_true rfl, Nat.le_of_ble_eq_true rfl⟩ hK hP hD hS hA hn hl.1 (Nat.le_of_ble_eq_true rfl) (Nat.le_of_ble_eq_true rfl) dX2_note_2 dX2_note_5 (fun H locs hP hD hS => ?_)
  exact zX_v hx hb hr hlocks hP hD hS hAe dX2_note_8
def f_X2_goBack_b29 (k : Nat) (f : Nat → Int32) (g : Nat → Nat → Int32) (hz y0 : Int32) : Option (Int32 × (Nat → Int32) × Int32 × Int32) :=
  zl y0 fun nx1 =>
  zl (hz - (1 : Int32)) fun hz1 =>
  zg (zin nx1 7) (some (hz1, va_cpy (g nx1.toNatClampNeg) f 0 0 344, nx1, hz1))
def f_X2_goBack (k : Nat) (f : Nat → Int32) (g : Nat → Nat → Int32) (nx hz : Int32) : Option (Int32 × (Nat → Int32) × Int32 × Int32) :=
  if hz = 0 then some ((-5 : Int32), f, nx, hz)
  else if nx ≤ 0 then f_X2_goBack_b29 k f g hz (6 : Int32)
  else zl (nx - (1 : Int32)) fun v1 => f_X2_goBack_b29 k f g hz v1
set_option maxRecDepth 100000 in
set_option maxHeartbeats 4000000 in
theorem ct_X2_goBack (l : Launch) (D : va_G) (ct a : Nat → Nat) (g : Nat → Nat → Int32) (nx hz : Int32) (f : Nat → Int32) (sz : Nat) (k : Nat) (r : Int32) (f' : Nat → Int32) (nx' hz' : Int32) (h : f_X2_goBack k f g nx hz = some (r, f', nx', hz')) : Met l yX2_goBack (Cond.code yX2_goBack cX2_goBack 2 (some .int) :: zT) ({ frames := 3, cells := 0, slots := 0, locals := 82 } : Room) (va_Pc [.ref (a 5), .ref (a 3)] (zPW D (zTys ct) (wX2 ct a g nx hz ++ wX5 ct a f) sz)) (va_Qi (fun r' (_ : Unit) => r' = r) (zQW D (wX2 ct a g nx hz ++ wX5 ct a f) sz (wX2 ct a g nx' hz' ++ wX5 ct a f')) (va_A (wX2 ct a g nx hz ++ wX5 ct a f) sz)) 0 0 (va_A (wX2 ct a g nx hz ++ wX5 ct a f) sz) := by
  refine zMet (cc := cX2_goBack) (maxL := 2) (ret := (some .int)) (av := [.ref (a 5), .ref (a 3)]) (by decide) (Nat.le_of_ble_eq_true rfl) (fun p e s m below meth c ls hx hb hr hml hts hown hlocks hin hB hl => ?_)
  have hl : lv_has ls 2 [(0, .ref (a 5)), (1, .ref (a 3))] := hl
  have hown : s.vm.findClass RX2 = some m.cls := hown
  obtain ⟨hsz, hP, hK, hD0⟩ := hB
  subst hsz
  have hD := hD0.self (sz := s.heap.size)
  obtain ⟨A, hAe⟩ : ∃ A, A = va_A (wX2 ct a g nx hz ++ wX5 ct a f) s.heap.size := ⟨_, rfl⟩
  rw [← hAe] at hD
  have hA : ∀ q : Nat, s.heap.size ≤ q → A q := fun q h => by rw [hAe]; exact Or.inr h
  have hS : va_S A s.heap s.heap [] := va_S.rf
  have B29 : ∀ (y0 : Int32), f_X2_goBack_b29 k f g hz y0 = some (r, f', nx', hz') → W p l e ({ frames := 3, cells := 0, slots := 0, locals := 82 } : Room) s m ([.ref (a 5), .ref (a 3)] : List Value).toArray below meth c s.heap [] 0 0 (MQ below (va_Qi (fun r' (_ : Unit) => r' = r) (zQW D (wX2 ct a g nx hz ++ wX5 ct a f) s.heap.size (wX2 ct a g nx' hz' ++ wX5 ct a f')) (va_A (wX2 ct a g nx hz ++ wX5 ct a f) s.heap.size)) ([.ref (a 5), .ref (a 3)] : List Value).toArray s 0 0 (va_A (wX2 ct a g nx hz ++ wX5 ct a f) s.heap.size)) (F0 m 29 ls [.int y0, .ref (a 5)]) := by
    intro y0 h
    rw [f_X2_goBack_b29] at h
    refine z_puti (C := RX2) (T := TX2) (N := 3) (ci := 1) hx hb hts zin_X2 tyX2 tyX2_ok nmX2 hown hK.1 hP hD hS 0 1 rfl rfl (by decide) tw80 rfl rfl (by decide +kernel) (Nat.le_of_ble_eq_true rfl) h dX2_goBack_29 (fun nx1 H locs h hP hD hS => ?_)
    have hP : va_P D vwCl (wX2 ct a g nx1 hz ++ wX5 ct a f) H := hP
    have hD : va_D A (wX2 ct a g nx1 hz ++ wX5 ct a f) := hD
    refine lv_aload_n hx hb dX2_goBack_32 rfl (lv_at hl 0 rfl) ?_
    refine lv_dup hx hb dX2_goBack_33 rfl ?_
    refine z_get (C := RX2) (T := TX2) (N := 3) (ci := 1) hx hb hts zin_X2 hown hK.1 hP 0 2 rfl rfl (by decide) tw81 rfl rfl dX2_goBack_34 ?_
    refine lv_iconst (v := (1 : Int32)) hx hb dX2_goBack_37 (by decide) ?_
    refine lv_isub hx hb dX2_goBack_38 ?_
    refine z_puti (C := RX2) (T := TX2) (N := 3) (ci := 1) hx hb hts zin_X2 tyX2 tyX2_ok nmX2 hown hK.1 hP hD hS 0 2 rfl rfl (by decide) tw81 rfl rfl (by decide +kernel) (Nat.le_of_ble_eq_true rfl) h dX2_goBack_39 (fun hz1 H locs h hP hD hS => ?_)
    have hP : va_P D vwCl (wX2 ct a g nx1 hz1 ++ wX5 ct a f) H := hP
    have hD : va_D A (wX2 ct a g nx1 hz1 ++ wX5 ct a f) := hD
    obtain ⟨hn, h⟩ := zg_s h
    cases h
    refine lv_aload_n hx hb dX2_goBack_42 rfl (lv_at hl 1 rfl) ?_
    refine lv_aload_n hx hb dX2_goBack_43 rfl (lv_at hl 0 rfl) ?_
    refine zBackRow hx hb hml hown hts tw236 tw240 ⟨Nat.le_of_ble_eq_true rfl, Nat.le_of_ble_eq_true rfl⟩ ⟨Nat.le_of_ble_eq_true rfl, Nat.le_of_ble_eq_true rfl⟩ hK hP hD hS hA hn hl.1 (Nat.le_of_ble_eq_true rfl) (Nat.le_of_ble_eq_true rfl) dX2_goBack_44 dX2_goBack_47 (fun H locs hP hD hS => ?_)
    refine lv_aload_n hx hb dX2_goBack_50 rfl (lv_at hl 0 rfl) ?_
    refine z_get (C := RX2) (T := TX2) (N := 3) (ci := 1) hx hb hts zin_X2 hown hK.1 hP 0 2 rfl rfl (by decide) tw81 rfl rfl dX2_goBack_51 ?_
    exact zX_i hx hb hr hlocks hP hD hS hAe dX2_goBack_54 rfl
  rw [f_X2_goBack] at h
  refine lv_aload_n hx hb dX2_goBack_0 rfl (lv_at hl 0 rfl) ?_
  refine z_get (C := RX2) (T := TX2) (N := 3) (ci := 1) hx hb hts zin_X2 hown hK.1 hP 0 2 rfl rfl (by decide) tw81 rfl rfl dX2_goBack_1 ?_
  refine zi_ne (tgt := 10) hx hb dX2_goBack_4 (by decide) h (fun h => ?_) (fun h => ?_)
  · refine lv_aload_n hx hb dX2_goBack_10 rfl (lv_at hl 0 rfl) ?_
    refine lv_aload_n hx hb dX2_goBack_11 rfl (lv_at hl 0 rfl) ?_
    refine z_get (C := RX2) (T := TX2) (N := 3) (ci := 1) hx hb hts zin_X2 hown hK.1 hP 0 1 rfl rfl (by decide) tw80 rfl rfl dX2_goBack_12 ?_
    refine zi_le (tgt := 27) hx hb dX2_goBack_15 (by decide) h (fun h => ?_) (fun h => ?_)
    · refine lv_bipush (v := (6 : Int32)) hx hb dX2_goBack_27 (by decide) ?_
      exact B29 _ h
    · refine lv_aload_n hx hb dX2_goBack_18 rfl (lv_at hl 0 rfl) ?_
      refine z_get (C := RX2) (T := TX2) (N := 3) (ci := 1) hx hb hts zin_X2 hown hK.1 hP 0 1 rfl rfl (by decide) tw80 rfl rfl dX2_goBack_19 ?_
      refine lv_iconst (v := (1 : Int32)) hx hb dX2_goBack_22 (by decide) ?_
      refine o_isub hx hb dX2_goBack_23 h (fun v1 h => ?_)
      refine lv_goto (tgt := 29) hx hb dX2_goBack_24 (by decide) ?_
      exact B29 _ h
  · cases h
    refine lv_bipush (v := (-5 : Int32)) hx hb dX2_goBack_7 (by decide) ?_
    exact zX_i hx hb hr hlocks hP hD hS hAe dX2_goBack_9 rfl
def f_X4_keep (k : Nat) (f : Nat → Int32) (sw : Nat → Nat → Int32) (fl : Nat → Int32) (p1 : Int32) : Option (Int32 × (Nat → Nat → Int32) × (Nat → Int32)) :=
  if p1 < 0 then some ((-2 : Int32), sw, fl)
  else if (2 : Int32) ≤ p1 then some ((-2 : Int32), sw, fl)
  else zg (zin p1 2) (zl (upd fl p1.toNatClampNeg (vp_nar .boolean (1 : Int32))) fun fl1 =>
    zb1 (f_X5_cell k f (6 : Int32)) fun v1 => some (v1, (fun i => if i = p1.toNatClampNeg then va_cpy f (sw i) 0 0 344 else sw i), fl1))
def f_X4_bring (k : Nat) (f : Nat → Int32) (sw : Nat → Nat → Int32) (fl : Nat → Int32) (p1 : Int32) : Option (Int32 × (Nat → Int32)) :=
  if p1 < 0 then some ((-2 : Int32), f)
  else if (2 : Int32) ≤ p1 then some ((-2 : Int32), f)
  else zg (zin p1 2) (zl (fl p1.toNatClampNeg) fun v1 =>
    if v1 = 0 then some ((-5 : Int32), f)
    else zl (va_cpy (sw p1.toNatClampNeg) f 0 0 344) fun f1 => zb1 (f_X5_cell k f1 (6 : Int32)) fun v2 => some (v2, f1))
