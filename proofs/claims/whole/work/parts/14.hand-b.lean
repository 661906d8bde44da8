/-! STATICS AND STRING CONSTANTS: by hand (wip/whole/gen_handb.py) -/
def zSl : List Nat := [7, 5, 5, 3, 4, 2, 1, 0]
def zSb : List (List Int32) := [[78, 120, 78, 120, 78, 42, 78], [78, 46, 68, 64, 78], [78, 120, 78, 120, 78], [78, 61, 78], [78, 46, 68, 68], [45, 78], [68], []]
theorem zSl_lt : ∀ i, i < 8 → zSl.getD i 0 < 8 := by decide
theorem zSl_sh : ∀ i, i < 8 → nI (zSl.getD i 0) >>> ((0 : Int32) &&& 31) = nI (zSl.getD i 0) := by decide
/-- what the Statement says of the statics: the settings' ranges, the texts of the orders' parts -/
def zZs (st : Nat → Nat) (A : Nat → Prop) (U : State) (H : Heap) : Prop := va_Z "QuarryOrders" "LEAST_SETTING" "[I" (.ref (st 0)) A U H ∧ va_T .int (st 0) 4 (fun j => .int (([0, 1, -20, 0] : List Int32).getD j 0)) A U H ∧ va_Z "QuarryOrders" "MOST_SETTING" "[I" (.ref (st 1)) A U H ∧ va_T .int (st 1) 4 (fun j => .int (([9, 99, 0, 30] : List Int32).getD j 0)) A U H ∧ va_Z "java/lang/String" "COMPACT_STRINGS" "Z" (.int 1) A U H ∧ va_Zq "jdk/internal/util/Preconditions" "SIOOBE_FORMATTER" "Ljava/util/function/BiFunction;" A U H ∧ vk_S 8 zSl zSb (fun i => st (10 + i)) (fun i => st (20 + i)) A U H
def zZr (st : Nat → Nat) (U : State) : Prop := vk_R RX3 75 "NxNxN*N" (st 10) U ∧ vk_R RX3 77 "N.D@N" (st 11) U ∧ vk_R RX3 79 "NxNxN" (st 12) U ∧ vk_R RX3 81 "N=N" (st 13) U ∧ vk_R RX3 83 "N.DD" (st 14) U ∧ vk_R RX3 85 "-N" (st 15) U ∧ vk_R RX3 87 "D" (st 16) U ∧ vk_R RX3 89 "" (st 17) U
def zZ (st : Nat → Nat) (A : Nat → Prop) (U : State) (H : Heap) : Prop := zZs st A U H ∧ zZr st U
theorem zZr.warm {st : Nat → Nat} {s U : State} (hW : s.WarmedH U.vm) (h : zZr st s) : zZr st U := ⟨vk_R.warm hW h.1, vk_R.warm hW h.2.1, vk_R.warm hW h.2.2.1, vk_R.warm hW h.2.2.2.1, vk_R.warm hW h.2.2.2.2.1, vk_R.warm hW h.2.2.2.2.2.1, vk_R.warm hW h.2.2.2.2.2.2.1, vk_R.warm hW h.2.2.2.2.2.2.2⟩
theorem zZr.same {st : Nat → Nat} {u U : State} (hv : U.vm = u.vm) (h : zZr st u) : zZr st U := ⟨vk_R.same hv h.1, vk_R.same hv h.2.1, vk_R.same hv h.2.2.1, vk_R.same hv h.2.2.2.1, vk_R.same hv h.2.2.2.2.1, vk_R.same hv h.2.2.2.2.2.1, vk_R.same hv h.2.2.2.2.2.2.1, vk_R.same hv h.2.2.2.2.2.2.2⟩
theorem zZs.moved {st : Nat → Nat} {A : Nat → Prop} {u U : State} {H : Heap} (hvm : u.vm.Alike U.vm) (h : zZs st A u H) : zZs st A U H := ⟨va_Z.moved hvm h.1, va_T.moved hvm h.2.1, va_Z.moved hvm h.2.2.1, va_T.moved hvm h.2.2.2.1, va_Z.moved hvm h.2.2.2.2.1, va_Zq.moved hvm h.2.2.2.2.2.1, vk_S.moved hvm h.2.2.2.2.2.2⟩
theorem zZs.kept {st : Nat → Nat} {A : Nat → Prop} {U : State} {H H1 : Heap} (h : zZs st A U H) (hq : ∀ a : Nat, a < H.size → ¬ A a → H1[a]? = H[a]?) : zZs st A U H1 := ⟨h.1.kept hq, h.2.1.kept hq, h.2.2.1.kept hq, h.2.2.2.1.kept hq, h.2.2.2.2.1.kept hq, h.2.2.2.2.2.1.kept hq, h.2.2.2.2.2.2.kept hq⟩
theorem zZs.narrow {st : Nat → Nat} {A B : Nat → Prop} {U : State} {H : Heap} (h : zZs st A U H) (hAB : ∀ q, B q → A q) : zZs st B U H := ⟨h.1.narrow hAB, h.2.1.narrow hAB, h.2.2.1.narrow hAB, h.2.2.2.1.narrow hAB, h.2.2.2.2.1.narrow hAB, h.2.2.2.2.2.1.narrow hAB, h.2.2.2.2.2.2.narrow hAB⟩
theorem zZ.warm {st : Nat → Nat} {A : Nat → Prop} {s U : State} {H : Heap} (hW : s.WarmedH U.vm) (h : zZ st A s H) : zZ st A U H := ⟨h.1.moved hW.alike, h.2.warm hW⟩
theorem zZ.frame {st : Nat → Nat} {A : Nat → Prop} {U : State} {H : Heap} {g : JFrame} {mk : MethodId} {a : Array Value} (h : zZ st A U H) : zZ st A (U.calling g mk a) H := ⟨zZs.moved (u := U) (U := U.calling g mk a) (Vm.Alike.refl U.vm) h.1, zZr.same (u := U) rfl h.2⟩
theorem zZ.sub {st : Nat → Nat} {A B : Nat → Prop} {U : State} {H0 H : Heap} {locs : List Loc} (h : zZ st A U H0) (hS : va_S A H0 H locs) (hAB : ∀ q, B q → A q) : zZ st B U H := ⟨(h.1.kept (fun a h1 h2 => hS.2.1 a h1 h2)).narrow hAB, h.2⟩
/-- what a method that reads statics asks -/
abbrev zPZ (D : va_G) (tys : List (ClassId × FieldType)) (st : Nat → Nat) (wc : va_W) (sz : Nat) : State → Prop := fun U => zPW D tys wc sz U ∧ zZ st (va_A wc sz) U U.heap
abbrev zP0 (st : Nat → Nat) : State → Prop := fun U => zZ st (fun _ => False) U U.heap
section ZS
variable {p : Program} {l : Launch} {e : Env} {R : Room} {s : State} {m : MethodId} {args : Array Value} {below : List Frame} {meth : Method} {c : Code} {H : Heap} {locs : List Loc} {cells slots : Nat} {Q : State → Prop}
variable {cc : ByteArray} {pc : Nat} {ls : Array Slot} {rest : List Value} {D : va_G} {tys : List (ClassId × FieldType)} {ws wc : va_W} {A : Nat → Prop} {H0 : Heap} {C : String} {b : Addr} {As : List Value} {fs : List Value} {ci N : Nat} {T : u_T} {st : Nat → Nat}
theorem z_zv (hZ : zZ st A s s.heap) (hK : zK D tys s) (hP : va_P D vwCl ws H) (hD : va_D A ws) (hS : va_S A s.heap H locs) (hA : ∀ q : Nat, s.heap.size ≤ q → A q) (is : List Nat) (hn : va_nd is = true) (hs : is.map (fun i => ws[i]?) = wc.map some) (q0 : Nat) (he : ws[q0]? = some (b, .inr (ci, fs))) (hc : vwCl[ci]? = some (C, T, N)) : PreV s H C b (va_Pc (.ref b :: As) (zPZ D tys st wc H.size)) As := by
  have hF := va_free (wc := wc) hD hS hA is hs
  exact ⟨fun a U g mk q => ⟨q.1, ⟨q.2.1.1, q.2.1.2.1, q.2.1.2.2.1.frame, q.2.1.2.2.2⟩, q.2.2.frame⟩, va_recv (q := (C, T, N)) hK.1 hP hc he, fun U hU hW => ⟨rfl, ⟨by rw [hU], by rw [hU]; exact hP.sub is (z_fm hs), hK.warm hW, (hD.sub is hn hs).weaken (fun _ _ _ _ => trivial)⟩, by rw [hU]; exact (hZ.sub hS hF).warm hW⟩⟩
/-- a call of a text constant's method, of a static one that reads texts -/
theorem z_kv {i : Nat} (hi : i < 8) (hZ : zZ st A s s.heap) (hS : va_S A s.heap H locs) : PreV s H "java/lang/String" (st (10 + i)) (va_Pc (.ref (st (10 + i)) :: As) (zP0 st)) As :=
  ⟨fun a U g mk q => ⟨q.1, q.2.frame⟩, vk_recv (i := i) hZ.1.2.2.2.2.2.2 hi hS, fun U hU hW => ⟨rfl, by show zZ st _ U U.heap; rw [hU]; exact (hZ.sub hS (fun q h => h.elim)).warm hW⟩⟩
theorem z_ks (hZ : zZ st A s s.heap) (hS : va_S A s.heap H locs) : PreS s H (va_Pc As (zP0 st)) As :=
  ⟨fun a U g mk q => ⟨q.1, q.2.frame⟩, fun U hU hW => ⟨rfl, by show zZ st _ U U.heap; rw [hU]; exact (hZ.sub hS (fun q h => h.elim)).warm hW⟩⟩
/-- a read-only method's end with a number of a small type -/
theorem zR_n {ty : FieldType} {v v0 : Int32} {free : Addr → Prop} (hx : p.tables.exec = Jvm.exec) (hb : c.code = cc) (hr : meth.sig.returnType = some ty) (hn : narrow ty (.int v) = .int v) (hlocks : meth.locks = false) (hdg : decode cc pc = .ok (.ireturn, 1)) (h : v = v0) : W p l e R s m args below meth c s.heap [] 0 0 (MQ below (vp_Si (fun r => r = v0)) args s 0 0 free) (F0 m pc ls [.int v]) :=
  W.zret hx hb hr hn (fun t ht _ => ⟨v, rfl, h, ht⟩) (fun _ q => absurd q List.not_mem_nil) hdg hlocks
end ZS
set_option maxRecDepth 100000 in
set_option maxHeartbeats 4000000 in
theorem ct_J0_isEmpty_aae02 (l : Launch) (st : Nat → Nat) (i : Nat) (hi : i < 8) : Met l yJ0_isEmpty_aae02 (Cond.code yJ0_isEmpty_aae02 cJ0_isEmpty_aae02 1 (some .boolean) :: zT) ({ frames := 0, cells := 0, slots := 0, locals := 0 } : Room) (va_Pc [.ref (st (10 + i))] (zP0 st)) (vp_Si (fun r => r = if zSl.getD i 0 = 0 then 1 else 0)) 0 0 (fun _ => False) := by
  refine zMet (cc := cJ0_isEmpty_aae02) (maxL := 1) (ret := (some .boolean)) (av := [.ref (st (10 + i))]) (by decide) (Nat.le_of_ble_eq_true rfl) (fun p e s m below meth c ls hx hb hr hml hts hown hlocks hin hB hl => ?_)
  have hl : lv_has ls 1 [(0, .ref (st (10 + i)))] := hl
  have hown : s.vm.findClass RJ0 = some m.cls := hown
  have ok : ∀ w ∈ zT, w.before _ s = true := fun w h => hts w (List.mem_cons_of_mem _ h)
  have hS : va_S (fun _ => False) s.heap s.heap [] := va_S.rf
  refine lv_aload_n hx hb dJ0_isEmpty_aae02_0 rfl (lv_at hl 0 rfl) ?_
  refine vk_getf hx hb (hB.1.2.2.2.2.2.2.1 i hi).2.2.1 hS hown (ok _ tw1160) (fun _ h => h) dJ0_isEmpty_aae02_1 ?_
  refine va_tlen hx hb (hB.1.2.2.2.2.2.2.1 i hi).2.2.2 hS rfl dJ0_isEmpty_aae02_4 ?_
  have hlt := zSl_lt i hi
  refine lv_if_ne (tgt := 12) hx hb dJ0_isEmpty_aae02_5 (by decide) (fun q => ?_) (fun q => ?_)
  · refine lv_iconst (v := (0 : Int32)) hx hb dJ0_isEmpty_aae02_12 (by decide) ?_
    exact zR_z hx hb hr hlocks dJ0_isEmpty_aae02_13 (by rw [if_neg (fun z => q (by rw [z]; rfl))]; rfl)
  · refine lv_iconst (v := (1 : Int32)) hx hb dJ0_isEmpty_aae02_8 (by decide) ?_
    refine lv_goto (tgt := 13) hx hb dJ0_isEmpty_aae02_9 (by decide) ?_
    exact zR_z hx hb hr hlocks dJ0_isEmpty_aae02_13 (by rw [if_pos ((nI_eq (by omega) (by omega)).mp (show nI (zSl.getD i 0) = nI 0 from q))]; rfl)
set_option maxRecDepth 100000 in
set_option maxHeartbeats 4000000 in
theorem ct_J0_coder_7d493 (l : Launch) (st : Nat → Nat) (i : Nat) (hi : i < 8) : Met l yJ0_coder_7d493 (Cond.code yJ0_coder_7d493 cJ0_coder_7d493 1 (some .byte) :: zT) ({ frames := 0, cells := 0, slots := 0, locals := 0 } : Room) (va_Pc [.ref (st (10 + i))] (zP0 st)) (vp_Si (fun r => r = 0)) 0 0 (fun _ => False) := by
  refine zMet (cc := cJ0_coder_7d493) (maxL := 1) (ret := (some .byte)) (av := [.ref (st (10 + i))]) (by decide) (Nat.le_of_ble_eq_true rfl) (fun p e s m below meth c ls hx hb hr hml hts hown hlocks hin hB hl => ?_)
  have hl : lv_has ls 1 [(0, .ref (st (10 + i)))] := hl
  have hown : s.vm.findClass RJ0 = some m.cls := hown
  have ok : ∀ w ∈ zT, w.before _ s = true := fun w h => hts w (List.mem_cons_of_mem _ h)
  have hS : va_S (fun _ => False) s.heap s.heap [] := va_S.rf
  refine va_gets hx hb hB.1.2.2.2.2.1 hS hown (ok _ tw685) (fun _ h => h) dJ0_coder_7d493_0 ?_
  refine lv_if_eq (tgt := 13) hx hb dJ0_coder_7d493_3 (by decide) (fun q => absurd q (by decide)) (fun _ => ?_)
  refine lv_aload_n hx hb dJ0_coder_7d493_6 rfl (lv_at hl 0 rfl) ?_
  refine vk_getf hx hb (hB.1.2.2.2.2.2.2.1 i hi).2.1 hS hown (ok _ tw1161) (fun _ h => h) dJ0_coder_7d493_7 ?_
  refine lv_goto (tgt := 14) hx hb dJ0_coder_7d493_10 (by decide) ?_
  exact zR_n hx hb hr rfl hlocks dJ0_coder_7d493_14 rfl
set_option maxRecDepth 100000 in
set_option maxHeartbeats 4000000 in
theorem ct_J0_length_8abf5 (l : Launch) (st : Nat → Nat) (i : Nat) (hi : i < 8) : Met l yJ0_length_8abf5 (Cond.code yJ0_length_8abf5 cJ0_length_8abf5 1 (some .int) :: zT) ({ frames := 1, cells := 0, slots := 0, locals := 20 } : Room) (va_Pc [.ref (st (10 + i))] (zP0 st)) (vp_Si (fun r => r = nI (zSl.getD i 0))) 0 0 (fun _ => False) := by
  refine zMet (cc := cJ0_length_8abf5) (maxL := 1) (ret := (some .int)) (av := [.ref (st (10 + i))]) (by decide) (Nat.le_of_ble_eq_true rfl) (fun p e s m below meth c ls hx hb hr hml hts hown hlocks hin hB hl => ?_)
  have hl : lv_has ls 1 [(0, .ref (st (10 + i)))] := hl
  have hown : s.vm.findClass RJ0 = some m.cls := hown
  have ok : ∀ w ∈ zT, w.before _ s = true := fun w h => hts w (List.mem_cons_of_mem _ h)
  have hS : va_S (fun _ => False) s.heap s.heap [] := va_S.rf
  refine lv_aload_n hx hb dJ0_length_8abf5_0 rfl (lv_at hl 0 rfl) ?_
  refine vk_getf hx hb (hB.1.2.2.2.2.2.2.1 i hi).2.2.1 hS hown (ok _ tw1160) (fun _ h => h) dJ0_length_8abf5_1 ?_
  refine va_tlen hx hb (hB.1.2.2.2.2.2.2.1 i hi).2.2.2 hS rfl dJ0_length_8abf5_4 ?_
  refine lv_aload_n hx hb dJ0_length_8abf5_5 rfl (lv_at hl 0 rfl) ?_
  refine zE_i (zrV (C := RJ0) (As := []) (rest := [.int (nI (zSl.getD i 0))]) hx hb hml hown hts tw681 mv_J0_coder_7d493 ⟨Nat.le_of_ble_eq_true rfl, Nat.le_of_ble_eq_true rfl⟩ rfl rfl (ct_J0_coder_7d493 l st i hi) (z_kv hi hB hS) hl.1 rfl rfl (Nat.le_of_ble_eq_true rfl) dJ0_length_8abf5_6 ⟨Nat.le_refl _, Nat.le_refl _⟩) ?_
  refine lv_ishr hx hb dJ0_length_8abf5_9 ?_
  have e0 : nI (zSl.getD i 0) >>> ((0 : Int32) &&& 31) = nI (zSl.getD i 0) := zSl_sh i hi
  rw [e0]
  exact zR_i hx hb hr hlocks dJ0_length_8abf5_10 rfl
set_option maxRecDepth 100000 in
set_option maxHeartbeats 4000000 in
theorem ct_J0_isLatin1_aae02 (l : Launch) (st : Nat → Nat) (i : Nat) (hi : i < 8) : Met l yJ0_isLatin1_aae02 (Cond.code yJ0_isLatin1_aae02 cJ0_isLatin1_aae02 1 (some .boolean) :: zT) ({ frames := 0, cells := 0, slots := 0, locals := 0 } : Room) (va_Pc [.ref (st (10 + i))] (zP0 st)) (vp_Si (fun r => r = 1)) 0 0 (fun _ => False) := by
  refine zMet (cc := cJ0_isLatin1_aae02) (maxL := 1) (ret := (some .boolean)) (av := [.ref (st (10 + i))]) (by decide) (Nat.le_of_ble_eq_true rfl) (fun p e s m below meth c ls hx hb hr hml hts hown hlocks hin hB hl => ?_)
  have hl : lv_has ls 1 [(0, .ref (st (10 + i)))] := hl
  have hown : s.vm.findClass RJ0 = some m.cls := hown
  have ok : ∀ w ∈ zT, w.before _ s = true := fun w h => hts w (List.mem_cons_of_mem _ h)
  have hS : va_S (fun _ => False) s.heap s.heap [] := va_S.rf
  refine va_gets hx hb hB.1.2.2.2.2.1 hS hown (ok _ tw685) (fun _ h => h) dJ0_isLatin1_aae02_0 ?_
  refine lv_if_eq (tgt := 17) hx hb dJ0_isLatin1_aae02_3 (by decide) (fun q => absurd q (by decide)) (fun _ => ?_)
  refine lv_aload_n hx hb dJ0_isLatin1_aae02_6 rfl (lv_at hl 0 rfl) ?_
  refine vk_getf hx hb (hB.1.2.2.2.2.2.2.1 i hi).2.1 hS hown (ok _ tw1161) (fun _ h => h) dJ0_isLatin1_aae02_7 ?_
  refine lv_if_ne (tgt := 17) hx hb dJ0_isLatin1_aae02_10 (by decide) (fun q => absurd rfl q) (fun _ => ?_)
  refine lv_iconst (v := (1 : Int32)) hx hb dJ0_isLatin1_aae02_13 (by decide) ?_
  refine lv_goto (tgt := 18) hx hb dJ0_isLatin1_aae02_14 (by decide) ?_
  exact zR_z hx hb hr hlocks dJ0_isLatin1_aae02_18 rfl
set_option maxRecDepth 100000 in
set_option maxHeartbeats 4000000 in
theorem ct_J3_checkIndex_8e157 (l : Launch) (st : Nat → Nat) (x n : Int32) (v : Option Nat) (h0 : ¬ x < 0) (h1 : x < n) : Met l yJ3_checkIndex_8e157 (Cond.code yJ3_checkIndex_8e157 cJ3_checkIndex_8e157 3 (some .int) :: zT) ({ frames := 0, cells := 0, slots := 0, locals := 0 } : Room) (va_Pc [.int x, .int n, va_rf v] (fun _ => True)) (vp_Si (fun r => r = x)) 0 0 (fun _ => False) := by
  refine zMet (cc := cJ3_checkIndex_8e157) (maxL := 3) (ret := (some .int)) (av := [.int x, .int n, va_rf v]) (by decide) (by cases v <;> exact Nat.le_of_ble_eq_true rfl) (fun p e s m below meth c ls hx hb hr hml hts hown hlocks hin hB hl => ?_)
  have hl : lv_has ls 3 [(0, .int x), (1, .int n), (2, va_rf v)] := by cases v <;> exact hl
  refine lv_iload_n hx hb dJ3_checkIndex_8e157_0 rfl (lv_at hl 0 rfl) ?_
  refine lv_if_lt (tgt := 9) hx hb dJ3_checkIndex_8e157_1 (by decide) (fun q => absurd q h0) (fun _ => ?_)
  refine lv_iload_n hx hb dJ3_checkIndex_8e157_4 rfl (lv_at hl 0 rfl) ?_
  refine lv_iload_n hx hb dJ3_checkIndex_8e157_5 rfl (lv_at hl 1 rfl) ?_
  refine lv_icmp_lt (tgt := 16) hx hb dJ3_checkIndex_8e157_6 (by decide) (fun _ => ?_) (fun q => absurd h1 q)
  refine lv_iload_n hx hb dJ3_checkIndex_8e157_16 rfl (lv_at hl 0 rfl) ?_
  exact zR_i hx hb hr hlocks dJ3_checkIndex_8e157_17 rfl
set_option maxRecDepth 100000 in
set_option maxHeartbeats 4000000 in
theorem ct_J0_checkIndex_df160 (l : Launch) (st : Nat → Nat) (x n : Int32) (h0 : ¬ x < 0) (h1 : x < n) : Met l yJ0_checkIndex_df160 (Cond.code yJ0_checkIndex_df160 cJ0_checkIndex_df160 2 none :: zT) ({ frames := 1, cells := 0, slots := 0, locals := 22 } : Room) (va_Pc [.int x, .int n] (zP0 st)) (va_Sv (fun _ => True)) 0 0 (fun _ => False) := by
  refine zMet (cc := cJ0_checkIndex_df160) (maxL := 2) (ret := none) (av := [.int x, .int n]) (by decide) (Nat.le_of_ble_eq_true rfl) (fun p e s m below meth c ls hx hb hr hml hts hown hlocks hin hB hl => ?_)
  have hl : lv_has ls 2 [(0, .int x), (1, .int n)] := hl
  have hown : s.vm.findClass RJ0 = some m.cls := hown
  have ok : ∀ w ∈ zT, w.before _ s = true := fun w h => hts w (List.mem_cons_of_mem _ h)
  have hS : va_S (fun _ => False) s.heap s.heap [] := va_S.rf
  have key : ∀ v : Option Nat, va_Z "jdk/internal/util/Preconditions" "SIOOBE_FORMATTER" "Ljava/util/function/BiFunction;" (va_rf v) (fun _ => False) s s.heap → W p l e ({ frames := 1, cells := 0, slots := 0, locals := 22 } : Room) s m ([.int x, .int n] : List Value).toArray below meth c s.heap [] 0 0 (MQ below (va_Sv (fun _ => True)) ([.int x, .int n] : List Value).toArray s 0 0 (fun _ => False)) (F0 m 0 ls []) := by
    intro v hv
    refine lv_iload_n hx hb dJ0_checkIndex_df160_0 rfl (lv_at hl 0 rfl) ?_
    refine lv_iload_n hx hb dJ0_checkIndex_df160_1 rfl (lv_at hl 1 rfl) ?_
    refine va_gets hx hb hv hS hown (ok _ tw701) (fun _ h => h) dJ0_checkIndex_df160_2 ?_
    refine zE_i (zrS (As := [.int x, .int n, va_rf v]) (rest := []) hx hb hml hown hts tw703 ms_J3_checkIndex_8e157 ⟨Nat.le_of_ble_eq_true rfl, Nat.le_of_ble_eq_true rfl⟩ rfl rfl (ct_J3_checkIndex_8e157 l st x n v h0 h1) z_p0 hl.1 rfl rfl (Nat.le_of_ble_eq_true rfl) dJ0_checkIndex_df160_5 ⟨Nat.le_refl _, Nat.le_refl _⟩) ?_
    refine lv_pop hx hb dJ0_checkIndex_df160_8 rfl ?_
    exact zR_v hx hb hr hlocks dJ0_checkIndex_df160_9
  rcases hB.1.2.2.2.2.2.1 with h | ⟨t, h⟩
  · exact key none h
  · exact key (some t) h
/-- the character at place j of text i -/
def zSc (i j : Nat) : Int32 := ((((zSb.getD i []).getD j 0) &&& 255).toUInt32 % 65536).toInt32
theorem zSc_n : ∀ i, i < 8 → ∀ j, j < 8 → narrow .char (.int (zSc i j)) = .int (zSc i j) := by decide
set_option maxRecDepth 100000 in
set_option maxHeartbeats 4000000 in
theorem ct_J1_charAt_3b067 (l : Launch) (st : Nat → Nat) (i : Nat) (hi : i < 8) (j : Nat) (hj : j < zSl.getD i 0) : Met l yJ1_charAt_3b067 (Cond.code yJ1_charAt_3b067 cJ1_charAt_3b067 2 (some .char) :: zT) ({ frames := 2, cells := 0, slots := 0, locals := 43 } : Room) (va_Pc [.ref (st (20 + i)), .int (nI j)] (zP0 st)) (vp_Si (fun r => r = zSc i j)) 0 0 (fun _ => False) := by
  refine zMet (cc := cJ1_charAt_3b067) (maxL := 2) (ret := (some .char)) (av := [.ref (st (20 + i)), .int (nI j)]) (by decide) (Nat.le_of_ble_eq_true rfl) (fun p e s m below meth c ls hx hb hr hml hts hown hlocks hin hB hl => ?_)
  have hl : lv_has ls 2 [(0, .ref (st (20 + i))), (1, .int (nI j))] := hl
  have hown : s.vm.findClass RJ1 = some m.cls := hown
  have ok : ∀ w ∈ zT, w.before _ s = true := fun w h => hts w (List.mem_cons_of_mem _ h)
  have hS : va_S (fun _ => False) s.heap s.heap [] := va_S.rf
  have hlt := zSl_lt i hi
  have hj8 : j < 8 := by omega
  refine lv_iload_n hx hb dJ1_charAt_3b067_0 rfl (lv_at hl 1 rfl) ?_
  refine lv_aload_n hx hb dJ1_charAt_3b067_1 rfl (lv_at hl 0 rfl) ?_
  refine va_tlen hx hb (hB.1.2.2.2.2.2.2.1 i hi).2.2.2 hS rfl dJ1_charAt_3b067_2 ?_
  refine zE_v (zrS (As := [.int (nI j), .int (nI (zSl.getD i 0))]) (rest := []) hx hb hml hown hts tw698 ms_J0_checkIndex_df160 ⟨Nat.le_of_ble_eq_true rfl, Nat.le_of_ble_eq_true rfl⟩ rfl rfl (ct_J0_checkIndex_df160 l st (nI j) (nI (zSl.getD i 0)) (nI_pos (by omega)) (nI_lt hj (by omega))) (z_ks hB hS) hl.1 rfl rfl (Nat.le_of_ble_eq_true rfl) dJ1_charAt_3b067_3 ⟨Nat.le_refl _, Nat.le_refl _⟩) ?_
  refine lv_aload_n hx hb dJ1_charAt_3b067_6 rfl (lv_at hl 0 rfl) ?_
  refine lv_iload_n hx hb dJ1_charAt_3b067_7 rfl (lv_at hl 1 rfl) ?_
  refine va_tb hx hb (hB.1.2.2.2.2.2.2.1 i hi).2.2.2 hS (vp_in_nI hj (by omega)) rfl dJ1_charAt_3b067_8 ?_
  rw [nI_clamp (show j < 2 ^ 31 by omega)]
  refine lv_sipush (v := (255 : Int32)) hx hb dJ1_charAt_3b067_9 (by decide) ?_
  refine lv_iand hx hb dJ1_charAt_3b067_12 ?_
  refine lv_i2c (v := zSc i j) hx hb dJ1_charAt_3b067_13 rfl ?_
  exact zR_n hx hb hr (zSc_n i hi j hj8) hlocks dJ1_charAt_3b067_14 rfl
set_option maxRecDepth 100000 in
set_option maxHeartbeats 4000000 in
theorem ct_J0_charAt_5068e (l : Launch) (st : Nat → Nat) (i : Nat) (hi : i < 8) (j : Nat) (hj : j < zSl.getD i 0) : Met l yJ0_charAt_5068e (Cond.code yJ0_charAt_5068e cJ0_charAt_5068e 2 (some .char) :: zT) ({ frames := 3, cells := 0, slots := 0, locals := 64 } : Room) (va_Pc [.ref (st (10 + i)), .int (nI j)] (zP0 st)) (vp_Si (fun r => r = zSc i j)) 0 0 (fun _ => False) := by
  refine zMet (cc := cJ0_charAt_5068e) (maxL := 2) (ret := (some .char)) (av := [.ref (st (10 + i)), .int (nI j)]) (by decide) (Nat.le_of_ble_eq_true rfl) (fun p e s m below meth c ls hx hb hr hml hts hown hlocks hin hB hl => ?_)
  have hl : lv_has ls 2 [(0, .ref (st (10 + i))), (1, .int (nI j))] := hl
  have hown : s.vm.findClass RJ0 = some m.cls := hown
  have ok : ∀ w ∈ zT, w.before _ s = true := fun w h => hts w (List.mem_cons_of_mem _ h)
  have hS : va_S (fun _ => False) s.heap s.heap [] := va_S.rf
  have hlt := zSl_lt i hi
  refine lv_aload_n hx hb dJ0_charAt_5068e_0 rfl (lv_at hl 0 rfl) ?_
  refine zE_i (zrV (C := RJ0) (As := []) (rest := []) hx hb hml hown hts tw691 mv_J0_isLatin1_aae02 ⟨Nat.le_of_ble_eq_true rfl, Nat.le_of_ble_eq_true rfl⟩ rfl rfl (ct_J0_isLatin1_aae02 l st i hi) (z_kv hi hB hS) hl.1 rfl rfl (Nat.le_of_ble_eq_true rfl) dJ0_charAt_5068e_1 ⟨Nat.le_refl _, Nat.le_refl _⟩) ?_
  refine lv_if_eq (tgt := 16) hx hb dJ0_charAt_5068e_4 (by decide) (fun q => absurd q (by decide)) (fun _ => ?_)
  refine lv_aload_n hx hb dJ0_charAt_5068e_7 rfl (lv_at hl 0 rfl) ?_
  refine vk_getf hx hb (hB.1.2.2.2.2.2.2.1 i hi).2.2.1 hS hown (ok _ tw1160) (fun _ h => h) dJ0_charAt_5068e_8 ?_
  refine lv_iload_n hx hb dJ0_charAt_5068e_11 rfl (lv_at hl 1 rfl) ?_
  refine zE_i (zrS (As := [.ref (st (20 + i)), .int (nI j)]) (rest := []) hx hb hml hown hts tw695 ms_J1_charAt_3b067 ⟨Nat.le_of_ble_eq_true rfl, Nat.le_of_ble_eq_true rfl⟩ rfl rfl (ct_J1_charAt_3b067 l st i hi j hj) (z_ks hB hS) hl.1 rfl rfl (Nat.le_of_ble_eq_true rfl) dJ0_charAt_5068e_12 ⟨Nat.le_refl _, Nat.le_refl _⟩) ?_
  exact zR_n hx hb hr (zSc_n i hi j (by omega)) hlocks dJ0_charAt_5068e_15 rfl
def zPi (x : Int32) : Nat := if x = 99 then 1 else if x = 100 then 6 else if x = 103 then 3 else if x = 108 then 4 else if x = 110 then 5 else if x = 111 then 2 else if x = 113 then 0 else 7
theorem zPi_lt (x : Int32) : zPi x < 8 := by
  unfold zPi
  repeat (first | (split; omega) | split)
  all_goals omega
set_option maxRecDepth 100000 in
set_option maxHeartbeats 4000000 in
theorem ct_X3_partsOf (l : Launch) (st : Nat → Nat) (p1 : Int32) : Met l yX3_partsOf (Cond.code yX3_partsOf cX3_partsOf 1 (some (.object "java/lang/String")) :: zT) ({ frames := 0, cells := 0, slots := 0, locals := 0 } : Room) (va_Pc [.int p1] (zP0 st)) (va_Sr (fun i => i = zPi p1) (fun i => .ref (st (10 + i)))) 0 0 (fun _ => False) := by
  refine zMet (cc := cX3_partsOf) (maxL := 1) (ret := (some (.object "java/lang/String"))) (av := [.int p1]) (by decide) (Nat.le_of_ble_eq_true rfl) (fun p e s m below meth c ls hx hb hr hml hts hown hlocks hin hB hl => ?_)
  have hl : lv_has ls 1 [(0, .int p1)] := hl
  have hown : s.vm.findClass RX3 = some m.cls := hown
  have ok : ∀ w ∈ zT, w.before _ s = true := fun w h => hts w (List.mem_cons_of_mem _ h)
  have hS : va_S (fun _ => False) s.heap s.heap [] := va_S.rf
  refine lv_iload_n hx hb dX3_partsOf_0 rfl (lv_at hl 0 rfl) ?_
  by_cases q0 : p1 = 99
  · refine lv_tableIn (off := (78 : Int)) (tgt := 79) hx hb dX3_partsOf_1 (by rw [q0]; decide) (by rw [q0]; decide) (by rw [q0]; decide) (by decide) ?_
    refine va_ldcS hx hb hown hB.2.2.1 dX3_partsOf_79 ?_
    exact W.aret hx hb hr (Or.inl ⟨_, rfl⟩) (Or.inr ⟨_, rfl⟩) (fun t ht _ => ⟨1, rfl, by rw [q0]; decide, ht⟩) (fun _ q => absurd q List.not_mem_nil) dX3_partsOf_81 hlocks
  by_cases q1 : p1 = 100
  · refine lv_tableIn (off := (93 : Int)) (tgt := 94) hx hb dX3_partsOf_1 (by rw [q1]; decide) (by rw [q1]; decide) (by rw [q1]; decide) (by decide) ?_
    refine va_ldcS hx hb hown hB.2.2.2.2.2.2.2.1 dX3_partsOf_94 ?_
    exact W.aret hx hb hr (Or.inl ⟨_, rfl⟩) (Or.inr ⟨_, rfl⟩) (fun t ht _ => ⟨6, rfl, by rw [q1]; decide, ht⟩) (fun _ q => absurd q List.not_mem_nil) dX3_partsOf_96 hlocks
  by_cases q2 : p1 = 101
  · refine lv_tableIn (off := (96 : Int)) (tgt := 97) hx hb dX3_partsOf_1 (by rw [q2]; decide) (by rw [q2]; decide) (by rw [q2]; decide) (by decide) ?_
    refine va_ldcS hx hb hown hB.2.2.2.2.2.2.2.2 dX3_partsOf_97 ?_
    exact W.aret hx hb hr (Or.inl ⟨_, rfl⟩) (Or.inr ⟨_, rfl⟩) (fun t ht _ => ⟨7, rfl, by rw [q2]; decide, ht⟩) (fun _ q => absurd q List.not_mem_nil) dX3_partsOf_99 hlocks
  by_cases q3 : p1 = 102
  · refine lv_tableIn (off := (96 : Int)) (tgt := 97) hx hb dX3_partsOf_1 (by rw [q3]; decide) (by rw [q3]; decide) (by rw [q3]; decide) (by decide) ?_
    refine va_ldcS hx hb hown hB.2.2.2.2.2.2.2.2 dX3_partsOf_97 ?_
    exact W.aret hx hb hr (Or.inl ⟨_, rfl⟩) (Or.inr ⟨_, rfl⟩) (fun t ht _ => ⟨7, rfl, by rw [q3]; decide, ht⟩) (fun _ q => absurd q List.not_mem_nil) dX3_partsOf_99 hlocks
  by_cases q4 : p1 = 103
  · refine lv_tableIn (off := (84 : Int)) (tgt := 85) hx hb dX3_partsOf_1 (by rw [q4]; decide) (by rw [q4]; decide) (by rw [q4]; decide) (by decide) ?_
    refine va_ldcS hx hb hown hB.2.2.2.2.1 dX3_partsOf_85 ?_
    exact W.aret hx hb hr (Or.inl ⟨_, rfl⟩) (Or.inr ⟨_, rfl⟩) (fun t ht _ => ⟨3, rfl, by rw [q4]; decide, ht⟩) (fun _ q => absurd q List.not_mem_nil) dX3_partsOf_87 hlocks
  by_cases q5 : p1 = 104
  · refine lv_tableIn (off := (96 : Int)) (tgt := 97) hx hb dX3_partsOf_1 (by rw [q5]; decide) (by rw [q5]; decide) (by rw [q5]; decide) (by decide) ?_
    refine va_ldcS hx hb hown hB.2.2.2.2.2.2.2.2 dX3_partsOf_97 ?_
    exact W.aret hx hb hr (Or.inl ⟨_, rfl⟩) (Or.inr ⟨_, rfl⟩) (fun t ht _ => ⟨7, rfl, by rw [q5]; decide, ht⟩) (fun _ q => absurd q List.not_mem_nil) dX3_partsOf_99 hlocks
  by_cases q6 : p1 = 105
  · refine lv_tableIn (off := (96 : Int)) (tgt := 97) hx hb dX3_partsOf_1 (by rw [q6]; decide) (by rw [q6]; decide) (by rw [q6]; decide) (by decide) ?_
    refine va_ldcS hx hb hown hB.2.2.2.2.2.2.2.2 dX3_partsOf_97 ?_
    exact W.aret hx hb hr (Or.inl ⟨_, rfl⟩) (Or.inr ⟨_, rfl⟩) (fun t ht _ => ⟨7, rfl, by rw [q6]; decide, ht⟩) (fun _ q => absurd q List.not_mem_nil) dX3_partsOf_99 hlocks
  by_cases q7 : p1 = 106
  · refine lv_tableIn (off := (96 : Int)) (tgt := 97) hx hb dX3_partsOf_1 (by rw [q7]; decide) (by rw [q7]; decide) (by rw [q7]; decide) (by decide) ?_
    refine va_ldcS hx hb hown hB.2.2.2.2.2.2.2.2 dX3_partsOf_97 ?_
    exact W.aret hx hb hr (Or.inl ⟨_, rfl⟩) (Or.inr ⟨_, rfl⟩) (fun t ht _ => ⟨7, rfl, by rw [q7]; decide, ht⟩) (fun _ q => absurd q List.not_mem_nil) dX3_partsOf_99 hlocks
  by_cases q8 : p1 = 107
  · refine lv_tableIn (off := (96 : Int)) (tgt := 97) hx hb dX3_partsOf_1 (by rw [q8]; decide) (by rw [q8]; decide) (by rw [q8]; decide) (by decide) ?_
    refine va_ldcS hx hb hown hB.2.2.2.2.2.2.2.2 dX3_partsOf_97 ?_
    exact W.aret hx hb hr (Or.inl ⟨_, rfl⟩) (Or.inr ⟨_, rfl⟩) (fun t ht _ => ⟨7, rfl, by rw [q8]; decide, ht⟩) (fun _ q => absurd q List.not_mem_nil) dX3_partsOf_99 hlocks
  by_cases q9 : p1 = 108
  · refine lv_tableIn (off := (87 : Int)) (tgt := 88) hx hb dX3_partsOf_1 (by rw [q9]; decide) (by rw [q9]; decide) (by rw [q9]; decide) (by decide) ?_
    refine va_ldcS hx hb hown hB.2.2.2.2.2.1 dX3_partsOf_88 ?_
    exact W.aret hx hb hr (Or.inl ⟨_, rfl⟩) (Or.inr ⟨_, rfl⟩) (fun t ht _ => ⟨4, rfl, by rw [q9]; decide, ht⟩) (fun _ q => absurd q List.not_mem_nil) dX3_partsOf_90 hlocks
  by_cases q10 : p1 = 109
  · refine lv_tableIn (off := (96 : Int)) (tgt := 97) hx hb dX3_partsOf_1 (by rw [q10]; decide) (by rw [q10]; decide) (by rw [q10]; decide) (by decide) ?_
    refine va_ldcS hx hb hown hB.2.2.2.2.2.2.2.2 dX3_partsOf_97 ?_
    exact W.aret hx hb hr (Or.inl ⟨_, rfl⟩) (Or.inr ⟨_, rfl⟩) (fun t ht _ => ⟨7, rfl, by rw [q10]; decide, ht⟩) (fun _ q => absurd q List.not_mem_nil) dX3_partsOf_99 hlocks
  by_cases q11 : p1 = 110
  · refine lv_tableIn (off := (90 : Int)) (tgt := 91) hx hb dX3_partsOf_1 (by rw [q11]; decide) (by rw [q11]; decide) (by rw [q11]; decide) (by decide) ?_
    refine va_ldcS hx hb hown hB.2.2.2.2.2.2.1 dX3_partsOf_91 ?_
    exact W.aret hx hb hr (Or.inl ⟨_, rfl⟩) (Or.inr ⟨_, rfl⟩) (fun t ht _ => ⟨5, rfl, by rw [q11]; decide, ht⟩) (fun _ q => absurd q List.not_mem_nil) dX3_partsOf_93 hlocks
  by_cases q12 : p1 = 111
  · refine lv_tableIn (off := (81 : Int)) (tgt := 82) hx hb dX3_partsOf_1 (by rw [q12]; decide) (by rw [q12]; decide) (by rw [q12]; decide) (by decide) ?_
    refine va_ldcS hx hb hown hB.2.2.2.1 dX3_partsOf_82 ?_
    exact W.aret hx hb hr (Or.inl ⟨_, rfl⟩) (Or.inr ⟨_, rfl⟩) (fun t ht _ => ⟨2, rfl, by rw [q12]; decide, ht⟩) (fun _ q => absurd q List.not_mem_nil) dX3_partsOf_84 hlocks
  by_cases q13 : p1 = 112
  · refine lv_tableIn (off := (96 : Int)) (tgt := 97) hx hb dX3_partsOf_1 (by rw [q13]; decide) (by rw [q13]; decide) (by rw [q13]; decide) (by decide) ?_
    refine va_ldcS hx hb hown hB.2.2.2.2.2.2.2.2 dX3_partsOf_97 ?_
    exact W.aret hx hb hr (Or.inl ⟨_, rfl⟩) (Or.inr ⟨_, rfl⟩) (fun t ht _ => ⟨7, rfl, by rw [q13]; decide, ht⟩) (fun _ q => absurd q List.not_mem_nil) dX3_partsOf_99 hlocks
  by_cases q14 : p1 = 113
  · refine lv_tableIn (off := (75 : Int)) (tgt := 76) hx hb dX3_partsOf_1 (by rw [q14]; decide) (by rw [q14]; decide) (by rw [q14]; decide) (by decide) ?_
    refine va_ldcS hx hb hown hB.2.1 dX3_partsOf_76 ?_
    exact W.aret hx hb hr (Or.inl ⟨_, rfl⟩) (Or.inr ⟨_, rfl⟩) (fun t ht _ => ⟨0, rfl, by rw [q14]; decide, ht⟩) (fun _ q => absurd q List.not_mem_nil) dX3_partsOf_78 hlocks
  refine lv_tableOut (tgt := 97) hx hb dX3_partsOf_1 (by have w0 := lv_neT (a := 99) q0 rfl; have w1 := lv_neT (a := 100) q1 rfl; have w2 := lv_neT (a := 101) q2 rfl; have w3 := lv_neT (a := 102) q3 rfl; have w4 := lv_neT (a := 103) q4 rfl; have w5 := lv_neT (a := 104) q5 rfl; have w6 := lv_neT (a := 105) q6 rfl; have w7 := lv_neT (a := 106) q7 rfl; have w8 := lv_neT (a := 107) q8 rfl; have w9 := lv_neT (a := 108) q9 rfl; have w10 := lv_neT (a := 109) q10 rfl; have w11 := lv_neT (a := 110) q11 rfl; have w12 := lv_neT (a := 111) q12 rfl; have w13 := lv_neT (a := 112) q13 rfl; have w14 := lv_neT (a := 113) q14 rfl; omega) (by decide) ?_
  refine va_ldcS hx hb hown hB.2.2.2.2.2.2.2.2 dX3_partsOf_97 ?_
  exact W.aret hx hb hr (Or.inl ⟨_, rfl⟩) (Or.inr ⟨_, rfl⟩) (fun t ht _ => ⟨7, rfl, by unfold zPi; rw [if_neg q0, if_neg q1, if_neg q4, if_neg q9, if_neg q11, if_neg q12, if_neg q14], ht⟩) (fun _ q => absurd q List.not_mem_nil) dX3_partsOf_99 hlocks
def zLo (j : Nat) : Int32 := ([0, 1, -20, 0] : List Int32).getD j 0
def zHi (j : Nat) : Int32 := ([9, 99, 0, 30] : List Int32).getD j 0
def f_X6_changeSetting (k : Nat) (f : Nat → Int32) (p1 p2 : Int32) : Option (Int32 × (Nat → Int32)) :=
  if p1 < 0 then some ((-2 : Int32), f)
  else if (4 : Int32) ≤ p1 then some ((-2 : Int32), f)
  else zg (zin p1 4) (if p2 < zLo p1.toNatClampNeg then some ((-2 : Int32), f)
    else if zHi p1.toNatClampNeg < p2 then some ((-2 : Int32), f)
    else zb1 (f_X5_cell k f p1) fun v1 => zb1 (f_X5_setCell k f p1 p2) fun f1 => zl (v1 + (100 : Int32)) fun v2 => some (v2, f1))
set_option maxRecDepth 100000 in
set_option maxHeartbeats 4000000 in
theorem ct_X6_changeSetting (l : Launch) (D : va_G) (ct a st : Nat → Nat) (f : Nat → Int32) (sz : Nat) (p1 p2 : Int32) (k : Nat) (r : Int32) (f' : Nat → Int32) (h : f_X6_changeSetting k f p1 p2 = some (r, f')) : Met l yX6_changeSetting (Cond.code yX6_changeSetting cX6_changeSetting 4 (some .int) :: zT) ({ frames := 1, cells := 0, slots := 0, locals := 22 } : Room) (va_Pc [.ref (a 1), .int p1, .int p2] (zPZ D (zTys ct) st (wX6 ct a f) sz)) (va_Qi (fun r' (_ : Unit) => r' = r) (zQW D (wX6 ct a f) sz (wX6 ct a f')) (va_A (wX6 ct a f) sz)) 0 0 (va_A (wX6 ct a f) sz) := by
  refine zMet (cc := cX6_changeSetting) (maxL := 4) (ret := (some .int)) (av := [.ref (a 1), .int p1, .int p2]) (by decide) (Nat.le_of_ble_eq_true rfl) (fun p e s m below meth c ls hx hb hr hml hts hown hlocks hin hB hl => ?_)
  have hl : lv_has ls 4 [(0, .ref (a 1)), (1, .int p1), (2, .int p2)] := hl
  have hown : s.vm.findClass RX6 = some m.cls := hown
  obtain ⟨⟨hsz, hP, hK, hD0⟩, hZ⟩ := hB
  subst hsz
  have hD := hD0.self (sz := s.heap.size)
  obtain ⟨A, hAe⟩ : ∃ A, A = va_A (wX6 ct a f) s.heap.size := ⟨_, rfl⟩
  rw [← hAe] at hD hZ
  have hA : ∀ q : Nat, s.heap.size ≤ q → A q := fun q h => by rw [hAe]; exact Or.inr h
  have hS : va_S A s.heap s.heap [] := va_S.rf
  have ok : ∀ w ∈ zT, w.before _ s = true := fun w h => hts w (List.mem_cons_of_mem _ h)
  rw [f_X6_changeSetting] at h
  refine lv_iload_n hx hb dX6_changeSetting_0 rfl (lv_at hl 1 rfl) ?_
  refine zi_lt (tgt := 20) hx hb dX6_changeSetting_1 (by decide) h (fun h => ?_) (fun h => ?_)
  · cases h
    refine lv_bipush (v := (-2 : Int32)) hx hb dX6_changeSetting_20 (by decide) ?_
    exact zX_i hx hb hr hlocks hP hD hS hAe dX6_changeSetting_22 rfl
  refine lv_iload_n hx hb dX6_changeSetting_4 rfl (lv_at hl 1 rfl) ?_
  refine va_getsN hx hb hZ.1.1 hS hown (va_Nw.use rfl (nw233 hK.2)) (fun _ h => h) dX6_changeSetting_5 ?_
  refine va_tlen hx hb hZ.1.2.1 hS (v := (4 : Int32)) rfl dX6_changeSetting_8 ?_
  refine lv_icmp_ge (tgt := 20) hx hb dX6_changeSetting_9 (by decide) (fun q => ?_) (fun q => ?_)
  · rw [if_pos q] at h
    cases h
    refine lv_bipush (v := (-2 : Int32)) hx hb dX6_changeSetting_20 (by decide) ?_
    exact zX_i hx hb hr hlocks hP hD hS hAe dX6_changeSetting_22 rfl
  rw [if_neg q] at h
  obtain ⟨hn, h⟩ := zg_s h
  refine lv_iload_n hx hb dX6_changeSetting_12 rfl (lv_at hl 1 rfl) ?_
  refine va_getsN hx hb hZ.1.2.2.1 hS hown (va_Nw.use rfl (nw235 hK.2)) (fun _ h => h) dX6_changeSetting_13 ?_
  refine va_tlen hx hb hZ.1.2.2.2.1 hS (v := (4 : Int32)) rfl dX6_changeSetting_16 ?_
  refine lv_icmp_lt (tgt := 23) hx hb dX6_changeSetting_17 (by decide) (fun _ => ?_) (fun q2 => absurd (Int32.not_le.mp q) q2)
  refine lv_iload_n hx hb dX6_changeSetting_23 rfl (lv_at hl 2 rfl) ?_
  refine va_getsN hx hb hZ.1.1 hS hown (va_Nw.use rfl (nw233 hK.2)) (fun _ h => h) dX6_changeSetting_24 ?_
  refine lv_iload_n hx hb dX6_changeSetting_27 rfl (lv_at hl 1 rfl) ?_
  refine va_ti hx hb hZ.1.2.1 hS (zin_s hn) (v := .int (zLo p1.toNatClampNeg)) rfl dX6_changeSetting_28 ?_
  refine zc_lt (tgt := 41) hx hb dX6_changeSetting_29 (by decide) h (fun h => ?_) (fun h => ?_)
  · cases h
    refine lv_bipush (v := (-2 : Int32)) hx hb dX6_changeSetting_41 (by decide) ?_
    exact zX_i hx hb hr hlocks hP hD hS hAe dX6_changeSetting_43 rfl
  refine lv_iload_n hx hb dX6_changeSetting_32 rfl (lv_at hl 2 rfl) ?_
  refine va_getsN hx hb hZ.1.2.2.1 hS hown (va_Nw.use rfl (nw235 hK.2)) (fun _ h => h) dX6_changeSetting_33 ?_
  refine lv_iload_n hx hb dX6_changeSetting_36 rfl (lv_at hl 1 rfl) ?_
  refine va_ti hx hb hZ.1.2.2.2.1 hS (zin_s hn) (v := .int (zHi p1.toNatClampNeg)) rfl dX6_changeSetting_37 ?_
  refine lv_icmp_le (tgt := 44) hx hb dX6_changeSetting_38 (by decide) (fun q3 => ?_) (fun q3 => ?_)
  rotate_left
  · rw [if_pos (Int32.not_le.mp q3)] at h
    cases h
    refine lv_bipush (v := (-2 : Int32)) hx hb dX6_changeSetting_41 (by decide) ?_
    exact zX_i hx hb hr hlocks hP hD hS hAe dX6_changeSetting_43 rfl
  rw [if_neg (Int32.not_lt.mpr q3)] at h
  refine lv_aload_n hx hb dX6_changeSetting_44 rfl (lv_at hl 0 rfl) ?_
  refine z_get (C := RX6) (T := TX6) (N := 2) (ci := 5) hx hb hts zin_X6 hown hK.1 hP 0 0 rfl rfl (by decide) tw119 rfl rfl dX6_changeSetting_45 ?_
  refine lv_iload_n hx hb dX6_changeSetting_48 rfl (lv_at hl 1 rfl) ?_
  obtain ⟨v1, hc, h⟩ := zb1_s h
  refine zE_i (zrV (C := RX5) (As := [.int p1]) (rest := []) hx hb hml hown hts tw237 mv_X5_cell ⟨Nat.le_of_ble_eq_true rfl, Nat.le_of_ble_eq_true rfl⟩ rfl rfl (ct_X5_cell l D ct a f p1 k v1 hc) (z_pv hK hP [2, 3] rfl 2 rfl rfl) hl.1 rfl rfl (Nat.le_of_ble_eq_true rfl) dX6_changeSetting_49 ⟨Nat.le_refl _, Nat.le_refl _⟩) ?_
  refine lv_istore_n (lv' := [(3, .int v1), (0, .ref (a 1)), (1, .int p1), (2, .int p2)]) hx hb dX6_changeSetting_52 rfl hl (by decide) rfl (fun ls hl => ?_)
  refine lv_aload_n hx hb dX6_changeSetting_53 rfl (lv_at hl 1 rfl) ?_
  refine z_get (C := RX6) (T := TX6) (N := 2) (ci := 5) hx hb hts zin_X6 hown hK.1 hP 0 0 rfl rfl (by decide) tw119 rfl rfl dX6_changeSetting_54 ?_
  refine lv_iload_n hx hb dX6_changeSetting_57 rfl (lv_at hl 2 rfl) ?_
  refine lv_iload_n hx hb dX6_changeSetting_58 rfl (lv_at hl 3 rfl) ?_
  obtain ⟨f1, hc, h⟩ := zb1_s h
  refine zG_v (w1 := wX5 ct a f1) (ws' := wX6 ct a f1) hP hD hS hA [2, 3] [0, 1] [0, 1, 2, 3] rfl rfl (by decide) (by decide) rfl (by decide) (zrV (C := RX5) (As := [.int p1, .int p2]) (rest := []) hx hb hml hown hts tw241 mv_X5_setCell ⟨Nat.le_of_ble_eq_true rfl, Nat.le_of_ble_eq_true rfl⟩ rfl rfl (ct_X5_setCell l D ct a f _ p1 p2 k f1 hc) (z_wv hK hP hD [2, 3] (by decide) rfl 2 rfl rfl) hl.1 rfl rfl (Nat.le_of_ble_eq_true rfl) dX6_changeSetting_59 ⟨Nat.le_refl _, Nat.le_refl _⟩) (fun H locs hP hD hS => ?_)
  refine lv_iload_n hx hb dX6_changeSetting_62 rfl (lv_at hl 0 rfl) ?_
  refine lv_bipush (v := (100 : Int32)) hx hb dX6_changeSetting_63 (by decide) ?_
  refine o_iadd hx hb dX6_changeSetting_65 h (fun v2 h => ?_)
  cases h
  exact zX_i hx hb hr hlocks hP hD hS hAe dX6_changeSetting_66 rfl
def f_X3_readOrder_b65 (k : Nat) (sg : Nat → Int32) (pl pk : Int32) (i : Nat) : Nat → Int32 → (Nat → Int32) → Int32 → Int32 → Int32 → Option (Int32 × Int32 × Int32 × (Nat → Int32) × Int32 × Int32)
  | 0, _, _, _, _, _ => none
  | n + 1, pa, pn, pf, pg, x2 =>
    if nI (zSl.getD i 0) ≤ x2 then some ((1 : Int32), pa, pk, pn, pf, pg)
    else zg (zin x2 (zSl.getD i 0)) (zb5 (f_X3_readPart k sg pl pa pn pf pg (zSc i x2.toNatClampNeg)) fun v1 pa2 pn3 pf4 pg5 =>
      if v1 = 0 then some ((0 : Int32), pa2, pk, pn3, pf4, pg5)
      else zl (x2 + (1 : Int32)) fun v6 => f_X3_readOrder_b65 k sg pl pk i n pa2 pn3 pf4 pg5 v6)
def f_X3_readOrder_b18 (k : Nat) (sg : Nat → Int32) (pl : Int32) (pa : Int32) (pn : Nat → Int32) (pf pg : Int32) : Option (Int32 × Int32 × Int32 × (Nat → Int32) × Int32 × Int32) :=
  zb1 (f_X3_sign k sg pl pa) fun v1 =>
  zl v1 fun pk1 =>
  if zSl.getD (zPi pk1) 0 = 0 then some ((0 : Int32), pa, pk1, pn, pf, pg)
  else zl (pa + (1 : Int32)) fun pa1 => zl (0 : Int32) fun pf1 => zg (zbo (0 : Int32)) (zl (0 : Int32) fun pg1 =>
    f_X3_readOrder_b65 k sg pl pk1 (zPi pk1) k pa1 pn pf1 pg1 (0 : Int32))
def f_X3_readOrder (k : Nat) (sg : Nat → Int32) (pl pa pk : Int32) (pn : Nat → Int32) (pf pg : Int32) : Option (Int32 × Int32 × Int32 × (Nat → Int32) × Int32 × Int32) :=
  if pa ≤ 0 then f_X3_readOrder_b18 k sg pl pa pn pf pg
  else zb2 (f_X3_take k sg pl pa (59 : Int32)) fun v1 pa1 =>
    if v1 = 0 then some ((0 : Int32), pa1, pk, pn, pf, pg)
    else f_X3_readOrder_b18 k sg pl pa1 pn pf pg
set_option maxRecDepth 100000 in
set_option maxHeartbeats 4000000 in
theorem ct_X3_readOrder (l : Launch) (D : va_G) (ct a st : Nat → Nat) (sg : Nat → Int32) (pl pa pk : Int32) (pn : Nat → Int32) (pf pg : Int32) (sz : Nat) (k : Nat) (r pa' pk' : Int32) (pn' : Nat → Int32) (pf' pg' : Int32) (h : f_X3_readOrder k sg pl pa pk pn pf pg = some (r, pa', pk', pn', pf', pg')) : Met l yX3_readOrder (Cond.code yX3_readOrder cX3_readOrder 3 (some .boolean) :: zT) ({ frames := 4, cells := 0, slots := 0, locals := 88 } : Room) (va_Pc [.ref (a 10)] (zPZ D (zTys ct) st (wX3 ct a sg pl pa pk pn pf pg) sz)) (va_Qi (fun r' (_ : Unit) => r' = r) (zQW D (wX3 ct a sg pl pa pk pn pf pg) sz (wX3 ct a sg pl pa' pk' pn' pf' pg')) (va_A (wX3 ct a sg pl pa pk pn pf pg) sz)) 0 0 (va_A (wX3 ct a sg pl pa pk pn pf pg) sz) := by
  refine zMet (cc := cX3_readOrder) (maxL := 3) (ret := (some .boolean)) (av := [.ref (a 10)]) (by decide) (Nat.le_of_ble_eq_true rfl) (fun p e s m below meth c ls hx hb hr hml hts hown hlocks hin hB hl => ?_)
  have hl : lv_has ls 3 [(0, .ref (a 10))] := hl
  have hown : s.vm.findClass RX3 = some m.cls := hown
  obtain ⟨⟨hsz, hP, hK, hD0⟩, hZ⟩ := hB
  subst hsz
  have hD := hD0.self (sz := s.heap.size)
  obtain ⟨A, hAe⟩ : ∃ A, A = va_A (wX3 ct a sg pl pa pk pn pf pg) s.heap.size := ⟨_, rfl⟩
  rw [← hAe] at hD hZ
  have hA : ∀ q : Nat, s.heap.size ≤ q → A q := fun q h => by rw [hAe]; exact Or.inr h
  have hS : va_S A s.heap s.heap [] := va_S.rf
  have ok : ∀ w ∈ zT, w.before _ s = true := fun w h => hts w (List.mem_cons_of_mem _ h)
  have B65 : ∀ (i : Nat) (hi : i < 8) (pk1 : Int32) (n : Nat) (qa : Int32) (qn : Nat → Int32) (qf qg x2 : Int32), f_X3_readOrder_b65 k sg pl pk1 i n qa qn qf qg x2 = some (r, pa', pk', pn', pf', pg') → ∀ (H : Heap) (locs : List Loc), va_P D vwCl (wX3 ct a sg pl qa pk1 qn qf qg) H → va_D A (wX3 ct a sg pl qa pk1 qn qf qg) → va_S A s.heap H locs → ∀ (ls : Array Slot), lv_has ls 3 [(0, .ref (a 10)), (1, .ref (st (10 + i))), (2, .int x2)] → W p l e ({ frames := 4, cells := 0, slots := 0, locals := 88 } : Room) s m ([.ref (a 10)] : List Value).toArray below meth c H locs 0 0 (MQ below (va_Qi (fun r' (_ : Unit) => r' = r) (zQW D (wX3 ct a sg pl pa pk pn pf pg) s.heap.size (wX3 ct a sg pl pa' pk' pn' pf' pg')) (va_A (wX3 ct a sg pl pa pk pn pf pg) s.heap.size)) ([.ref (a 10)] : List Value).toArray s 0 0 (va_A (wX3 ct a sg pl pa pk pn pf pg) s.heap.size)) (F0 m 65 ls []) := by
    intro i hi pk1 n
    induction n with
    | zero => intro qa qn qf qg x2 h; exact absurd h (by rw [f_X3_readOrder_b65]; exact fun q => nomatch q)
    | succ n ih =>
      intro qa qn qf qg x2 h H locs hP hD hS ls hl
      rw [f_X3_readOrder_b65] at h
      have hlt := zSl_lt i hi
      refine lv_iload_n hx hb dX3_readOrder_65 rfl (lv_at hl 2 rfl) ?_
      refine lv_aload_n hx hb dX3_readOrder_66 rfl (lv_at hl 1 rfl) ?_
      refine zE_i (zrV (C := RJ0) (As := []) (rest := [.int x2]) hx hb hml hown hts tw677 mv_J0_length_8abf5 ⟨Nat.le_of_ble_eq_true rfl, Nat.le_of_ble_eq_true rfl⟩ rfl rfl (ct_J0_length_8abf5 l st i hi) (z_kv hi hZ hS) hl.1 rfl rfl (Nat.le_of_ble_eq_true rfl) dX3_readOrder_67 ⟨Nat.le_refl _, Nat.le_refl _⟩) ?_
      refine zc_ge (tgt := 93) hx hb dX3_readOrder_70 (by decide) h (fun h => ?_) (fun h => ?_)
      · cases h
        refine lv_iconst (v := (1 : Int32)) hx hb dX3_readOrder_93 (by decide) ?_
        exact zX_z hx hb hr hlocks hP hD hS hAe dX3_readOrder_94 (by decide) rfl
      · obtain ⟨hn, h⟩ := zg_s h
        obtain ⟨j, hj, rfl⟩ := vp_in_of (zin_s hn) (by omega)
        rw [nI_clamp (show j < 2 ^ 31 by omega)] at h
        refine lv_aload_n hx hb dX3_readOrder_73 rfl (lv_at hl 0 rfl) ?_
        refine lv_aload_n hx hb dX3_readOrder_74 rfl (lv_at hl 1 rfl) ?_
        refine lv_iload_n hx hb dX3_readOrder_75 rfl (lv_at hl 2 rfl) ?_
        refine zE_i (zrV (C := RJ0) (As := [.int (nI j)]) (rest := [.ref (a 10)]) hx hb hml hown hts tw687 mv_J0_charAt_5068e ⟨Nat.le_of_ble_eq_true rfl, Nat.le_of_ble_eq_true rfl⟩ rfl rfl (ct_J0_charAt_5068e l st i hi j hj) (z_kv hi hZ hS) hl.1 rfl rfl (Nat.le_of_ble_eq_true rfl) dX3_readOrder_76 ⟨Nat.le_refl _, Nat.le_refl _⟩) ?_
        obtain ⟨v1, pa2, pn3, pf4, pg5, hc, h⟩ := zb5_s h
        refine zG_i (w1 := wX3 ct a sg pl pa2 pk1 pn3 pf4 pg5) (ws' := wX3 ct a sg pl pa2 pk1 pn3 pf4 pg5) hP hD hS hA [0, 1, 2] [] [0, 1, 2] rfl rfl (by decide) (by decide) rfl (by decide) (zrV (C := RX3) (As := [.int (zSc i j)]) (rest := []) hx hb hml hown hts tw725 mv_X3_readPart ⟨Nat.le_of_ble_eq_true rfl, Nat.le_of_ble_eq_true rfl⟩ rfl rfl (ct_X3_readPart l D ct a sg pl qa pk1 qn qf qg _ (zSc i j) k v1 pa2 pn3 pf4 pg5 hc) (z_wv hK hP hD [0, 1, 2] (by decide) rfl 0 rfl rfl) hl.1 rfl rfl (Nat.le_of_ble_eq_true rfl) dX3_readOrder_79 ⟨Nat.le_refl _, Nat.le_refl _⟩) (fun H locs hP hD hS => ?_)
        refine zi_ne (tgt := 87) hx hb dX3_readOrder_82 (by decide) h (fun h => ?_) (fun h => ?_)
        · refine o_nm h (fun v6 ey h => ?_)
          refine lv_iinc (v := v6) (lv' := [(2, .int v6), (0, .ref (a 10)), (1, .ref (st (10 + i)))]) hx hb dX3_readOrder_87 hl (k := 2) rfl (Eq.trans rfl ey) (by decide) rfl (fun ls hl => ?_)
          refine lv_goto (tgt := 65) hx hb dX3_readOrder_90 (by decide) ?_
          exact ih pa2 pn3 pf4 pg5 v6 h _ _ hP hD hS ls (lv_sub hl [1, 2, 0] rfl)
        · cases h
          refine lv_iconst (v := (0 : Int32)) hx hb dX3_readOrder_85 (by decide) ?_
          exact zX_z hx hb hr hlocks hP hD hS hAe dX3_readOrder_86 (by decide) rfl
  have B18 : ∀ (qa : Int32), f_X3_readOrder_b18 k sg pl qa pn pf pg = some (r, pa', pk', pn', pf', pg') → ∀ (H : Heap) (locs : List Loc), va_P D vwCl (wX3 ct a sg pl qa pk pn pf pg) H → va_D A (wX3 ct a sg pl qa pk pn pf pg) → va_S A s.heap H locs → W p l e ({ frames := 4, cells := 0, slots := 0, locals := 88 } : Room) s m ([.ref (a 10)] : List Value).toArray below meth c H locs 0 0 (MQ below (va_Qi (fun r' (_ : Unit) => r' = r) (zQW D (wX3 ct a sg pl pa pk pn pf pg) s.heap.size (wX3 ct a sg pl pa' pk' pn' pf' pg')) (va_A (wX3 ct a sg pl pa pk pn pf pg) s.heap.size)) ([.ref (a 10)] : List Value).toArray s 0 0 (va_A (wX3 ct a sg pl pa pk pn pf pg) s.heap.size)) (F0 m 18 ls []) := by
    intro qa h H locs hP hD hS
    rw [f_X3_readOrder_b18] at h
    refine lv_aload_n hx hb dX3_readOrder_18 rfl (lv_at hl 0 rfl) ?_
    refine lv_aload_n hx hb dX3_readOrder_19 rfl (lv_at hl 0 rfl) ?_
    obtain ⟨v1, hc, h⟩ := zb1_s h
    refine zE_i (zrV (C := RX3) (As := []) (rest := [.ref (a 10)]) hx hb hml hown hts tw658 mv_X3_sign ⟨Nat.le_of_ble_eq_true rfl, Nat.le_of_ble_eq_true rfl⟩ rfl rfl (ct_X3_sign l D ct a sg pl qa pk pn pf pg k v1 hc) (z_pv hK hP [0, 1, 2] rfl 0 rfl rfl) hl.1 rfl rfl (Nat.le_of_ble_eq_true rfl) dX3_readOrder_20 ⟨Nat.le_refl _, Nat.le_refl _⟩) ?_
    refine z_puti (C := RX3) (T := TX3) (N := 7) (ci := 2) hx hb hts zin_X3 tyX3 tyX3_ok nmX3 hown hK.1 hP hD hS 0 3 rfl rfl (by decide) tw168 rfl rfl (by decide +kernel) (Nat.le_of_ble_eq_true rfl) h dX3_readOrder_23 (fun pk1 H locs h hP hD hS => ?_)
    have hP : va_P D vwCl (wX3 ct a sg pl qa pk1 pn pf pg) H := hP
    have hD : va_D A (wX3 ct a sg pl qa pk1 pn pf pg) := hD
    have hi := zPi_lt pk1
    refine lv_aload_n hx hb dX3_readOrder_26 rfl (lv_at hl 0 rfl) ?_
    refine z_get (C := RX3) (T := TX3) (N := 7) (ci := 2) hx hb hts zin_X3 hown hK.1 hP 0 3 rfl rfl (by decide) tw168 rfl rfl dX3_readOrder_27 ?_
    refine zE_r (zrS (As := [.int pk1]) (rest := []) hx hb hml hown hts tw662 ms_X3_partsOf ⟨Nat.le_of_ble_eq_true rfl, Nat.le_of_ble_eq_true rfl⟩ rfl rfl (ct_X3_partsOf l st pk1) (z_ks hZ hS) hl.1 rfl rfl (Nat.le_of_ble_eq_true rfl) dX3_readOrder_30 ⟨Nat.le_refl _, Nat.le_refl _⟩) ?_
    refine lv_astore_n (lv' := [(1, .ref (st (10 + zPi pk1))), (0, .ref (a 10))]) hx hb dX3_readOrder_33 rfl hl (by decide) rfl (fun ls hl => ?_)
    refine lv_aload_n hx hb dX3_readOrder_34 rfl (lv_at hl 0 rfl) ?_
    refine zE_i (zrV (C := RJ0) (As := []) (rest := []) hx hb hml hown hts tw673 mv_J0_isEmpty_aae02 ⟨Nat.le_of_ble_eq_true rfl, Nat.le_of_ble_eq_true rfl⟩ rfl rfl (ct_J0_isEmpty_aae02 l st _ hi) (z_kv hi hZ hS) hl.1 rfl rfl (Nat.le_of_ble_eq_true rfl) dX3_readOrder_35 ⟨Nat.le_refl _, Nat.le_refl _⟩) ?_
    refine lv_if_eq (tgt := 43) hx hb dX3_readOrder_38 (by decide) (fun q => ?_) (fun q => ?_)
    · rw [if_neg (fun z => by rw [if_pos z] at q; exact absurd q (by decide))] at h
      refine lv_aload_n hx hb dX3_readOrder_43 rfl (lv_at hl 1 rfl) ?_
      refine lv_dup hx hb dX3_readOrder_44 rfl ?_
      refine z_get (C := RX3) (T := TX3) (N := 7) (ci := 2) hx hb hts zin_X3 hown hK.1 hP 0 2 rfl rfl (by decide) tw167 rfl rfl dX3_readOrder_45 ?_
      refine lv_iconst (v := (1 : Int32)) hx hb dX3_readOrder_48 (by decide) ?_
      refine lv_iadd hx hb dX3_readOrder_49 ?_
      refine z_puti (C := RX3) (T := TX3) (N := 7) (ci := 2) hx hb hts zin_X3 tyX3 tyX3_ok nmX3 hown hK.1 hP hD hS 0 2 rfl rfl (by decide) tw167 rfl rfl (by decide +kernel) (Nat.le_of_ble_eq_true rfl) h dX3_readOrder_50 (fun pa1 H locs h hP hD hS => ?_)
      have hP : va_P D vwCl (wX3 ct a sg pl pa1 pk1 pn pf pg) H := hP
      have hD : va_D A (wX3 ct a sg pl pa1 pk1 pn pf pg) := hD
      refine lv_aload_n hx hb dX3_readOrder_53 rfl (lv_at hl 1 rfl) ?_
      refine lv_iconst (v := (0 : Int32)) hx hb dX3_readOrder_54 (by decide) ?_
      refine z_puti (C := RX3) (T := TX3) (N := 7) (ci := 2) hx hb hts zin_X3 tyX3 tyX3_ok nmX3 hown hK.1 hP hD hS 0 5 rfl rfl (by decide) tw170 rfl rfl (by decide +kernel) (Nat.le_of_ble_eq_true rfl) h dX3_readOrder_55 (fun pf1 H locs h hP hD hS => ?_)
      have hP : va_P D vwCl (wX3 ct a sg pl pa1 pk1 pn pf1 pg) H := hP
      have hD : va_D A (wX3 ct a sg pl pa1 pk1 pn pf1 pg) := hD
      refine lv_aload_n hx hb dX3_readOrder_58 rfl (lv_at hl 1 rfl) ?_
      refine lv_iconst (v := (0 : Int32)) hx hb dX3_readOrder_59 (by decide) ?_
      refine z_putz (C := RX3) (T := TX3) (N := 7) (ci := 2) hx hb hts zin_X3 tyX3 tyX3_ok nmX3 hown hK.1 hP hD hS 0 6 rfl rfl (by decide) tw171 rfl rfl (by decide +kernel) (Nat.le_of_ble_eq_true rfl) h dX3_readOrder_60 (fun pg1 H locs h hP hD hS => ?_)
      have hP : va_P D vwCl (wX3 ct a sg pl pa1 pk1 pn pf1 pg1) H := hP
      have hD : va_D A (wX3 ct a sg pl pa1 pk1 pn pf1 pg1) := hD
      refine lv_iconst (v := (0 : Int32)) hx hb dX3_readOrder_63 (by decide) ?_
      refine lv_istore_n (lv' := [(2, .int (0 : Int32)), (1, .ref (st (10 + zPi pk1))), (0, .ref (a 10))]) hx hb dX3_readOrder_64 rfl hl (by decide) rfl (fun ls hl => ?_)
      exact B65 _ hi pk1 k pa1 pn pf1 pg1 0 h _ _ hP hD hS ls (lv_sub hl [2, 1, 0] rfl)
    · rw [if_pos (Decidable.byContradiction (fun z => q (if_neg z)))] at h
      cases h
      refine lv_iconst (v := (0 : Int32)) hx hb dX3_readOrder_41 (by decide) ?_
      exact zX_z hx hb hr hlocks hP hD hS hAe dX3_readOrder_42 (by decide) rfl
  rw [f_X3_readOrder] at h
  refine lv_aload_n hx hb dX3_readOrder_0 rfl (lv_at hl 0 rfl) ?_
  refine z_get (C := RX3) (T := TX3) (N := 7) (ci := 2) hx hb hts zin_X3 hown hK.1 hP 0 2 rfl rfl (by decide) tw167 rfl rfl dX3_readOrder_1 ?_
  refine zi_le (tgt := 18) hx hb dX3_readOrder_4 (by decide) h (fun h => ?_) (fun h => ?_)
  · exact B18 pa h _ _ hP hD hS
  refine lv_aload_n hx hb dX3_readOrder_7 rfl (lv_at hl 0 rfl) ?_
  refine lv_bipush (v := (59 : Int32)) hx hb dX3_readOrder_8 (by decide) ?_
  obtain ⟨v1, pa1, hc, h⟩ := zb2_s h
  refine zG_i (w1 := wX3 ct a sg pl pa1 pk pn pf pg) (ws' := wX3 ct a sg pl pa1 pk pn pf pg) hP hD hS hA [0, 1, 2] [] [0, 1, 2] rfl rfl (by decide) (by decide) rfl (by decide) (zrV (C := RX3) (As := [.int (59 : Int32)]) (rest := []) hx hb hml hown hts tw654 mv_X3_take ⟨Nat.le_of_ble_eq_true rfl, Nat.le_of_ble_eq_true rfl⟩ rfl rfl (ct_X3_take l D ct a sg pl pa pk pn pf pg _ (59 : Int32) k v1 pa1 hc) (z_wv hK hP hD [0, 1, 2] (by decide) rfl 0 rfl rfl) hl.1 rfl rfl (Nat.le_of_ble_eq_true rfl) dX3_readOrder_10 ⟨Nat.le_refl _, Nat.le_refl _⟩) (fun H locs hP hD hS => ?_)
  refine zi_ne (tgt := 18) hx hb dX3_readOrder_13 (by decide) h (fun h => ?_) (fun h => ?_)
  · exact B18 pa1 h _ _ hP hD hS
  · cases h
    refine lv_iconst (v := (0 : Int32)) hx hb dX3_readOrder_16 (by decide) ?_
    exact zX_z hx hb hr hlocks hP hD hS hAe dX3_readOrder_17 (by decide) rfl
