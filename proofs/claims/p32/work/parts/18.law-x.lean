/-! THE LAW'S LOOP (wip/p32/gen_law.py) -/
theorem o_sld {p : Program} {l : Launch} {e : Env} {R : Room} {s : State} {m : MethodId} {args : Array Value} {below : List Frame} {meth : Method} {c : Code} {H : Heap} {locs : List Loc} {cells slots : Nat} {Q : State → Prop} {cc : ByteArray} {pc : Nat} {ls : Array Slot} {rest : List Value} {A : Nat → Prop} {H0 : Heap} {ρ : Type} {r : ρ} {K : Int32 → Option ρ} (hexec : p.tables.exec = Jvm.exec) (hb : c.code = cc) {b L : Nat} {xs : Nat → Int32} (hX : va_X b L xs s H0) (hbl : b < H0.size) (hbA : ¬ A b) (hS : va_S A H0 H locs) {i : Int32} (h : zg (zin i L) (zl (xs i.toNatClampNeg) K) = some r) (hdg : decode cc pc = .ok (.iaload, 1))
    (kk : ∀ v : Int32, K v = some r → W p l e R s m args below meth c H locs cells slots Q (F0 m (pc + 1) ls (.int v :: rest))) : W p l e R s m args below meth c H locs cells slots Q (F0 m pc ls (.int i :: .ref b :: rest)) :=
  va_sld hexec hb hX hbl hbA hS (zin_s (zg_s h).1) hdg (kk _ (zg_s h).2)
/-- a call that reads the script -/
theorem z_px {s : State} {A : Nat → Prop} {H : Heap} {locs : List Loc} {b L : Nat} {xs : Nat → Int32} {As : List Value} (hX : va_X b L xs s s.heap) (hbl : b < s.heap.size) (hbA : ¬ A b) (hS : va_S A s.heap H locs) : PreS s H (va_Pc As (fun U => va_X b L xs U U.heap ∧ b < U.heap.size)) As :=
  ⟨fun a U g mk q => ⟨q.1, va_X.moved (u := U) (U := U.calling g mk a) (Vm.Alike.refl U.vm) q.2.1, q.2.2⟩, fun U hU hW => ⟨rfl, by rw [hU]; exact (hX.kept (hS.2.1 b hbl hbA)).moved hW.alike, by rw [hU]; exact Nat.lt_of_lt_of_le hbl hS.1⟩⟩
def f_L_cell (k : Nat) (L : Nat) (xs : Nat → Int32) (p2 : Int32) : Option Int32 :=
  if Int32.ofNat L ≤ p2 then
    zl ((40503 : Int32) * p2) fun v1 =>
    zl (v1 + (977 : Int32)) fun v2 =>
    some v2
  else
    zg (zin p2 L) (zl (xs p2.toNatClampNeg) fun v3 =>
    some v3)
set_option maxRecDepth 100000 in
set_option maxHeartbeats 4000000 in
theorem ct_L_cell (l : Launch) (b L : Nat) (xs : Nat → Int32) (p2 : Int32) (k : Nat) (r : Int32) (h : f_L_cell k L xs p2 = some r) : Met l yL_cell (Cond.code yL_cell cL_cell 2 (some .int) :: zT) ({ frames := 0, cells := 0, slots := 0, locals := 0 } : Room) (va_Pc [.ref b, .int p2] (fun U => va_X b L xs U U.heap ∧ b < U.heap.size)) (vp_Si (fun r' => r' = r)) 0 0 (fun _ => False) := by
  refine zMet (cc := cL_cell) (maxL := 2) (ret := (some .int)) (av := [.ref b, .int p2]) (by decide) (Nat.le_of_ble_eq_true rfl) (fun p e s m below meth c ls hx hb hr hml hts hown hlocks hin hB hl => ?_)
  have hl : lv_has ls 2 [(0, .ref b), (1, .int p2)] := hl
  have hown : s.vm.findClass RL = some m.cls := hown
  obtain ⟨hX, hbl⟩ := hB
  have hbA : ¬ (fun _ => False : Nat → Prop) b := fun q => q
  have hS : va_S (fun _ => False : Nat → Prop) s.heap s.heap [] := va_S.rf
  rw [f_L_cell] at h
  refine lv_iload_n hx hb dL_cell_0 rfl (lv_at hl 1 rfl) ?_
  refine lv_aload_n hx hb dL_cell_1 rfl (lv_at hl 0 rfl) ?_
  refine va_slen hx hb hX hbl hbA hS dL_cell_2 ?_
  refine zc_ge (tgt := 12) hx hb dL_cell_3 (by decide) h (fun h => ?_) (fun h => ?_)
  · refine lv_ldc (v := (40503 : Int32)) hx hb hown (hts _ (List.mem_cons_of_mem _ tw253)) dL_cell_12 ?_
    refine lv_iload_n hx hb dL_cell_14 rfl (lv_at hl 1 rfl) ?_
    refine o_imul hx hb dL_cell_15 h (fun v1 h => ?_)
    refine lv_sipush (v := (977 : Int32)) hx hb dL_cell_16 (by decide) ?_
    refine o_iadd hx hb dL_cell_19 h (fun v2 h => ?_)
    exact zR_i hx hb hr hlocks dL_cell_20 h
  · refine lv_aload_n hx hb dL_cell_6 rfl (lv_at hl 0 rfl) ?_
    refine lv_iload_n hx hb dL_cell_7 rfl (lv_at hl 1 rfl) ?_
    refine o_sld hx hb hX hbl hbA hS h dL_cell_8 (fun v3 h => ?_)
    refine lv_goto (tgt := 20) hx hb dL_cell_9 (by decide) ?_
    exact zR_i hx hb hr hlocks dL_cell_20 h
def f_L_law_b190 (k : Nat) (L : Nat) (xs : Nat → Int32) (pl : Int32) (k61 : (Nat → Int32) → (Nat → Nat → Int32) → Int32 → Int32 → Int32 → Int32 → Int32 → Option (Int32)) (f_ : Nat → Int32) (g_ : Nat → Nat → Int32) (nx_ : Int32) (hz_ : Int32) (x3 : Int32) (x4 : Int32) (y0 : Int32) : Option (Int32) :=
  zl (x4 + (1 : Int32)) fun v21 =>
  k61 f_ g_ nx_ hz_ y0 x3 v21
def f_L_law_b189 (k : Nat) (L : Nat) (xs : Nat → Int32) (pl : Int32) (k61 : (Nat → Int32) → (Nat → Nat → Int32) → Int32 → Int32 → Int32 → Int32 → Int32 → Option (Int32)) (f_ : Nat → Int32) (g_ : Nat → Nat → Int32) (nx_ : Int32) (hz_ : Int32) (x3 : Int32) (x4 : Int32) : Option (Int32) :=
  f_L_law_b190 k L xs pl (k61) f_ g_ nx_ hz_ x3 x4 (0 : Int32)
def f_L_law_b185 (k : Nat) (L : Nat) (xs : Nat → Int32) (pl : Int32) (k61 : (Nat → Int32) → (Nat → Nat → Int32) → Int32 → Int32 → Int32 → Int32 → Int32 → Option (Int32)) (f_ : Nat → Int32) (g_ : Nat → Nat → Int32) (nx_ : Int32) (hz_ : Int32) (x3 : Int32) (x4 : Int32) : Option (Int32) :=
  f_L_law_b190 k L xs pl (k61) f_ g_ nx_ hz_ x3 x4 (1 : Int32)
def f_L_law_b150 (k : Nat) (L : Nat) (xs : Nat → Int32) (pl : Int32) (k61 : (Nat → Int32) → (Nat → Nat → Int32) → Int32 → Int32 → Int32 → Int32 → Int32 → Option (Int32)) (f_ : Nat → Int32) (g_ : Nat → Nat → Int32) (nx_ : Int32) (hz_ : Int32) (x3 : Int32) (x4 : Int32) (y0 : Int32) (y1 : Int32) : Option (Int32) :=
  if y1 = y0 then
    zb1 (f_L_holds k f_ hz_ pl) fun v22 =>
    if v22 = 0 then
      f_L_law_b189 k L xs pl (k61) f_ g_ nx_ hz_ x3 x4
    else
      zl (x4 - x4 / (4 : Int32) * (4 : Int32)) fun v23 =>
      if v23 = (3 : Int32) then
        zl ((3 : Int32) * x4) fun v24 =>
        zl (v24 + (2 : Int32)) fun v25 =>
        zb1 (f_L_cell k L xs v25) fun v26 =>
        zb5 (f_L_tries k f_ g_ nx_ hz_ pl v26) fun v27 f28 g29 nx30 hz31 =>
        if v27 = 0 then
          f_L_law_b189 k L xs pl (k61) f28 g29 nx30 hz31 x3 x4
        else
          f_L_law_b185 k L xs pl (k61) f28 g29 nx30 hz31 x3 x4
      else
        f_L_law_b185 k L xs pl (k61) f_ g_ nx_ hz_ x3 x4
  else
    f_L_law_b189 k L xs pl (k61) f_ g_ nx_ hz_ x3 x4
def f_L_law_b61 (k : Nat) (L : Nat) (xs : Nat → Int32) (pl : Int32)  : Nat → (Nat → Int32) → (Nat → Nat → Int32) → Int32 → Int32 → Int32 → Int32 → Int32 → Option (Int32)
  | 0, _, _, _, _, _, _, _ => none
  | n + 1, f_, g_, nx_, hz_, x2, x3, x4 =>
    if x3 ≤ x4 then
      some x2
    else
      if x2 = 0 then
        some x2
      else
        zb1 (f_X7_count k f_ hz_ pl (16 : Int32)) fun v4 =>
        zl ((3 : Int32) * x4) fun v5 =>
        zb1 (f_L_cell k L xs v5) fun v6 =>
        zb1 (f_L_low k v6 (21 : Int32)) fun v7 =>
        zl ((3 : Int32) * x4) fun v8 =>
        zl (v8 + (1 : Int32)) fun v9 =>
        zb1 (f_L_cell k L xs v9) fun v10 =>
        zl ((3 : Int32) * x4) fun v11 =>
        zl (v11 + (2 : Int32)) fun v12 =>
        zb1 (f_L_cell k L xs v12) fun v13 =>
        zb5 (f_L_change k f_ g_ nx_ hz_ pl v7 v10 v13) fun v14 f15 g16 nx17 hz18 =>
        zb1 (f_X7_count k f15 hz18 pl (16 : Int32)) fun v19 =>
        if 0 ≤ v14 then
          if v4 = (6 : Int32) then
            f_L_law_b150 k L xs pl (f_L_law_b61 k L xs pl n) f15 g16 nx17 hz18 x3 x4 (6 : Int32) v19
          else
            zl (v4 + (1 : Int32)) fun v20 =>
            f_L_law_b150 k L xs pl (f_L_law_b61 k L xs pl n) f15 g16 nx17 hz18 x3 x4 v20 v19
        else
          f_L_law_b150 k L xs pl (f_L_law_b61 k L xs pl n) f15 g16 nx17 hz18 x3 x4 v4 v19
def f_L_law_b57 (k : Nat) (L : Nat) (xs : Nat → Int32) (pl : Int32)  (f_ : Nat → Int32) (g_ : Nat → Nat → Int32) (nx_ : Int32) (hz_ : Int32) (x2 : Int32) (y0 : Int32) : Option (Int32) :=
  f_L_law_b61 k L xs pl k f_ g_ nx_ hz_ x2 y0 (0 : Int32)
def f_L_law_b38 (k : Nat) (L : Nat) (xs : Nat → Int32) (pl : Int32)  (f_ : Nat → Int32) (g_ : Nat → Nat → Int32) (nx_ : Int32) (hz_ : Int32) (y0 : Int32) : Option (Int32) :=
  zl (Int32.ofNat L / (3 : Int32)) fun v2 =>
  if v2 ≤ (32 : Int32) then
    zl (Int32.ofNat L / (3 : Int32)) fun v3 =>
    f_L_law_b57 k L xs pl f_ g_ nx_ hz_ y0 v3
  else
    f_L_law_b57 k L xs pl f_ g_ nx_ hz_ y0 (32 : Int32)
def f_L_law_b37 (k : Nat) (L : Nat) (xs : Nat → Int32) (pl : Int32)  (f_ : Nat → Int32) (g_ : Nat → Nat → Int32) (nx_ : Int32) (hz_ : Int32) : Option (Int32) :=
  f_L_law_b38 k L xs pl f_ g_ nx_ hz_ (0 : Int32)
def f_law (k : Nat) (L : Nat) (xs : Nat → Int32) (f : Nat → Int32) (g : Nat → Nat → Int32) (nx : Int32) (hz : Int32) (pl : Int32) : Option Int32 :=
  zb1 (f_L_holds k f hz pl) fun v1 =>
  if v1 = 0 then
    f_L_law_b37 k L xs pl f g nx hz
  else
    zb4 (f_X7_undo k f g nx hz) fun v32 f33 nx34 hz35 =>
    if v32 = (-5 : Int32) then
      zb1 (f_X7_meanWeight k f33) fun v36 =>
      zl (lg_cmp v36 (0 : Int64)) fun v37 =>
      if v37 = 0 then
        f_L_law_b38 k L xs pl f33 g nx34 hz35 (1 : Int32)
      else
        f_L_law_b37 k L xs pl f33 g nx34 hz35
    else
      f_L_law_b37 k L xs pl f33 g nx34 hz35
set_option maxRecDepth 100000 in
set_option maxHeartbeats 16000000 in
theorem law_walk (l : Launch) (D : va_G) (ct a st : Nat → Nat) {p : Program} {e : Env} {s : State} {m : MethodId} {below : List Frame} {meth : Method} {c : Code} {Q : State → Prop} {A : Nat → Prop} {a0 : Cond} {b L cells slots : Nat} {xs : Nat → Int32} (f : Nat → Int32) (g : Nat → Nat → Int32) (nx : Int32) (hz : Int32) (sw : Nat → Nat → Int32) (fl : Nat → Int32) (sg : Nat → Int32) (pl : Int32) (pa : Int32) (pk : Int32) (pn : Nat → Int32) (pf : Int32) (pg : Int32)
    (hx : p.tables.exec = Jvm.exec) (hb : c.code = cL_law) (hml : c.maxLocals = 7) (hown : s.vm.findClass RL = some m.cls) (hts : ∀ w ∈ a0 :: zT, w.before #[Value.ref b] s = true) (hK : zK D (zTys ct) s) (hZ : zZ st A s s.heap) (hA : ∀ q : Nat, s.heap.size ≤ q → A q) (hX : va_X b L xs s s.heap) (hbl : b < s.heap.size) (hbA : ¬ A b) (hcl : cells ≤ 600000) (hsl : slots ≤ 7302250)
    (kret : ∀ (H : Heap) (locs : List Loc) (ls : Array Slot), va_S A s.heap H locs → W p l e room_1 s m #[Value.ref b] below meth c H locs cells slots Q (F0 m 198 ls [.int 1]))
    (k : Nat) (h : f_law k L xs f g nx hz pl = some 1) {H : Heap} {locs : List Loc} (hP : va_P D vwCl (wX7 ct a f g nx hz sw fl sg pl pa pk pn pf pg) H) (hD : va_D A (wX7 ct a f g nx hz sw fl sg pl pa pk pn pf pg)) (hS : va_S A s.heap H locs) {ls : Array Slot} (hl : lv_has ls 7 [(1, .ref (a 0)), (0, .ref b)]) :
    W p l e room_1 s m #[Value.ref b] below meth c H locs cells slots Q (F0 m 8 ls []) := by
  have B190 : ∀ (k61 : (Nat → Int32) → (Nat → Nat → Int32) → Int32 → Int32 → Int32 → Int32 → Int32 → Option (Int32)) (hk61 : ∀ (f_ : Nat → Int32) (g_ : Nat → Nat → Int32) (nx_ : Int32) (hz_ : Int32) (x2 : Int32) (x3 : Int32) (x4 : Int32), k61 f_ g_ nx_ hz_ x2 x3 x4 = some (1 : Int32) → ∀ (H : Heap) (locs : List Loc), va_P D vwCl (wX7 ct a f_ g_ nx_ hz_ sw fl sg pl pa pk pn pf pg) H → va_D A (wX7 ct a f_ g_ nx_ hz_ sw fl sg pl pa pk pn pf pg) → va_S A s.heap H locs → ∀ (ls : Array Slot), lv_has ls 7 [(0, .ref (b)), (1, .ref (a 0)), (2, .int x2), (3, .int x3), (4, .int x4)] → W p l e room_1 s m #[Value.ref b] below meth c H locs cells slots (Q) (F0 m 61 ls [])), ∀ (f_ : Nat → Int32) (g_ : Nat → Nat → Int32) (nx_ : Int32) (hz_ : Int32) (x3 : Int32) (x4 : Int32) (y0 : Int32), f_L_law_b190 k L xs pl k61 f_ g_ nx_ hz_ x3 x4 y0 = some (1 : Int32) → ∀ (H : Heap) (locs : List Loc), va_P D vwCl (wX7 ct a f_ g_ nx_ hz_ sw fl sg pl pa pk pn pf pg) H → va_D A (wX7 ct a f_ g_ nx_ hz_ sw fl sg pl pa pk pn pf pg) → va_S A s.heap H locs → ∀ (ls : Array Slot), lv_has ls 7 [(0, .ref (b)), (1, .ref (a 0)), (3, .int x3), (4, .int x4)] → W p l e room_1 s m #[Value.ref b] below meth c H locs cells slots (Q) (F0 m 190 ls [.int y0]) := by
    intro k61 hk61
    intro f_ g_ nx_ hz_ x3 x4 y0 h H locs hP hD hS ls hl
    rw [f_L_law_b190] at h
    refine lv_istore_n (lv' := [(2, .int y0), (0, .ref (b)), (1, .ref (a 0)), (3, .int x3), (4, .int x4)]) hx hb dL_law_190 rfl hl (by decide) rfl (fun ls hl => ?_)
    refine o_nm h (fun v21 ey h => ?_)
    refine lv_iinc (v := v21) (lv' := [(4, .int v21), (2, .int y0), (0, .ref (b)), (1, .ref (a 0)), (3, .int x3)]) hx hb dL_law_191 hl (k := 4) rfl (Eq.trans rfl ey) (by decide) rfl (fun ls hl => ?_)
    refine lv_goto (tgt := 61) hx hb dL_law_194 (by decide) ?_
    exact hk61 f_ g_ nx_ hz_ y0 x3 v21 h _ _ hP hD hS ls (lv_sub hl [2, 3, 1, 4, 0] rfl)
  have B189 : ∀ (k61 : (Nat → Int32) → (Nat → Nat → Int32) → Int32 → Int32 → Int32 → Int32 → Int32 → Option (Int32)) (hk61 : ∀ (f_ : Nat → Int32) (g_ : Nat → Nat → Int32) (nx_ : Int32) (hz_ : Int32) (x2 : Int32) (x3 : Int32) (x4 : Int32), k61 f_ g_ nx_ hz_ x2 x3 x4 = some (1 : Int32) → ∀ (H : Heap) (locs : List Loc), va_P D vwCl (wX7 ct a f_ g_ nx_ hz_ sw fl sg pl pa pk pn pf pg) H → va_D A (wX7 ct a f_ g_ nx_ hz_ sw fl sg pl pa pk pn pf pg) → va_S A s.heap H locs → ∀ (ls : Array Slot), lv_has ls 7 [(0, .ref (b)), (1, .ref (a 0)), (2, .int x2), (3, .int x3), (4, .int x4)] → W p l e room_1 s m #[Value.ref b] below meth c H locs cells slots (Q) (F0 m 61 ls [])), ∀ (f_ : Nat → Int32) (g_ : Nat → Nat → Int32) (nx_ : Int32) (hz_ : Int32) (x3 : Int32) (x4 : Int32), f_L_law_b189 k L xs pl k61 f_ g_ nx_ hz_ x3 x4 = some (1 : Int32) → ∀ (H : Heap) (locs : List Loc), va_P D vwCl (wX7 ct a f_ g_ nx_ hz_ sw fl sg pl pa pk pn pf pg) H → va_D A (wX7 ct a f_ g_ nx_ hz_ sw fl sg pl pa pk pn pf pg) → va_S A s.heap H locs → ∀ (ls : Array Slot), lv_has ls 7 [(0, .ref (b)), (1, .ref (a 0)), (3, .int x3), (4, .int x4)] → W p l e room_1 s m #[Value.ref b] below meth c H locs cells slots (Q) (F0 m 189 ls []) := by
    intro k61 hk61
    intro f_ g_ nx_ hz_ x3 x4 h H locs hP hD hS ls hl
    rw [f_L_law_b189] at h
    refine lv_iconst (v := (0 : Int32)) hx hb dL_law_189 (by decide) ?_
    exact B190 (k61) hk61 f_ g_ nx_ hz_ x3 x4 (0 : Int32) h _ _ hP hD hS ls (lv_sub hl [0, 1, 2, 3] rfl)
  have B185 : ∀ (k61 : (Nat → Int32) → (Nat → Nat → Int32) → Int32 → Int32 → Int32 → Int32 → Int32 → Option (Int32)) (hk61 : ∀ (f_ : Nat → Int32) (g_ : Nat → Nat → Int32) (nx_ : Int32) (hz_ : Int32) (x2 : Int32) (x3 : Int32) (x4 : Int32), k61 f_ g_ nx_ hz_ x2 x3 x4 = some (1 : Int32) → ∀ (H : Heap) (locs : List Loc), va_P D vwCl (wX7 ct a f_ g_ nx_ hz_ sw fl sg pl pa pk pn pf pg) H → va_D A (wX7 ct a f_ g_ nx_ hz_ sw fl sg pl pa pk pn pf pg) → va_S A s.heap H locs → ∀ (ls : Array Slot), lv_has ls 7 [(0, .ref (b)), (1, .ref (a 0)), (2, .int x2), (3, .int x3), (4, .int x4)] → W p l e room_1 s m #[Value.ref b] below meth c H locs cells slots (Q) (F0 m 61 ls [])), ∀ (f_ : Nat → Int32) (g_ : Nat → Nat → Int32) (nx_ : Int32) (hz_ : Int32) (x3 : Int32) (x4 : Int32), f_L_law_b185 k L xs pl k61 f_ g_ nx_ hz_ x3 x4 = some (1 : Int32) → ∀ (H : Heap) (locs : List Loc), va_P D vwCl (wX7 ct a f_ g_ nx_ hz_ sw fl sg pl pa pk pn pf pg) H → va_D A (wX7 ct a f_ g_ nx_ hz_ sw fl sg pl pa pk pn pf pg) → va_S A s.heap H locs → ∀ (ls : Array Slot), lv_has ls 7 [(0, .ref (b)), (1, .ref (a 0)), (3, .int x3), (4, .int x4)] → W p l e room_1 s m #[Value.ref b] below meth c H locs cells slots (Q) (F0 m 185 ls []) := by
    intro k61 hk61
    intro f_ g_ nx_ hz_ x3 x4 h H locs hP hD hS ls hl
    rw [f_L_law_b185] at h
    refine lv_iconst (v := (1 : Int32)) hx hb dL_law_185 (by decide) ?_
    refine lv_goto (tgt := 190) hx hb dL_law_186 (by decide) ?_
    exact B190 (k61) hk61 f_ g_ nx_ hz_ x3 x4 (1 : Int32) h _ _ hP hD hS ls (lv_sub hl [0, 1, 2, 3] rfl)
  have B150 : ∀ (k61 : (Nat → Int32) → (Nat → Nat → Int32) → Int32 → Int32 → Int32 → Int32 → Int32 → Option (Int32)) (hk61 : ∀ (f_ : Nat → Int32) (g_ : Nat → Nat → Int32) (nx_ : Int32) (hz_ : Int32) (x2 : Int32) (x3 : Int32) (x4 : Int32), k61 f_ g_ nx_ hz_ x2 x3 x4 = some (1 : Int32) → ∀ (H : Heap) (locs : List Loc), va_P D vwCl (wX7 ct a f_ g_ nx_ hz_ sw fl sg pl pa pk pn pf pg) H → va_D A (wX7 ct a f_ g_ nx_ hz_ sw fl sg pl pa pk pn pf pg) → va_S A s.heap H locs → ∀ (ls : Array Slot), lv_has ls 7 [(0, .ref (b)), (1, .ref (a 0)), (2, .int x2), (3, .int x3), (4, .int x4)] → W p l e room_1 s m #[Value.ref b] below meth c H locs cells slots (Q) (F0 m 61 ls [])), ∀ (f_ : Nat → Int32) (g_ : Nat → Nat → Int32) (nx_ : Int32) (hz_ : Int32) (x3 : Int32) (x4 : Int32) (y0 : Int32) (y1 : Int32), f_L_law_b150 k L xs pl k61 f_ g_ nx_ hz_ x3 x4 y0 y1 = some (1 : Int32) → ∀ (H : Heap) (locs : List Loc), va_P D vwCl (wX7 ct a f_ g_ nx_ hz_ sw fl sg pl pa pk pn pf pg) H → va_D A (wX7 ct a f_ g_ nx_ hz_ sw fl sg pl pa pk pn pf pg) → va_S A s.heap H locs → ∀ (ls : Array Slot), lv_has ls 7 [(0, .ref (b)), (1, .ref (a 0)), (3, .int x3), (4, .int x4)] → W p l e room_1 s m #[Value.ref b] below meth c H locs cells slots (Q) (F0 m 150 ls [.int y0, .int y1]) := by
    intro k61 hk61
    intro f_ g_ nx_ hz_ x3 x4 y0 y1 h H locs hP hD hS ls hl
    rw [f_L_law_b150] at h
    refine zc_ne (tgt := 189) hx hb dL_law_150 (by decide) h (fun h => ?_) (fun h => ?_)
    · exact B189 (k61) hk61 f_ g_ nx_ hz_ x3 x4 h _ _ hP hD hS ls (lv_sub hl [0, 1, 2, 3] rfl)
    · refine lv_aload_n hx hb dL_law_153 rfl (lv_at hl 1 rfl) ?_
      obtain ⟨v22, hc, h⟩ := zb1_s h
      refine zE_i (zrS (As := [.ref (a 0)]) (rest := []) hx hb hml hown hts tw517 ms_L_holds ⟨Nat.le_of_ble_eq_true rfl, Nat.le_of_ble_eq_true rfl⟩ rfl rfl (ct_L_holds l D ct a f_ g_ nx_ hz_ sw fl sg pl pa pk pn pf pg k v22 hc) (z_ps hK hP [0, 1, 2, 3, 4, 5, 6, 7, 8, 9, 10, 11, 12, 13, 14, 15, 16, 17, 18, 19, 20, 21] rfl) hl.1 rfl rfl (Nat.le_of_ble_eq_true rfl) dL_law_154 ⟨hcl, hsl⟩) ?_
      refine zi_eq (tgt := 189) hx hb dL_law_157 (by decide) h (fun h => ?_) (fun h => ?_)
      · exact B189 (k61) hk61 f_ g_ nx_ hz_ x3 x4 h _ _ hP hD hS ls (lv_sub hl [0, 1, 2, 3] rfl)
      · refine lv_iload hx hb dL_law_160 (lv_at hl 3 rfl) ?_
        refine lv_iconst (v := (4 : Int32)) hx hb dL_law_162 (by decide) ?_
        refine o_irem hx hb dL_law_163 (by decide) h (fun v23 h => ?_)
        refine lv_iconst (v := (3 : Int32)) hx hb dL_law_164 (by decide) ?_
        refine zc_ne (tgt := 185) hx hb dL_law_165 (by decide) h (fun h => ?_) (fun h => ?_)
        · exact B185 (k61) hk61 f_ g_ nx_ hz_ x3 x4 h _ _ hP hD hS ls (lv_sub hl [0, 1, 2, 3] rfl)
        · refine lv_aload_n hx hb dL_law_168 rfl (lv_at hl 1 rfl) ?_
          refine lv_aload_n hx hb dL_law_169 rfl (lv_at hl 0 rfl) ?_
          refine lv_iconst (v := (3 : Int32)) hx hb dL_law_170 (by decide) ?_
          refine lv_iload hx hb dL_law_171 (lv_at hl 3 rfl) ?_
          refine o_imul hx hb dL_law_173 h (fun v24 h => ?_)
          refine lv_iconst (v := (2 : Int32)) hx hb dL_law_174 (by decide) ?_
          refine o_iadd hx hb dL_law_175 h (fun v25 h => ?_)
          obtain ⟨v26, hc, h⟩ := zb1_s h
          refine zE_i (zrS (As := [.ref b, .int v25]) (rest := [.ref (a 0)]) hx hb hml hown hts tw250 ms_L_cell ⟨Nat.le_of_ble_eq_true rfl, Nat.le_of_ble_eq_true rfl⟩ rfl rfl (ct_L_cell l b L xs v25 k v26 hc) (z_px hX hbl hbA hS) hl.1 rfl rfl (Nat.le_of_ble_eq_true rfl) dL_law_176 ⟨hcl, hsl⟩) ?_
          obtain ⟨v27, f28, g29, nx30, hz31, hc, h⟩ := zb5_s h
          refine zG_i (w1 := wX7 ct a f28 g29 nx30 hz31 sw fl sg pl pa pk pn pf pg) (ws' := wX7 ct a f28 g29 nx30 hz31 sw fl sg pl pa pk pn pf pg) hP hD hS hA [0, 1, 2, 3, 4, 5, 6, 7, 8, 9, 10, 11, 12, 13, 14, 15, 16, 17, 18, 19, 20, 21] [] [0, 1, 2, 3, 4, 5, 6, 7, 8, 9, 10, 11, 12, 13, 14, 15, 16, 17, 18, 19, 20, 21] rfl rfl (by decide) (by decide) rfl (by decide) (zrS (As := [.ref (a 0), .int v26]) (rest := []) hx hb hml hown hts tw582 ms_L_tries ⟨Nat.le_of_ble_eq_true rfl, Nat.le_of_ble_eq_true rfl⟩ rfl rfl (ct_L_tries l D ct a f_ g_ nx_ hz_ sw fl sg pl pa pk pn pf pg _ v26 k v27 f28 g29 nx30 hz31 hc) (z_ws hK hP hD [0, 1, 2, 3, 4, 5, 6, 7, 8, 9, 10, 11, 12, 13, 14, 15, 16, 17, 18, 19, 20, 21] (by decide) rfl) hl.1 rfl rfl (Nat.le_of_ble_eq_true rfl) dL_law_179 ⟨hcl, hsl⟩) (fun H locs hP hD hS => ?_)
          refine zi_eq (tgt := 189) hx hb dL_law_182 (by decide) h (fun h => ?_) (fun h => ?_)
          · exact B189 (k61) hk61 f28 g29 nx30 hz31 x3 x4 h _ _ hP hD hS ls (lv_sub hl [0, 1, 2, 3] rfl)
          · exact B185 (k61) hk61 f28 g29 nx30 hz31 x3 x4 h _ _ hP hD hS ls (lv_sub hl [0, 1, 2, 3] rfl)
  have B61 : ∀ (n : Nat), ∀ (f_ : Nat → Int32) (g_ : Nat → Nat → Int32) (nx_ : Int32) (hz_ : Int32) (x2 : Int32) (x3 : Int32) (x4 : Int32), f_L_law_b61 k L xs pl n f_ g_ nx_ hz_ x2 x3 x4 = some (1 : Int32) → ∀ (H : Heap) (locs : List Loc), va_P D vwCl (wX7 ct a f_ g_ nx_ hz_ sw fl sg pl pa pk pn pf pg) H → va_D A (wX7 ct a f_ g_ nx_ hz_ sw fl sg pl pa pk pn pf pg) → va_S A s.heap H locs → ∀ (ls : Array Slot), lv_has ls 7 [(0, .ref (b)), (1, .ref (a 0)), (2, .int x2), (3, .int x3), (4, .int x4)] → W p l e room_1 s m #[Value.ref b] below meth c H locs cells slots (Q) (F0 m 61 ls []) := by
    intro n
    induction n with
    | zero => intro f_ g_ nx_ hz_ x2 x3 x4 h; exact absurd h (by rw [f_L_law_b61]; exact fun q => nomatch q)
    | succ n ih61 =>
      intro f_ g_ nx_ hz_ x2 x3 x4 h H locs hP hD hS ls hl
      rw [f_L_law_b61] at h
      refine lv_iload hx hb dL_law_61 (lv_at hl 4 rfl) ?_
      refine lv_iload_n hx hb dL_law_63 rfl (lv_at hl 3 rfl) ?_
      refine zc_ge (tgt := 197) hx hb dL_law_64 (by decide) h (fun h => ?_) (fun h => ?_)
      · refine lv_iload_n hx hb dL_law_197 rfl (lv_at hl 2 rfl) ?_
        obtain rfl := Option.some.inj h
        exact kret H locs ls hS
      · refine lv_iload_n hx hb dL_law_67 rfl (lv_at hl 2 rfl) ?_
        refine zi_eq (tgt := 197) hx hb dL_law_68 (by decide) h (fun h => ?_) (fun h => ?_)
        · refine lv_iload_n hx hb dL_law_197 rfl (lv_at hl 2 rfl) ?_
          obtain rfl := Option.some.inj h
          exact kret H locs ls hS
        · refine lv_aload_n hx hb dL_law_71 rfl (lv_at hl 1 rfl) ?_
          refine lv_bipush (v := (16 : Int32)) hx hb dL_law_72 (by decide) ?_
          obtain ⟨v4, hc, h⟩ := zb1_s h
          refine zE_i (zrV (C := RX7) (As := [.int (16 : Int32)]) (rest := []) hx hb hml hown hts tw152 mv_X7_count ⟨Nat.le_of_ble_eq_true rfl, Nat.le_of_ble_eq_true rfl⟩ rfl rfl (ct_X7_count l D ct a f_ g_ nx_ hz_ sw fl sg pl pa pk pn pf pg (16 : Int32) k v4 hc) (z_pv hK hP [0, 1, 2, 3, 4, 5, 6, 7, 8, 9, 10, 11, 12, 13, 14, 15, 16, 17, 18, 19, 20, 21] rfl 0 rfl rfl) hl.1 rfl rfl (Nat.le_of_ble_eq_true rfl) dL_law_74 ⟨hcl, hsl⟩) ?_
          refine lv_istore (lv' := [(5, .int v4), (0, .ref (b)), (1, .ref (a 0)), (2, .int x2), (3, .int x3), (4, .int x4)]) hx hb dL_law_77 hl (by decide) rfl (fun ls hl => ?_)
          refine lv_aload_n hx hb dL_law_79 rfl (lv_at hl 2 rfl) ?_
          refine lv_aload_n hx hb dL_law_80 rfl (lv_at hl 1 rfl) ?_
          refine lv_iconst (v := (3 : Int32)) hx hb dL_law_81 (by decide) ?_
          refine lv_iload hx hb dL_law_82 (lv_at hl 5 rfl) ?_
          refine o_imul hx hb dL_law_84 h (fun v5 h => ?_)
          obtain ⟨v6, hc, h⟩ := zb1_s h
          refine zE_i (zrS (As := [.ref b, .int v5]) (rest := [.ref (a 0)]) hx hb hml hown hts tw250 ms_L_cell ⟨Nat.le_of_ble_eq_true rfl, Nat.le_of_ble_eq_true rfl⟩ rfl rfl (ct_L_cell l b L xs v5 k v6 hc) (z_px hX hbl hbA hS) hl.1 rfl rfl (Nat.le_of_ble_eq_true rfl) dL_law_85 ⟨hcl, hsl⟩) ?_
          refine lv_bipush (v := (21 : Int32)) hx hb dL_law_88 (by decide) ?_
          obtain ⟨v7, hc, h⟩ := zb1_s h
          refine zE_i (zrS (As := [.int v6, .int (21 : Int32)]) (rest := [.ref (a 0)]) hx hb hml hown hts tw254 ms_L_low ⟨Nat.le_of_ble_eq_true rfl, Nat.le_of_ble_eq_true rfl⟩ rfl rfl (ct_L_low l v6 (21 : Int32) k v7 hc) z_p0 hl.1 rfl rfl (Nat.le_of_ble_eq_true rfl) dL_law_90 ⟨hcl, hsl⟩) ?_
          refine lv_aload_n hx hb dL_law_93 rfl (lv_at hl 1 rfl) ?_
          refine lv_iconst (v := (3 : Int32)) hx hb dL_law_94 (by decide) ?_
          refine lv_iload hx hb dL_law_95 (lv_at hl 5 rfl) ?_
          refine o_imul hx hb dL_law_97 h (fun v8 h => ?_)
          refine lv_iconst (v := (1 : Int32)) hx hb dL_law_98 (by decide) ?_
          refine o_iadd hx hb dL_law_99 h (fun v9 h => ?_)
          obtain ⟨v10, hc, h⟩ := zb1_s h
          refine zE_i (zrS (As := [.ref b, .int v9]) (rest := [.int v7, .ref (a 0)]) hx hb hml hown hts tw250 ms_L_cell ⟨Nat.le_of_ble_eq_true rfl, Nat.le_of_ble_eq_true rfl⟩ rfl rfl (ct_L_cell l b L xs v9 k v10 hc) (z_px hX hbl hbA hS) hl.1 rfl rfl (Nat.le_of_ble_eq_true rfl) dL_law_100 ⟨hcl, hsl⟩) ?_
          refine lv_aload_n hx hb dL_law_103 rfl (lv_at hl 1 rfl) ?_
          refine lv_iconst (v := (3 : Int32)) hx hb dL_law_104 (by decide) ?_
          refine lv_iload hx hb dL_law_105 (lv_at hl 5 rfl) ?_
          refine o_imul hx hb dL_law_107 h (fun v11 h => ?_)
          refine lv_iconst (v := (2 : Int32)) hx hb dL_law_108 (by decide) ?_
          refine o_iadd hx hb dL_law_109 h (fun v12 h => ?_)
          obtain ⟨v13, hc, h⟩ := zb1_s h
          refine zE_i (zrS (As := [.ref b, .int v12]) (rest := [.int v10, .int v7, .ref (a 0)]) hx hb hml hown hts tw250 ms_L_cell ⟨Nat.le_of_ble_eq_true rfl, Nat.le_of_ble_eq_true rfl⟩ rfl rfl (ct_L_cell l b L xs v12 k v13 hc) (z_px hX hbl hbA hS) hl.1 rfl rfl (Nat.le_of_ble_eq_true rfl) dL_law_110 ⟨hcl, hsl⟩) ?_
          obtain ⟨v14, f15, g16, nx17, hz18, hc, h⟩ := zb5_s h
          refine zG_i (w1 := wX7 ct a f15 g16 nx17 hz18 sw fl sg pl pa pk pn pf pg) (ws' := wX7 ct a f15 g16 nx17 hz18 sw fl sg pl pa pk pn pf pg) hP hD hS hA [0, 1, 2, 3, 4, 5, 6, 7, 8, 9, 10, 11, 12, 13, 14, 15, 16, 17, 18, 19, 20, 21] [] [0, 1, 2, 3, 4, 5, 6, 7, 8, 9, 10, 11, 12, 13, 14, 15, 16, 17, 18, 19, 20, 21] rfl rfl (by decide) (by decide) rfl (by decide) (zrS (As := [.ref (a 0), .int v7, .int v10, .int v13]) (rest := []) hx hb hml hown hts tw258 ms_L_change ⟨Nat.le_of_ble_eq_true rfl, Nat.le_of_ble_eq_true rfl⟩ rfl rfl (ct_L_change l D ct a st f_ g_ nx_ hz_ sw fl sg pl pa pk pn pf pg _ v7 v10 v13 k v14 f15 g16 nx17 hz18 hc) (z_zs hZ hK hP hD hS hA [0, 1, 2, 3, 4, 5, 6, 7, 8, 9, 10, 11, 12, 13, 14, 15, 16, 17, 18, 19, 20, 21] (by decide) rfl) hl.1 rfl rfl (Nat.le_of_ble_eq_true rfl) dL_law_113 ⟨hcl, hsl⟩) (fun H locs hP hD hS => ?_)
          refine lv_istore (lv' := [(6, .int v14), (5, .int v4), (0, .ref (b)), (1, .ref (a 0)), (2, .int x2), (3, .int x3), (4, .int x4)]) hx hb dL_law_116 hl (by decide) rfl (fun ls hl => ?_)
          refine lv_aload_n hx hb dL_law_118 rfl (lv_at hl 3 rfl) ?_
          refine lv_bipush (v := (16 : Int32)) hx hb dL_law_119 (by decide) ?_
          obtain ⟨v19, hc, h⟩ := zb1_s h
          refine zE_i (zrV (C := RX7) (As := [.int (16 : Int32)]) (rest := []) hx hb hml hown hts tw152 mv_X7_count ⟨Nat.le_of_ble_eq_true rfl, Nat.le_of_ble_eq_true rfl⟩ rfl rfl (ct_X7_count l D ct a f15 g16 nx17 hz18 sw fl sg pl pa pk pn pf pg (16 : Int32) k v19 hc) (z_pv hK hP [0, 1, 2, 3, 4, 5, 6, 7, 8, 9, 10, 11, 12, 13, 14, 15, 16, 17, 18, 19, 20, 21] rfl 0 rfl rfl) hl.1 rfl rfl (Nat.le_of_ble_eq_true rfl) dL_law_121 ⟨hcl, hsl⟩) ?_
          refine lv_iload hx hb dL_law_124 (lv_at hl 0 rfl) ?_
          refine zi_ge (tgt := 134) hx hb dL_law_126 (by decide) h (fun h => ?_) (fun h => ?_)
          · refine lv_iload hx hb dL_law_134 (lv_at hl 1 rfl) ?_
            refine lv_bipush (v := (6 : Int32)) hx hb dL_law_136 (by decide) ?_
            refine zc_ne (tgt := 146) hx hb dL_law_138 (by decide) h (fun h => ?_) (fun h => ?_)
            · refine lv_iload hx hb dL_law_146 (lv_at hl 1 rfl) ?_
              refine lv_iconst (v := (1 : Int32)) hx hb dL_law_148 (by decide) ?_
              refine o_iadd hx hb dL_law_149 h (fun v20 h => ?_)
              exact B150 (f_L_law_b61 k L xs pl n) ih61 f15 g16 nx17 hz18 x3 x4 v20 v19 h _ _ hP hD hS ls (lv_sub hl [2, 3, 5, 6] rfl)
            · refine lv_bipush (v := (6 : Int32)) hx hb dL_law_141 (by decide) ?_
              refine lv_goto (tgt := 150) hx hb dL_law_143 (by decide) ?_
              exact B150 (f_L_law_b61 k L xs pl n) ih61 f15 g16 nx17 hz18 x3 x4 (6 : Int32) v19 h _ _ hP hD hS ls (lv_sub hl [2, 3, 5, 6] rfl)
          · refine lv_iload hx hb dL_law_129 (lv_at hl 1 rfl) ?_
            refine lv_goto (tgt := 150) hx hb dL_law_131 (by decide) ?_
            exact B150 (f_L_law_b61 k L xs pl n) ih61 f15 g16 nx17 hz18 x3 x4 v4 v19 h _ _ hP hD hS ls (lv_sub hl [2, 3, 5, 6] rfl)
  have B57 : ∀ (f_ : Nat → Int32) (g_ : Nat → Nat → Int32) (nx_ : Int32) (hz_ : Int32) (x2 : Int32) (y0 : Int32), f_L_law_b57 k L xs pl f_ g_ nx_ hz_ x2 y0 = some (1 : Int32) → ∀ (H : Heap) (locs : List Loc), va_P D vwCl (wX7 ct a f_ g_ nx_ hz_ sw fl sg pl pa pk pn pf pg) H → va_D A (wX7 ct a f_ g_ nx_ hz_ sw fl sg pl pa pk pn pf pg) → va_S A s.heap H locs → ∀ (ls : Array Slot), lv_has ls 7 [(0, .ref (b)), (1, .ref (a 0)), (2, .int x2)] → W p l e room_1 s m #[Value.ref b] below meth c H locs cells slots (Q) (F0 m 57 ls [.int y0]) := by
    intro f_ g_ nx_ hz_ x2 y0 h H locs hP hD hS ls hl
    rw [f_L_law_b57] at h
    refine lv_istore_n (lv' := [(3, .int y0), (0, .ref (b)), (1, .ref (a 0)), (2, .int x2)]) hx hb dL_law_57 rfl hl (by decide) rfl (fun ls hl => ?_)
    refine lv_iconst (v := (0 : Int32)) hx hb dL_law_58 (by decide) ?_
    refine lv_istore (lv' := [(4, .int (0 : Int32)), (3, .int y0), (0, .ref (b)), (1, .ref (a 0)), (2, .int x2)]) hx hb dL_law_59 hl (by decide) rfl (fun ls hl => ?_)
    exact B61 k f_ g_ nx_ hz_ x2 y0 (0 : Int32) h _ _ hP hD hS ls (lv_sub hl [2, 3, 4, 1, 0] rfl)
  have B38 : ∀ (f_ : Nat → Int32) (g_ : Nat → Nat → Int32) (nx_ : Int32) (hz_ : Int32) (y0 : Int32), f_L_law_b38 k L xs pl f_ g_ nx_ hz_ y0 = some (1 : Int32) → ∀ (H : Heap) (locs : List Loc), va_P D vwCl (wX7 ct a f_ g_ nx_ hz_ sw fl sg pl pa pk pn pf pg) H → va_D A (wX7 ct a f_ g_ nx_ hz_ sw fl sg pl pa pk pn pf pg) → va_S A s.heap H locs → ∀ (ls : Array Slot), lv_has ls 7 [(0, .ref (b)), (1, .ref (a 0))] → W p l e room_1 s m #[Value.ref b] below meth c H locs cells slots (Q) (F0 m 38 ls [.int y0]) := by
    intro f_ g_ nx_ hz_ y0 h H locs hP hD hS ls hl
    rw [f_L_law_b38] at h
    refine lv_istore_n (lv' := [(2, .int y0), (0, .ref (b)), (1, .ref (a 0))]) hx hb dL_law_38 rfl hl (by decide) rfl (fun ls hl => ?_)
    refine lv_aload_n hx hb dL_law_39 rfl (lv_at hl 1 rfl) ?_
    refine va_slen hx hb hX hbl hbA hS dL_law_40 ?_
    refine lv_iconst (v := (3 : Int32)) hx hb dL_law_41 (by decide) ?_
    refine o_idiv hx hb dL_law_42 (by decide) h (fun v2 h => ?_)
    refine lv_bipush (v := (32 : Int32)) hx hb dL_law_43 (by decide) ?_
    refine zc_le (tgt := 53) hx hb dL_law_45 (by decide) h (fun h => ?_) (fun h => ?_)
    · refine lv_aload_n hx hb dL_law_53 rfl (lv_at hl 1 rfl) ?_
      refine va_slen hx hb hX hbl hbA hS dL_law_54 ?_
      refine lv_iconst (v := (3 : Int32)) hx hb dL_law_55 (by decide) ?_
      refine o_idiv hx hb dL_law_56 (by decide) h (fun v3 h => ?_)
      exact B57 f_ g_ nx_ hz_ y0 v3 h _ _ hP hD hS ls (lv_sub hl [1, 2, 0] rfl)
    · refine lv_bipush (v := (32 : Int32)) hx hb dL_law_48 (by decide) ?_
      refine lv_goto (tgt := 57) hx hb dL_law_50 (by decide) ?_
      exact B57 f_ g_ nx_ hz_ y0 (32 : Int32) h _ _ hP hD hS ls (lv_sub hl [1, 2, 0] rfl)
  have B37 : ∀ (f_ : Nat → Int32) (g_ : Nat → Nat → Int32) (nx_ : Int32) (hz_ : Int32), f_L_law_b37 k L xs pl f_ g_ nx_ hz_ = some (1 : Int32) → ∀ (H : Heap) (locs : List Loc), va_P D vwCl (wX7 ct a f_ g_ nx_ hz_ sw fl sg pl pa pk pn pf pg) H → va_D A (wX7 ct a f_ g_ nx_ hz_ sw fl sg pl pa pk pn pf pg) → va_S A s.heap H locs → ∀ (ls : Array Slot), lv_has ls 7 [(0, .ref (b)), (1, .ref (a 0))] → W p l e room_1 s m #[Value.ref b] below meth c H locs cells slots (Q) (F0 m 37 ls []) := by
    intro f_ g_ nx_ hz_ h H locs hP hD hS ls hl
    rw [f_L_law_b37] at h
    refine lv_iconst (v := (0 : Int32)) hx hb dL_law_37 (by decide) ?_
    exact B38 f_ g_ nx_ hz_ (0 : Int32) h _ _ hP hD hS ls (lv_sub hl [0, 1] rfl)
  rw [f_law] at h
  refine lv_aload_n hx hb dL_law_8 rfl (lv_at hl 0 rfl) ?_
  obtain ⟨v1, hc, h⟩ := zb1_s h
  refine zE_i (zrS (As := [.ref (a 0)]) (rest := []) hx hb hml hown hts tw517 ms_L_holds ⟨Nat.le_of_ble_eq_true rfl, Nat.le_of_ble_eq_true rfl⟩ rfl rfl (ct_L_holds l D ct a f g nx hz sw fl sg pl pa pk pn pf pg k v1 hc) (z_ps hK hP [0, 1, 2, 3, 4, 5, 6, 7, 8, 9, 10, 11, 12, 13, 14, 15, 16, 17, 18, 19, 20, 21] rfl) hl.1 rfl rfl (Nat.le_of_ble_eq_true rfl) dL_law_9 ⟨hcl, hsl⟩) ?_
  refine zi_eq (tgt := 37) hx hb dL_law_12 (by decide) h (fun h => ?_) (fun h => ?_)
  · exact B37 f g nx hz h _ _ hP hD hS ls (lv_sub hl [1, 0] rfl)
  · refine lv_aload_n hx hb dL_law_15 rfl (lv_at hl 0 rfl) ?_
    obtain ⟨v32, f33, nx34, hz35, hc, h⟩ := zb4_s h
    refine zG_i (w1 := wX7 ct a f33 g nx34 hz35 sw fl sg pl pa pk pn pf pg) (ws' := wX7 ct a f33 g nx34 hz35 sw fl sg pl pa pk pn pf pg) hP hD hS hA [0, 1, 2, 3, 4, 5, 6, 7, 8, 9, 10, 11, 12, 13, 14, 15, 16, 17, 18, 19, 20, 21] [] [0, 1, 2, 3, 4, 5, 6, 7, 8, 9, 10, 11, 12, 13, 14, 15, 16, 17, 18, 19, 20, 21] rfl rfl (by decide) (by decide) rfl (by decide) (zrV (C := RX7) (As := []) (rest := []) hx hb hml hown hts tw228 mv_X7_undo ⟨Nat.le_of_ble_eq_true rfl, Nat.le_of_ble_eq_true rfl⟩ rfl rfl (ct_X7_undo l D ct a f g nx hz sw fl sg pl pa pk pn pf pg _  k v32 f33 nx34 hz35 hc) (z_wv hK hP hD [0, 1, 2, 3, 4, 5, 6, 7, 8, 9, 10, 11, 12, 13, 14, 15, 16, 17, 18, 19, 20, 21] (by decide) rfl 0 rfl rfl) hl.1 rfl rfl (Nat.le_of_ble_eq_true rfl) dL_law_16 ⟨hcl, hsl⟩) (fun H locs hP hD hS => ?_)
    refine lv_bipush (v := (-5 : Int32)) hx hb dL_law_19 (by decide) ?_
    refine zc_ne (tgt := 37) hx hb dL_law_21 (by decide) h (fun h => ?_) (fun h => ?_)
    · exact B37 f33 g nx34 hz35 h _ _ hP hD hS ls (lv_sub hl [1, 0] rfl)
    · refine lv_aload_n hx hb dL_law_24 rfl (lv_at hl 0 rfl) ?_
      obtain ⟨v36, hc, h⟩ := zb1_s h
      refine zE_l (zrV (C := RX7) (As := []) (rest := []) hx hb hml hown hts tw212 mv_X7_meanWeight ⟨Nat.le_of_ble_eq_true rfl, Nat.le_of_ble_eq_true rfl⟩ rfl rfl (ct_X7_meanWeight l D ct a f33 g nx34 hz35 sw fl sg pl pa pk pn pf pg k v36 hc) (z_pv hK hP [0, 1, 2, 3, 4, 5, 6, 7, 8, 9, 10, 11, 12, 13, 14, 15, 16, 17, 18, 19, 20, 21] rfl 0 rfl rfl) hl.1 rfl rfl (Nat.le_of_ble_eq_true rfl) dL_law_25 ⟨hcl, hsl⟩) ?_
      refine lv_lconst (v := (0 : Int64)) hx hb dL_law_28 (by decide) ?_
      refine o_lcmp hx hb dL_law_29 h (fun v37 h => ?_)
      refine zi_ne (tgt := 37) hx hb dL_law_30 (by decide) h (fun h => ?_) (fun h => ?_)
      · exact B37 f33 g nx34 hz35 h _ _ hP hD hS ls (lv_sub hl [1, 0] rfl)
      · refine lv_iconst (v := (1 : Int32)) hx hb dL_law_33 (by decide) ?_
        refine lv_goto (tgt := 38) hx hb dL_law_34 (by decide) ?_
        exact B38 f33 g nx34 hz35 (1 : Int32) h _ _ hP hD hS ls (lv_sub hl [1, 0] rfl)
