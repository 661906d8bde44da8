/-! THE CONSTRUCTORS (wip/whole/gen_init.py) -/
def va_AOA (t : FieldType) (U : State) : Prop := (Cond.arrayOver (.array t)).before #[] U = true
theorem va_AOA.use {t : FieldType} {A : Array Value} {U : State} (h : va_AOA t U) : (Cond.arrayOver (.array t)).before A U = true := h
/-! ===== BEGIN new T[n][m]: the outer array a place, the inner ones among the pooled ===== -/
/-- f, but v at every address of l -/
def vr_up {α : Type} (f : Nat → α) (l : List Nat) (v : α) : Nat → α := fun a => if a ∈ l then v else f a
theorem vr_up_in {α : Type} {f : Nat → α} {l : List Nat} {v : α} {a : Nat} (h : a ∈ l) : vr_up f l v a = v := if_pos h
theorem vr_up_ne {α : Type} {f : Nat → α} {l : List Nat} {v : α} {a : Nat} (h : a ∉ l) : vr_up f l v a = f a := if_neg h
theorem vr_rows {L l : List Nat} {f : Nat → va_E} {e : va_E} (h : ∀ a, a ∈ l → a ∉ L) : va_pl L f ++ l.map (fun a => (a, e)) = va_pl (L ++ l) (vr_up f l e) := by
  unfold va_pl
  rw [List.map_append]
  congr 1
  · apply List.map_congr_left
    intro a ha
    rw [vr_up_ne (fun q => h a q ha)]
  · apply List.map_congr_left
    intro a ha
    rw [vr_up_in ha]
theorem vr_lay {X rows : va_W} {x : Nat × va_E} {pl : va_W} {D : va_G} {cl : List vw_C} {H : Heap} (hP : va_P D cl (((X ++ pl) ++ [x]) ++ rows) H) : va_P D cl ((X ++ [x]) ++ (pl ++ rows)) H := by
  rw [List.append_assoc (X ++ pl)] at hP
  have h := va_P.swap hP
  rw [← List.append_assoc X] at h
  have h2 := va_P.swap h
  rw [List.append_assoc (X ++ [x])] at h2
  exact h2
theorem vr_layD {X rows : va_W} {x : Nat × va_E} {pl : va_W} {A : Nat → Prop} (hD : va_D A (((X ++ pl) ++ [x]) ++ rows)) : va_D A ((X ++ [x]) ++ (pl ++ rows)) := by
  rw [List.append_assoc (X ++ pl)] at hD
  have h := va_D.swap hD
  rw [← List.append_assoc X] at h
  have h2 := va_D.swap h
  rw [List.append_assoc (X ++ [x])] at h2
  exact h2
theorem vr_outer (c : ClassId) (N h0 : Nat) : ∀ i : Nat, Jvm.Free.Multi.outerC c N h0 i = arrV c N (fun j => va_rf (if j < i then some (h0 + 1 + j) else none))
  | 0 => by
    show ({ cls := c, slots := Array.replicate N .null, vm := .none } : Cell) = _
    rw [arrV_new]
    refine congrArg (arrV c N) (funext fun j => ?_)
    simp [va_rf]
  | i + 1 => by
    show (Jvm.Free.Multi.outerC c N h0 i).setSlot i (.ref (h0 + 1 + i)) = _
    rw [vr_outer c N h0 i, arrV_store]
    refine congrArg (arrV c N) (funext fun j => ?_)
    by_cases e : j = i
    · subst e
      simp [updV, va_rf]
    · by_cases h : j < i
      · simp [updV, e, h, Nat.lt_succ_of_lt h]
      · simp [updV, e, h, show ¬ j < i + 1 by omega]
section VGM
variable {p : Program} {l : Launch} {e : Env} {R : Room} {s : State} {m : MethodId} {args : Array Value} {below : List Frame} {meth : Method} {c : Code} {H : Heap} {locs : List Loc} {cells slots : Nat} {Q : State → Prop}
variable {cc : ByteArray} {pc : Nat} {ls : Array Slot} {rest : List Value} {D : va_G} {cl : List vw_C} {A : Nat → Prop} {a : Nat} {tys : List (ClassId × FieldType)} {ws : va_W} {H0 : Heap}
theorem va_mna {X : va_W} {L : List Nat} {f : Nat → va_E} {cc : ByteArray} (hexec : p.tables.exec = Jvm.exec) (hb : c.code = cc) {own : String} {index : Nat} {ty : FieldType} {cy : ClassId} (hown : s.vm.findClass own = some m.cls) (hclink : (Cond.classLink own index ("[" ++ (FieldType.array ty).toString)).before args s = true) (hover : va_AOA ty s) (harr : (Cond.arrayClass ty).before args s = true) (hcy : s.vm.findClass (FieldType.array ty).toString = some cy)
    (hK : va_K D cl tys s) (hP : va_P D cl (X ++ va_pl L f) H) (hD : va_D A (X ++ va_pl L f)) (hS : va_S A H0 H locs) (hA : ∀ q, H0.size ≤ q → A q) {n k : Int32} {N' K' : Nat} {z : vp_A} (hn : ¬ n < 0) (hk : ¬ k < 0) (hN : n.toNatClampNeg = N') (hM : k.toNatClampNeg = K')
    (hb1 : N' * 4 ≤ 536870912) (hb2 : K' * componentBytes ty ≤ 536870912) (hb3 : K' ≤ 536870912) (hdf : fits ty (defaultValue ty) = true) (hdd : (defaultValue ty).isDefault = true) (hcells : cells + (1 + N') ≤ R.cells) (hslots : slots + (N' + N' * K') ≤ R.slots) (hz : ∀ c : ClassId, Jvm.Free.Multi.innerC c K' (defaultValue ty) = vp_cell c z) (hdg : decode cc pc = .ok (.multianewarray index 2, 4))
    (kk : ∀ (q : Nat) (r : Nat → Nat) (cA : ClassId) (H1 : Heap), (∀ i j : Nat, i < N' → j < N' → r i = r j → i = j) → (∀ i : Nat, i < N' → r i ∉ L) → va_K D cl (tys ++ [(cA, .array ty)]) s →
      va_P D cl ((X ++ [(q, .inl (cA, N', .inr (.inr (.inr (.inr (fun i => if i < N' then some (r i) else none))))))]) ++ va_pl (L ++ (List.range N').map r) (vr_up f ((List.range N').map r) (.inl (cy, z)))) H1 → va_D A ((X ++ [(q, .inl (cA, N', .inr (.inr (.inr (.inr (fun i => if i < N' then some (r i) else none))))))]) ++ va_pl (L ++ (List.range N').map r) (vr_up f ((List.range N').map r) (.inl (cy, z)))) → va_S A H0 H1 locs →
      W p l e R s m args below meth c H1 locs (cells + 1 + N') (slots + N' + N' * K') Q (F0 m (pc + 4) ls (.ref q :: rest))) : W p l e R s m args below meth c H locs cells slots Q (F0 m pc ls (.int k :: .int n :: rest)) := by
  subst hN
  subst hM
  intro T hT Xs
  obtain ⟨vm₁, cA, comp, -, fA, fC, hO, -, X', step⟩ := Xs.multianewarray2F hexec hown hclink (va_AOA.use hover) harr (g := F0 m pc ls (.int k :: .int n :: rest)) rfl (by rw [hb]; exact hdg) rfl hn hk hb1 hb2 hb3 hdf hdd hcells hslots
  have ec : some cy = some comp := hcy.symm.trans fC
  cases ec
  generalize hF : Jvm.Free.Multi.fill (T.setVm vm₁) cA cy n.toNatClampNeg k.toNatClampNeg (defaultValue ty) n.toNatClampNeg = F at X' step
  have hTh : (T.setVm vm₁).heap = H := hT
  obtain ⟨f1, f2, -, -⟩ := Jvm.Free.Multi.fill_facts (T.setVm vm₁) cA cy n.toNatClampNeg k.toNatClampNeg (defaultValue ty) n.toNatClampNeg
  rw [hF, hTh] at f1 f2
  have hold : ∀ x : Nat, x < H.size → F.heap[x]? = H[x]? := fun x hx => by
    have := Jvm.Free.Multi.fill_old (T.setVm vm₁) cA cy n.toNatClampNeg k.toNatClampNeg (defaultValue ty) (a := x) (by rw [hTh]; exact hx) n.toNatClampNeg
    rw [hF, hTh] at this
    exact this
  have hrow : ∀ j : Nat, j < n.toNatClampNeg → F.heap[H.size + 1 + j]? = some (vp_cell cy z) := fun j hj => by
    have := Jvm.Free.Multi.fill_inner (T.setVm vm₁) cA cy n.toNatClampNeg k.toNatClampNeg (defaultValue ty) n.toNatClampNeg j hj
    rw [hF, hTh, hz] at this
    exact this
  have hout : Jvm.Free.Multi.outerC cA n.toNatClampNeg H.size n.toNatClampNeg = vp_cell cA (n.toNatClampNeg, .inr (.inr (.inr (.inr (fun i => if i < n.toNatClampNeg then some (H.size + 1 + i) else none))))) := by
    rw [vp_cell_q]
    exact vr_outer cA n.toNatClampNeg H.size n.toNatClampNeg
  rw [hout] at f2
  have hlt : ∀ a, a ∈ L → a < H.size := fun a ha => by
    obtain ⟨k9, hk9⟩ := va_pl_get (X := X) (f := f) ha
    exact (hP k9 _ hk9).lt
  have hnl : ∀ i : Nat, i < n.toNatClampNeg → H.size + 1 + i ∉ L := fun i _ h => by
    have := hlt _ h
    omega
  have hnm : ∀ a, a ∈ (List.range n.toNatClampNeg).map (fun i => H.size + 1 + i) → a ∉ L := fun a ha h => by
    obtain ⟨i, -, rfl⟩ := List.mem_map.mp ha
    have := hlt _ h
    omega
  have hP0 : va_P D cl (X ++ va_pl L f) F.heap := hP.kept (fun k9 x hx => hold x.1 ((hP k9 x hx).lt))
  have hP1 : va_P D cl ((X ++ va_pl L f) ++ [(H.size, .inl (cA, n.toNatClampNeg, .inr (.inr (.inr (.inr (fun i => if i < n.toNatClampNeg then some (H.size + 1 + i) else none))))))]) F.heap := hP0.app (fun k9 x hx => by
    have h0 : k9 < 1 := (List.getElem?_eq_some_iff.mp hx).1
    rw [show k9 = 0 by omega] at hx
    cases hx
    exact f2)
  have hP2 : va_P D cl (((X ++ va_pl L f) ++ [(H.size, .inl (cA, n.toNatClampNeg, .inr (.inr (.inr (.inr (fun i => if i < n.toNatClampNeg then some (H.size + 1 + i) else none))))))]) ++ ((List.range n.toNatClampNeg).map (fun i => H.size + 1 + i)).map (fun a => (a, .inl (cy, z)))) F.heap := hP1.app (fun k9 x hx => by
    obtain ⟨a, ha, rfl⟩ := List.mem_map.mp (List.mem_of_getElem? hx)
    obtain ⟨i, hi, rfl⟩ := List.mem_map.mp ha
    exact hrow i (List.mem_range.mp hi))
  have hD2 : va_D A (((X ++ va_pl L f) ++ [(H.size, .inl (cA, n.toNatClampNeg, .inr (.inr (.inr (.inr (fun i => if i < n.toNatClampNeg then some (H.size + 1 + i) else none))))))]) ++ ((List.range n.toNatClampNeg).map (fun i => H.size + 1 + i)).map (fun a => (a, .inl (cy, z)))) := by
    have hD1 := hD.push (e := .inl (cA, n.toNatClampNeg, .inr (.inr (.inr (.inr (fun i => if i < n.toNatClampNeg then some (H.size + 1 + i) else none)))))) hP rfl (hA _ hS.1)
    generalize hW1 : (X ++ va_pl L f) ++ [(H.size, .inl (cA, n.toNatClampNeg, .inr (.inr (.inr (.inr (fun i => if i < n.toNatClampNeg then some (H.size + 1 + i) else none))))))] = W1 at hD1 hP1 ⊢
    have hle : ∀ (k9 : Nat) (x : Nat × va_E), W1[k9]? = some x → x.1 ≤ H.size := fun k9 x hx => by
      rw [← hW1] at hx
      by_cases hl : k9 < (X ++ va_pl L f).length
      · rw [List.getElem?_append_left hl] at hx
        exact Nat.le_of_lt ((hP k9 x hx).lt)
      · rw [List.getElem?_append_right (by omega)] at hx
        have h0 : k9 - (X ++ va_pl L f).length < 1 := (List.getElem?_eq_some_iff.mp hx).1
        rw [show k9 - (X ++ va_pl L f).length = 0 by omega] at hx
        cases hx
        exact Nat.le_refl _
    have hr : ∀ (k9 : Nat) (x : Nat × va_E), (((List.range n.toNatClampNeg).map (fun i => H.size + 1 + i)).map (fun a => ((a, .inl (cy, z)) : Nat × va_E)))[k9]? = some x → x.1 = H.size + 1 + k9 := fun k9 x hx => by
      rw [List.getElem?_map, List.getElem?_map] at hx
      by_cases h9 : k9 < n.toNatClampNeg
      · rw [List.getElem?_range h9] at hx
        cases hx
        rfl
      · have hn0 : (List.range n.toNatClampNeg)[k9]? = none := List.getElem?_eq_none (by rw [List.length_range]; omega)
        rw [hn0] at hx
        cases hx
    refine ⟨fun i j x y hi hj hxy => ?_, fun k9 x hx => ?_⟩
    · by_cases h1 : i < W1.length <;> by_cases h2 : j < W1.length
      · rw [List.getElem?_append_left h1] at hi
        rw [List.getElem?_append_left h2] at hj
        exact hD1.1 i j x y hi hj hxy
      · rw [List.getElem?_append_left h1] at hi
        rw [List.getElem?_append_right (by omega)] at hj
        have := hle _ _ hi
        have := hr _ _ hj
        omega
      · rw [List.getElem?_append_right (by omega)] at hi
        rw [List.getElem?_append_left h2] at hj
        have := hle _ _ hj
        have := hr _ _ hi
        omega
      · rw [List.getElem?_append_right (by omega)] at hi hj
        have := hr _ _ hi
        have := hr _ _ hj
        omega
    · by_cases h1 : k9 < W1.length
      · rw [List.getElem?_append_left h1] at hx
        exact hD1.2 k9 x hx
      · rw [List.getElem?_append_right (by omega)] at hx
        have := hr _ _ hx
        exact hA _ (by have := hS.1; omega)
  have hAr : ArrOfT s cA (.array ty) := fun N9 z9 => by
    obtain ⟨-, k9, hk9, cm9, hkk9⟩ := (hO 0 0 0).1
    exact ⟨(fun q hq => by cases hq), k9, hk9, cm9, hkk9⟩
  have hK2 : va_K D cl (tys ++ [(cA, .array ty)]) s := ⟨hK.1, fun k9 x hx => by
    by_cases hl : k9 < tys.length
    · rw [List.getElem?_append_left hl] at hx
      exact hK.2 k9 x hx
    · rw [List.getElem?_append_right (by omega)] at hx
      have h0 : k9 - tys.length < 1 := (List.getElem?_eq_some_iff.mp hx).1
      rw [show k9 - tys.length = 0 by omega] at hx
      cases hx
      exact ⟨hAr, fA⟩⟩
  obtain ⟨t, a1, b1⟩ := kk H.size (fun i => H.size + 1 + i) cA F.heap (fun i j _ _ h => by have h9 : H.size + 1 + i = H.size + 1 + j := h; omega) hnl hK2 (by rw [← vr_rows hnm]; exact vr_lay hP2) (by rw [← vr_rows hnm]; exact vr_layD hD2) ⟨by rw [f1]; have := hS.1; omega, fun x h1 h2 => (hold x (Nat.lt_of_lt_of_le h1 hS.1)).trans (hS.2.1 x h1 h2), hS.2.2⟩ F rfl X'
  refine ⟨t, step t ?_, b1⟩
  have e : T.heap.size = H.size := by rw [hT]
  rw [e]
  exact a1
end VGM
/-! ===== END ===== -/


/-- what a method asks that makes rows of rows -/
abbrev zPO (D : va_G) (tys : List (ClassId × FieldType)) (wc : va_W) (sz : Nat) : State → Prop := fun U => zPW D tys wc sz U ∧ va_AOA .int U
section ZI
variable {p : Program} {l : Launch} {e : Env} {R : Room} {s : State} {m : MethodId} {args : Array Value} {below : List Frame} {meth : Method} {c : Code} {H : Heap} {locs : List Loc} {cells slots : Nat} {Q : State → Prop}
variable {cc : ByteArray} {pc : Nat} {ls : Array Slot} {rest st : List Value} {D : va_G} {tys : List (ClassId × FieldType)} {ws wc : va_W} {A : Nat → Prop} {H0 : Heap}
variable {own host : String} {index n nL maxL : Nat} {y : MethodName} {bytes : ByteArray} {rm : Room} {b : Addr} {As : List Value} {a0 : Cond} {mc ms : Nat} {Pc : Array Value → State → Prop} {Qc : Array Value → State → Outcome → State → Prop} {free : Addr → Prop}
theorem zrI (hx : p.tables.exec = Jvm.exec) (hb : c.code = cc) (hml : c.maxLocals = nL) (hown : s.vm.findClass own = some m.cls) (hts : ∀ w ∈ a0 :: zT, w.before args s = true) (hlk : Cond.methodLink own index y ∈ zT) (hy : zMI y bytes maxL n) (hR : rm.frames + 1 ≤ R.frames ∧ 8 + (maxL + 11) + rm.locals ≤ R.locals) (hrc : rm.cells = mc) (hrs : rm.slots = ms)
    (hM : Met l y (.code y bytes maxL none :: zT) rm Pc Qc mc ms free) (hp : PreS s H Pc (.ref b :: As)) (hl : ls.size = nL) (hn : As.length = n) (hst : st = As.reverse ++ .ref b :: rest) (hW : (rest.map fun v => v.category).sum ≤ 8) (hdg : decode cc pc = .ok (.invokespecial index, 3)) (hf : cells + mc ≤ R.cells ∧ slots + ms ≤ R.slots) :
    va_Run p l e R s m args below meth c H locs cells slots mc ms (F0 m pc ls st) rest (Qc (Value.ref b :: As).toArray) free := by
  obtain ⟨⟨h1, h2, h3, h4⟩, hd⟩ := hy
  have ok : ∀ w ∈ zT, w.before args s = true := fun w h => hts w (List.mem_cons_of_mem _ h)
  exact va_runI (As := As) (rest := rest) (g := F0 m pc ls st) ⟨hx, hb, hml, hown, hts⟩ hM (cwI n hts (z_goodC h3) rfl hrc hrs (ok _ h2) (ok _ hlk) (ok _ h1) h4 hd hR) hp rfl hn hl hst (lv_room hW) hdg hf
theorem zrIN (hx : p.tables.exec = Jvm.exec) (hb : c.code = cc) (hml : c.maxLocals = nL) (hown : s.vm.findClass own = some m.cls) (hts : ∀ w ∈ a0 :: zT, w.before args s = true) (hlk : va_Nw (.methodLinkNest own index y host) s) (hy : zMI y bytes maxL n) (hR : rm.frames + 1 ≤ R.frames ∧ 8 + (maxL + 11) + rm.locals ≤ R.locals) (hrc : rm.cells = mc) (hrs : rm.slots = ms)
    (hM : Met l y (.code y bytes maxL none :: zT) rm Pc Qc mc ms free) (hp : PreS s H Pc (.ref b :: As)) (hl : ls.size = nL) (hn : As.length = n) (hst : st = As.reverse ++ .ref b :: rest) (hW : (rest.map fun v => v.category).sum ≤ 8) (hdg : decode cc pc = .ok (.invokespecial index, 3)) (hf : cells + mc ≤ R.cells ∧ slots + ms ≤ R.slots) :
    va_Run p l e R s m args below meth c H locs cells slots mc ms (F0 m pc ls st) rest (Qc (Value.ref b :: As).toArray) free := by
  obtain ⟨⟨h1, h2, h3, h4⟩, hd⟩ := hy
  have ok : ∀ w ∈ zT, w.before args s = true := fun w h => hts w (List.mem_cons_of_mem _ h)
  exact va_runIN (As := As) (rest := rest) (g := F0 m pc ls st) ⟨hx, hb, hml, hown, hts⟩ hM ⟨va_cnB n hts (z_goodC h3) rfl hrc hrs hlk (ok _ h2) hd hR, h4, ok _ h1⟩ hp rfl hn hl hst (lv_room hW) hdg hf
theorem z_wi (hK : zK D tys s) (hP : va_P D vwCl ws H) (hD : va_D A ws) (is : List Nat) (hn : va_nd is = true) (hs : is.map (fun i => ws[i]?) = wc.map some) : PreS s H (va_Pc (.ref b :: As) (zPW D tys wc H.size)) (.ref b :: As) := z_ws (As := .ref b :: As) hK hP hD is hn hs
/-- a call that makes cells: what comes back has a part u that the callee chose -/
theorem zH_v {S : Type} {post : S → Prop} {w1 : S → va_W} {st0 : List Value} {a : Array Value} (hP : va_P D vwCl ws H) (hD : va_D A ws) (hS : va_S A H0 H locs) (hA : ∀ q, H0.size ≤ q → A q) (isC isR : List Nat) (hC : isC.map (fun i => ws[i]?) = wc.map some) (hR : isR.map (fun i => ws[i]?) = (isR.filterMap (fun i => ws[i]?)).map some) (hn : va_nd isR = true) (hdis : ∀ i ∈ isR, i ∉ isC)
    (hr : va_Run p l e R s m args below meth c H locs cells slots mc ms (F0 m pc ls st0) rest (va_Qv post (fun u t => va_P D vwCl (w1 u) t.heap ∧ va_D (va_A wc H.size) (w1 u)) (va_A wc H.size) a) (va_A wc H.size))
    (kk : ∀ (u : S) (H1 : Heap) (locs1 : List Loc), post u → va_P D vwCl (isR.filterMap (fun i => ws[i]?) ++ w1 u) H1 → va_D A (isR.filterMap (fun i => ws[i]?) ++ w1 u) → va_S A H0 H1 locs1 → W p l e R s m args below meth c H1 locs1 (cells + mc) (slots + ms) Q (F0 m (pc + 3) ls rest)) : W p l e R s m args below meth c H locs cells slots Q (F0 m pc ls st0) := by
  have hF := va_free (wc := wc) hD hS hA isC hC
  refine va_callv hr hS (fun q _ h => hF q h) hF (fun u t H1 locs1 ht hvm hw hB hz1 hk1 hS1 => ?_)
  obtain ⟨hP1, hD1⟩ := hB
  rw [ht] at hP1
  obtain ⟨hP2, hD2⟩ := va_join hP hD isC isR hC hR hn hdis hk1 hF hP1 hD1
  exact kk u H1 locs1 hw hP2 hD2 hS1
/-- Object's own constructor -/
theorem z_obj {idx : Nat} {a : Addr} (hx : p.tables.exec = Jvm.exec) (hb : c.code = cc) (hml : c.maxLocals = nL) (hl : ls.size = nL) (hown : s.vm.findClass own = some m.cls) (hts : ∀ w ∈ a0 :: zT, w.before args s = true) (h1 : Cond.methodLink own idx objectInit ∈ zT) (h2 : Cond.instanceMethod objectInit ∈ zT) (h3 : Cond.code objectInit ⟨#[0xb1]⟩ 1 none ∈ zT) (hdg : decode cc pc = .ok (.invokespecial idx, 3)) (hfr : 1 ≤ R.frames) (hlo : (rest.map fun v => v.category).sum + 12 ≤ R.locals)
    (k : W p l e R s m args below meth c H locs cells slots Q (F0 m (pc + 3) ls rest)) : W p l e R s m args below meth c H locs cells slots Q (F0 m pc ls (.ref a :: rest)) := by
  have ok : ∀ w ∈ zT, w.before args s = true := fun w h => hts w (List.mem_cons_of_mem _ h)
  exact W.objInit (g := F0 m pc ls (.ref a :: rest)) hx hb hown (ok _ h1) (ok _ h2) (ok _ h3) rfl (by rw [hml]; exact hl) rfl hdg hfr (by show 2 * 0 + _ + 12 ≤ _; omega) k
/-- a new array of numbers, of a class that K knows -/
theorem z_newa (hx : p.tables.exec = Jvm.exec) (hb : c.code = cc) (hts : ∀ w ∈ a0 :: zT, w.before args s = true) {atype : ArrayType} {ty : FieldType} (harr : Cond.arrayClass ty ∈ zT) (hty : newarray.typeOf atype = ty) (hK : zK D tys s) (hP : va_P D vwCl ws H) (hD : va_D A ws) (hS : va_S A H0 H locs) (hA : ∀ q, H0.size ≤ q → A q) (t0 : Nat) {cA : ClassId} (ht : tys[t0]? = some (cA, ty)) (hra : va_RA s cA ty → s.vm.findClass ("[" ++ ty.toString) = some cA)
    {n : Int32} {N' : Nat} {z0 : vp_A} (ha : ∀ cA : ClassId, vp_cell cA z0 = arrV cA N' (fun _ => defaultValue ty)) (hn : ¬ n < 0) (hN : n.toNatClampNeg = N') (hbytes : N' * componentBytes ty ≤ 536870912) (hcells : cells + 1 ≤ R.cells) (hslots : slots + N' ≤ R.slots) (hdg : decode cc pc = .ok (.newarray atype, 2))
    (kk : ∀ (q : Nat) (H1 : Heap), va_P D vwCl (ws ++ [(q, .inl (cA, z0))]) H1 → va_D A (ws ++ [(q, .inl (cA, z0))]) → va_S A H0 H1 locs →
      W p l e R s m args below meth c H1 locs (cells + 1) (slots + N') Q (F0 m (pc + 2) ls (.ref q :: rest))) : W p l e R s m args below meth c H locs cells slots Q (F0 m pc ls (.int n :: rest)) := by
  subst hty
  have hf := hra (hK.1.2 t0 _ ht).2
  refine va_newaK hx hb (hts _ (List.mem_cons_of_mem _ harr)) rfl hdg rfl hn hN hbytes hcells hslots rfl fun H1 cB e1 z1 o1 hAr hNm => ?_
  cases hf.symm.trans hNm
  have hk : ∀ (k : Nat) (x : Nat × va_E), ws[k]? = some x → H1[x.1]? = H[x.1]? := fun k x hx => o1 x.1 ((hP k x hx).lt)
  refine kk H.size H1 ((hP.kept hk).app (fun k x hx => ?_)) (hD.push hP rfl (hA _ hS.1)) ⟨Nat.le_trans hS.1 (by omega), fun x h1 h2 => (o1 x (Nat.lt_of_lt_of_le h1 hS.1)).trans (hS.2.1 x h1 h2), hS.2.2⟩
  have hz : k < 1 := (List.getElem?_eq_some_iff.mp hx).1
  rw [show k = 0 by omega] at hx
  cases hx
  show H1[H.size]? = some (vp_cell _ _)
  rw [ha]
  exact e1
/-- a final field, in a constructor -/
theorem z_putF {own ref C : String} {T : u_T} {N ci index : Nat} {a : Nat} (hexec : p.tables.exec = Jvm.exec) (hb : c.code = cc) (hts : ∀ w ∈ a0 :: zT, w.before args s = true) (hin : ∀ w ∈ u_ws C T N, w ∈ zT) (ty0 : Nat → FieldType) (hty : ∀ k, k < N → parseFieldDescriptor (T k).2.2.1 = some (ty0 k)) (hnm : ∀ a, a < N → ∀ b, b < N → a ≠ b → (T a).2.1 ≠ (T b).2.1) (hown : s.vm.findClass own = some m.cls) (hK : va_K D vwCl tys s) (hP : va_P D vwCl ws H) (hD : va_D A ws) (hS : va_S A H0 H locs) (q0 k : Nat) {fs : List Value} (he : ws[q0]? = some (a, .inr (ci, fs))) (hc : vwCl[ci]? = some (C, T, N)) (hk : k < N) (hlink : Cond.fieldLink own index ref (T k).2.1 (T k).2.2.1 ∈ zT) (hsame : (T k).1 = ref) (hfin : (T k).2.2.2 = true) (hin2 : meth.name = "<init>") (hdecl : (T k).1 = own) {ty : FieldType} {v : Value} (hd : parseFieldDescriptor (T k).2.2.1 = some ty) (hn : narrow ty v = v) (hfit : fits ty v = true) (hl : k < fs.length) (hdg : decode cc pc = .ok (.putfield index, 3))
    (kk : ∀ (H1 : Heap) (locs1 : List Loc), va_P D vwCl (ws.set q0 (a, .inr (ci, fs.set k v))) H1 → va_D A (ws.set q0 (a, .inr (ci, fs.set k v))) → va_S A H0 H1 locs1 → W p l e R s m args below meth c H1 locs1 cells slots Q (F0 m (pc + 3) ls rest)) : W p l e R s m args below meth c H locs cells slots Q (F0 m pc ls (v :: .ref a :: rest)) :=
  va_putF hexec hb hts (fun w h => List.mem_cons_of_mem _ (hin w h)) ty0 hty hnm hown hK hP hD hS q0 he hc k hk (hts _ (List.mem_cons_of_mem _ hlink)) (fun _ h9 => by rw [← hsame]; exact h9) hfin hin2 hdecl hd hn hfit hl hdg kk
/-- the end of a constructor: the cells that it made are counted -/
theorem zX_n {S : Type} {post : S → Prop} {B : S → State → Prop} {A : Nat → Prop} {mc ms : Nat} (u : S) (hx : p.tables.exec = Jvm.exec) (hb : c.code = cc) (hr : meth.sig.returnType = none) (hlocks : meth.locks = false) (hS : va_S A s.heap H locs) (hp : post u) (hB : ∀ t : State, t.heap = H → B u t) (hc : cells ≤ mc) (hs : slots ≤ ms) (hdg : decode cc pc = .ok (.return_, 1)) : W p l e R s m args below meth c H locs cells slots (MQ below (va_Qv post B A) args s mc ms A) (F0 m pc ls []) := by
  refine W.widen hc hs ?_
  exact W.vret hx hb hr (fun t ht _ => ⟨⟨u, rfl, hp, hB t ht⟩, hS.F ht⟩) hS.2.2 hdg hlocks
end ZI
set_option maxRecDepth 100000 in
set_option maxHeartbeats 4000000 in
theorem ct_X1_init (l : Launch) (D : va_G) (ct : Nat → Nat) (h0 x sz : Nat) : Met l yX1_init (Cond.code yX1_init cX1_init 2 none :: zT) ({ frames := 1, cells := 0, slots := 0, locals := 12 } : Room) (va_Pc [.ref h0, .ref x] (zPW D (zTys ct) ([(h0, .inr (0, [.null]))]) sz)) (va_Qv (fun (u : Unit) => True) (fun u t => va_P D vwCl ([(h0, .inr (0, [.ref x]))]) t.heap ∧ va_D (va_A ([(h0, .inr (0, [.null]))]) sz) ([(h0, .inr (0, [.ref x]))])) (va_A ([(h0, .inr (0, [.null]))]) sz)) 0 0 (va_A ([(h0, .inr (0, [.null]))]) sz) := by
  refine zMet (cc := cX1_init) (maxL := 2) (ret := none) (av := [.ref h0, .ref x]) (by decide) (Nat.le_of_ble_eq_true rfl) (fun p e s m below meth c ls hx hb hr hml hts hown hlocks hin hB hl => ?_)
  have hl : lv_has ls 2 [(0, .ref h0), (1, .ref x)] := hl
  have hown : s.vm.findClass RX1 = some m.cls := hown
  obtain ⟨hsz, hP, hK, hD0⟩ := hB
  subst hsz
  have hD := hD0.self (sz := s.heap.size)
  obtain ⟨A, hAe⟩ : ∃ A, A = va_A ([(h0, .inr (0, [.null]))]) s.heap.size := ⟨_, rfl⟩
  rw [← hAe] at hD
  have hA : ∀ q : Nat, s.heap.size ≤ q → A q := fun q h => by rw [hAe]; exact Or.inr h
  have hS : va_S A s.heap s.heap [] := va_S.rf
  refine lv_aload_n hx hb dX1_init_0 rfl (lv_at hl 0 rfl) ?_
  refine z_obj hx hb hml hl.1 hown hts tw53 tw27 tw28 dX1_init_1 (Nat.le_of_ble_eq_true rfl) (Nat.le_of_ble_eq_true rfl) ?_
  refine lv_aload_n hx hb dX1_init_4 rfl (lv_at hl 0 rfl) ?_
  refine lv_aload_n hx hb dX1_init_5 rfl (lv_at hl 1 rfl) ?_
  refine z_putF (ty := .object "QuarryOrders$State") (C := RX1) (T := TX1) (N := 1) (ci := 0) hx hb hts zin_X1 tyX1 tyX1_ok nmX1 hown hK.1 hP hD hS 0 0 rfl rfl (by decide) tw54 rfl rfl hin rfl (by decide +kernel) rfl rfl (Nat.le_of_ble_eq_true rfl) dX1_init_6 (fun H locs hP hD hS => ?_)
  have hP : va_P D vwCl ([(h0, .inr (0, [.ref x]))]) H := hP
  have hD : va_D A ([(h0, .inr (0, [.ref x]))]) := hD
  rw [hAe] at hS hD
  exact zX_n () hx hb hr hlocks hS trivial (fun t ht => ⟨by rw [ht]; exact hP, hD⟩) (Nat.le_refl _) (Nat.le_refl _) dX1_init_9
set_option maxRecDepth 100000 in
set_option maxHeartbeats 4000000 in
theorem ct_X6_init (l : Launch) (D : va_G) (ct : Nat → Nat) (h0 x y sz : Nat) : Met l yX6_init (Cond.code yX6_init cX6_init 3 none :: zT) ({ frames := 1, cells := 0, slots := 0, locals := 12 } : Room) (va_Pc [.ref h0, .ref x, .ref y] (zPW D (zTys ct) ([(h0, .inr (5, [.null, .null]))]) sz)) (va_Qv (fun (u : Unit) => True) (fun u t => va_P D vwCl ([(h0, .inr (5, [.ref x, .ref y]))]) t.heap ∧ va_D (va_A ([(h0, .inr (5, [.null, .null]))]) sz) ([(h0, .inr (5, [.ref x, .ref y]))])) (va_A ([(h0, .inr (5, [.null, .null]))]) sz)) 0 0 (va_A ([(h0, .inr (5, [.null, .null]))]) sz) := by
  refine zMet (cc := cX6_init) (maxL := 3) (ret := none) (av := [.ref h0, .ref x, .ref y]) (by decide) (Nat.le_of_ble_eq_true rfl) (fun p e s m below meth c ls hx hb hr hml hts hown hlocks hin hB hl => ?_)
  have hl : lv_has ls 3 [(0, .ref h0), (1, .ref x), (2, .ref y)] := hl
  have hown : s.vm.findClass RX6 = some m.cls := hown
  obtain ⟨hsz, hP, hK, hD0⟩ := hB
  subst hsz
  have hD := hD0.self (sz := s.heap.size)
  obtain ⟨A, hAe⟩ : ∃ A, A = va_A ([(h0, .inr (5, [.null, .null]))]) s.heap.size := ⟨_, rfl⟩
  rw [← hAe] at hD
  have hA : ∀ q : Nat, s.heap.size ≤ q → A q := fun q h => by rw [hAe]; exact Or.inr h
  have hS : va_S A s.heap s.heap [] := va_S.rf
  refine lv_aload_n hx hb dX6_init_0 rfl (lv_at hl 0 rfl) ?_
  refine z_obj hx hb hml hl.1 hown hts tw63 tw27 tw28 dX6_init_1 (Nat.le_of_ble_eq_true rfl) (Nat.le_of_ble_eq_true rfl) ?_
  refine lv_aload_n hx hb dX6_init_4 rfl (lv_at hl 0 rfl) ?_
  refine lv_aload_n hx hb dX6_init_5 rfl (lv_at hl 1 rfl) ?_
  refine z_putF (ty := .object "QuarryOrders$State") (C := RX6) (T := TX6) (N := 2) (ci := 5) hx hb hts zin_X6 tyX6 tyX6_ok nmX6 hown hK.1 hP hD hS 0 0 rfl rfl (by decide) tw64 rfl rfl hin rfl (by decide +kernel) rfl rfl (Nat.le_of_ble_eq_true rfl) dX6_init_6 (fun H locs hP hD hS => ?_)
  have hP : va_P D vwCl ([(h0, .inr (5, [.ref x, .null]))]) H := hP
  have hD : va_D A ([(h0, .inr (5, [.ref x, .null]))]) := hD
  refine lv_aload_n hx hb dX6_init_9 rfl (lv_at hl 0 rfl) ?_
  refine lv_aload_n hx hb dX6_init_10 rfl (lv_at hl 2 rfl) ?_
  refine z_putF (ty := .object "QuarryOrders$Facts") (C := RX6) (T := TX6) (N := 2) (ci := 5) hx hb hts zin_X6 tyX6 tyX6_ok nmX6 hown hK.1 hP hD hS 0 1 rfl rfl (by decide) tw65 rfl rfl hin rfl (by decide +kernel) rfl rfl (Nat.le_of_ble_eq_true rfl) dX6_init_11 (fun H locs hP hD hS => ?_)
  have hP : va_P D vwCl ([(h0, .inr (5, [.ref x, .ref y]))]) H := hP
  have hD : va_D A ([(h0, .inr (5, [.ref x, .ref y]))]) := hD
  rw [hAe] at hS hD
  exact zX_n () hx hb hr hlocks hS trivial (fun t ht => ⟨by rw [ht]; exact hP, hD⟩) (Nat.le_refl _) (Nat.le_refl _) dX6_init_14
def f_X5_init_b41 (k : Nat)   : Nat → (Nat → Int32) → Int32 → Option ((Nat → Int32))
  | 0, _, _ => none
  | n + 1, f_, x1 =>
    if (3 : Int32) ≤ x1 then
      some f_
    else
      zb1 (f_X5_setLorryCell k f_ x1 (0 : Int32) (4000 : Int32)) fun f5 =>
      zb1 (f_X5_setLorryCell k f5 x1 (1 : Int32) (8000 : Int32)) fun f6 =>
      zb1 (f_X5_setLorryCell k f6 x1 (2 : Int32) (10000 : Int32)) fun f7 =>
      zl (x1 + (1 : Int32)) fun v8 =>
      f_X5_init_b41 k n f7 v8
def f_X5_init (k : Nat) (f : Nat → Int32) : Option ((Nat → Int32)) :=
  zb1 (f_X5_setCell k f (0 : Int32) (2 : Int32)) fun f1 =>
  zb1 (f_X5_setCell k f1 (1 : Int32) (12 : Int32)) fun f2 =>
  zb1 (f_X5_setCell k f2 (2 : Int32) (-3 : Int32)) fun f3 =>
  zb1 (f_X5_setCell k f3 (3 : Int32) (5 : Int32)) fun f4 =>
  f_X5_init_b41 k k f4 (0 : Int32)
set_option maxRecDepth 100000 in
set_option maxHeartbeats 4000000 in
theorem ct_X5_init (l : Launch) (D : va_G) (ct : Nat → Nat) (h0 sz k : Nat) (f' : Nat → Int32) (h : f_X5_init k (fun _ => 0) = some f') : Met l yX5_init (Cond.code yX5_init cX5_init 2 none :: zT) ({ frames := 2, cells := 1, slots := 344, locals := 45 } : Room) (va_Pc [.ref h0] (zPW D (zTys ct) ([(h0, .inr (4, [.null]))]) sz)) (va_Qv (fun (u : Nat → Nat) => u 3 = h0) (fun u t => va_P D vwCl (wX5 ct u f') t.heap ∧ va_D (va_A ([(h0, .inr (4, [.null]))]) sz) (wX5 ct u f')) (va_A ([(h0, .inr (4, [.null]))]) sz)) 1 344 (va_A ([(h0, .inr (4, [.null]))]) sz) := by
  refine zMet (cc := cX5_init) (maxL := 2) (ret := none) (av := [.ref h0]) (by decide) (Nat.le_of_ble_eq_true rfl) (fun p e s m below meth c ls hx hb hr hml hts hown hlocks hin hB hl => ?_)
  have hl : lv_has ls 2 [(0, .ref h0)] := hl
  have hown : s.vm.findClass RX5 = some m.cls := hown
  obtain ⟨hsz, hP, hK, hD0⟩ := hB
  subst hsz
  have hD := hD0.self (sz := s.heap.size)
  obtain ⟨A, hAe⟩ : ∃ A, A = va_A ([(h0, .inr (4, [.null]))]) s.heap.size := ⟨_, rfl⟩
  rw [← hAe] at hD
  have hA : ∀ q : Nat, s.heap.size ≤ q → A q := fun q h => by rw [hAe]; exact Or.inr h
  have hS : va_S A s.heap s.heap [] := va_S.rf
  have ok : ∀ w ∈ zT, w.before _ s = true := fun w h => hts w (List.mem_cons_of_mem _ h)
  refine lv_aload_n hx hb dX5_init_0 rfl (lv_at hl 0 rfl) ?_
  refine z_obj hx hb hml hl.1 hown hts tw34 tw27 tw28 dX5_init_1 (Nat.le_of_ble_eq_true rfl) (Nat.le_of_ble_eq_true rfl) ?_
  refine lv_aload_n hx hb dX5_init_4 rfl (lv_at hl 0 rfl) ?_
  refine lv_sipush (v := (344 : Int32)) hx hb dX5_init_5 (by decide) ?_
  refine z_newa (atype := .int) (ty := .int) (z0 := (344, .inl (fun _ => 0))) (N' := 344) hx hb hts tw47 rfl hK hP hD hS hA 0 rfl (fun q => q) (fun _ => rfl) (by decide) (by decide) (Nat.le_of_ble_eq_true rfl) (Nat.le_of_ble_eq_true rfl) (Nat.le_of_ble_eq_true rfl) dX5_init_8 (fun q H hP hD hS => ?_)
  have hP : va_P D vwCl ([(h0, .inr (4, [.null])), (q, .inl (ct 0, 344, .inl (fun _ => 0)))]) H := hP
  have hD : va_D A ([(h0, .inr (4, [.null])), (q, .inl (ct 0, 344, .inl (fun _ => 0)))]) := hD
  refine z_putF (ty := .array .int) (C := RX5) (T := TX5) (N := 1) (ci := 4) hx hb hts zin_X5 tyX5 tyX5_ok nmX5 hown hK.1 hP hD hS 0 0 rfl rfl (by decide) tw43 rfl rfl hin rfl (by decide +kernel) rfl rfl (Nat.le_of_ble_eq_true rfl) dX5_init_10 (fun H locs hP hD hS => ?_)
  have hP : va_P D vwCl ([(h0, .inr (4, [.ref q])), (q, .inl (ct 0, 344, .inl (fun _ => 0)))]) H := hP
  have hD : va_D A ([(h0, .inr (4, [.ref q])), (q, .inl (ct 0, 344, .inl (fun _ => 0)))]) := hD
  obtain ⟨a, ha3, ha4⟩ : ∃ a : Nat → Nat, a 3 = h0 ∧ a 4 = q := ⟨fun i => if i = 3 then h0 else q, rfl, rfl⟩
  subst ha3
  subst ha4
  generalize hz0 : (fun _ => 0 : Nat → Int32) = f at h hP hD
  clear hz0
  have hP : va_P D vwCl (wX5 ct a f) H := hP
  have hD : va_D A (wX5 ct a f) := hD
  have B41 : ∀ (n : Nat), ∀ (f_ : Nat → Int32) (x1 : Int32), f_X5_init_b41 k n f_ x1 = some f' → ∀ (H : Heap) (locs : List Loc), va_P D vwCl (wX5 ct a f_) H → va_D A (wX5 ct a f_) → va_S A s.heap H locs → ∀ (ls : Array Slot), lv_has ls 2 [(0, .ref (a 3)), (1, .int x1)] → W p l e ({ frames := 2, cells := 1, slots := 344, locals := 45 } : Room) s m ([.ref (a 3)] : List Value).toArray below meth c H locs (0 + 1) (0 + 344) (MQ below (va_Qv (fun (u : Nat → Nat) => u 3 = a 3) (fun u t => va_P D vwCl (wX5 ct u f') t.heap ∧ va_D (va_A ([(a 3, .inr (4, [.null]))]) s.heap.size) (wX5 ct u f')) (va_A ([(a 3, .inr (4, [.null]))]) s.heap.size)) ([.ref (a 3)] : List Value).toArray s 1 344 (va_A ([(a 3, .inr (4, [.null]))]) s.heap.size)) (F0 m 41 ls []) := by
    intro n
    induction n with
    | zero => intro f_ x1 h; exact absurd h (by rw [f_X5_init_b41]; exact fun q => nomatch q)
    | succ n ih41 =>
      intro f_ x1 h H locs hP hD hS ls hl
      rw [f_X5_init_b41] at h
      refine lv_iload_n hx hb dX5_init_41 rfl (lv_at hl 1 rfl) ?_
      refine lv_iconst (v := (3 : Int32)) hx hb dX5_init_42 (by decide) ?_
      refine zc_ge (tgt := 79) hx hb dX5_init_43 (by decide) h (fun h => ?_) (fun h => ?_)
      · cases h
        rw [hAe] at hS hD
        exact zX_n a hx hb hr hlocks hS rfl (fun t ht => ⟨by rw [ht]; exact hP, hD⟩) (Nat.le_of_ble_eq_true rfl) (Nat.le_of_ble_eq_true rfl) dX5_init_79
      · refine lv_aload_n hx hb dX5_init_46 rfl (lv_at hl 0 rfl) ?_
        refine lv_iload_n hx hb dX5_init_47 rfl (lv_at hl 1 rfl) ?_
        refine lv_iconst (v := (0 : Int32)) hx hb dX5_init_48 (by decide) ?_
        refine lv_sipush (v := (4000 : Int32)) hx hb dX5_init_49 (by decide) ?_
        obtain ⟨f5, hc, h⟩ := zb1_s h
        refine zG_v (w1 := wX5 ct a f5) (ws' := wX5 ct a f5) hP hD hS hA [0, 1] [] [0, 1] rfl rfl (by decide) (by decide) rfl (by decide) (zrV (C := RX5) (As := [.int x1, .int (0 : Int32), .int (4000 : Int32)]) (rest := []) hx hb hml hown hts tw39 mv_X5_setLorryCell ⟨Nat.le_of_ble_eq_true rfl, Nat.le_of_ble_eq_true rfl⟩ rfl rfl (ct_X5_setLorryCell l D ct a f_ _ x1 (0 : Int32) (4000 : Int32) k f5 hc) (z_wv hK hP hD [0, 1] (by decide) rfl 0 rfl rfl) hl.1 rfl rfl (Nat.le_of_ble_eq_true rfl) dX5_init_52 ⟨Nat.le_refl _, Nat.le_refl _⟩) (fun H locs hP hD hS => ?_)
        refine lv_aload_n hx hb dX5_init_55 rfl (lv_at hl 0 rfl) ?_
        refine lv_iload_n hx hb dX5_init_56 rfl (lv_at hl 1 rfl) ?_
        refine lv_iconst (v := (1 : Int32)) hx hb dX5_init_57 (by decide) ?_
        refine lv_sipush (v := (8000 : Int32)) hx hb dX5_init_58 (by decide) ?_
        obtain ⟨f6, hc, h⟩ := zb1_s h
        refine zG_v (w1 := wX5 ct a f6) (ws' := wX5 ct a f6) hP hD hS hA [0, 1] [] [0, 1] rfl rfl (by decide) (by decide) rfl (by decide) (zrV (C := RX5) (As := [.int x1, .int (1 : Int32), .int (8000 : Int32)]) (rest := []) hx hb hml hown hts tw39 mv_X5_setLorryCell ⟨Nat.le_of_ble_eq_true rfl, Nat.le_of_ble_eq_true rfl⟩ rfl rfl (ct_X5_setLorryCell l D ct a f5 _ x1 (1 : Int32) (8000 : Int32) k f6 hc) (z_wv hK hP hD [0, 1] (by decide) rfl 0 rfl rfl) hl.1 rfl rfl (Nat.le_of_ble_eq_true rfl) dX5_init_61 ⟨Nat.le_refl _, Nat.le_refl _⟩) (fun H locs hP hD hS => ?_)
        refine lv_aload_n hx hb dX5_init_64 rfl (lv_at hl 0 rfl) ?_
        refine lv_iload_n hx hb dX5_init_65 rfl (lv_at hl 1 rfl) ?_
        refine lv_iconst (v := (2 : Int32)) hx hb dX5_init_66 (by decide) ?_
        refine lv_sipush (v := (10000 : Int32)) hx hb dX5_init_67 (by decide) ?_
        obtain ⟨f7, hc, h⟩ := zb1_s h
        refine zG_v (w1 := wX5 ct a f7) (ws' := wX5 ct a f7) hP hD hS hA [0, 1] [] [0, 1] rfl rfl (by decide) (by decide) rfl (by decide) (zrV (C := RX5) (As := [.int x1, .int (2 : Int32), .int (10000 : Int32)]) (rest := []) hx hb hml hown hts tw39 mv_X5_setLorryCell ⟨Nat.le_of_ble_eq_true rfl, Nat.le_of_ble_eq_true rfl⟩ rfl rfl (ct_X5_setLorryCell l D ct a f6 _ x1 (2 : Int32) (10000 : Int32) k f7 hc) (z_wv hK hP hD [0, 1] (by decide) rfl 0 rfl rfl) hl.1 rfl rfl (Nat.le_of_ble_eq_true rfl) dX5_init_70 ⟨Nat.le_refl _, Nat.le_refl _⟩) (fun H locs hP hD hS => ?_)
        refine o_nm h (fun v8 ey h => ?_)
        refine lv_iinc (v := v8) (lv' := [(1, .int v8), (0, .ref (a 3))]) hx hb dX5_init_73 hl (k := 1) rfl (Eq.trans rfl ey) (by decide) rfl (fun ls hl => ?_)
        refine lv_goto (tgt := 41) hx hb dX5_init_76 (by decide) ?_
        exact ih41 f7 v8 h _ _ hP hD hS ls (lv_sub hl [1, 0] rfl)
  rw [f_X5_init] at h
  refine lv_aload_n hx hb dX5_init_13 rfl (lv_at hl 0 rfl) ?_
  refine lv_iconst (v := (0 : Int32)) hx hb dX5_init_14 (by decide) ?_
  refine lv_iconst (v := (2 : Int32)) hx hb dX5_init_15 (by decide) ?_
  obtain ⟨f1, hc, h⟩ := zb1_s h
  refine zG_v (w1 := wX5 ct a f1) (ws' := wX5 ct a f1) hP hD hS hA [0, 1] [] [0, 1] rfl rfl (by decide) (by decide) rfl (by decide) (zrV (C := RX5) (As := [.int (0 : Int32), .int (2 : Int32)]) (rest := []) hx hb hml hown hts tw35 mv_X5_setCell ⟨Nat.le_of_ble_eq_true rfl, Nat.le_of_ble_eq_true rfl⟩ rfl rfl (ct_X5_setCell l D ct a f _ (0 : Int32) (2 : Int32) k f1 hc) (z_wv hK hP hD [0, 1] (by decide) rfl 0 rfl rfl) hl.1 rfl rfl (Nat.le_of_ble_eq_true rfl) dX5_init_16 ⟨Nat.le_refl _, Nat.le_refl _⟩) (fun H locs hP hD hS => ?_)
  refine lv_aload_n hx hb dX5_init_19 rfl (lv_at hl 0 rfl) ?_
  refine lv_iconst (v := (1 : Int32)) hx hb dX5_init_20 (by decide) ?_
  refine lv_bipush (v := (12 : Int32)) hx hb dX5_init_21 (by decide) ?_
  obtain ⟨f2, hc, h⟩ := zb1_s h
  refine zG_v (w1 := wX5 ct a f2) (ws' := wX5 ct a f2) hP hD hS hA [0, 1] [] [0, 1] rfl rfl (by decide) (by decide) rfl (by decide) (zrV (C := RX5) (As := [.int (1 : Int32), .int (12 : Int32)]) (rest := []) hx hb hml hown hts tw35 mv_X5_setCell ⟨Nat.le_of_ble_eq_true rfl, Nat.le_of_ble_eq_true rfl⟩ rfl rfl (ct_X5_setCell l D ct a f1 _ (1 : Int32) (12 : Int32) k f2 hc) (z_wv hK hP hD [0, 1] (by decide) rfl 0 rfl rfl) hl.1 rfl rfl (Nat.le_of_ble_eq_true rfl) dX5_init_23 ⟨Nat.le_refl _, Nat.le_refl _⟩) (fun H locs hP hD hS => ?_)
  refine lv_aload_n hx hb dX5_init_26 rfl (lv_at hl 0 rfl) ?_
  refine lv_iconst (v := (2 : Int32)) hx hb dX5_init_27 (by decide) ?_
  refine lv_bipush (v := (-3 : Int32)) hx hb dX5_init_28 (by decide) ?_
  obtain ⟨f3, hc, h⟩ := zb1_s h
  refine zG_v (w1 := wX5 ct a f3) (ws' := wX5 ct a f3) hP hD hS hA [0, 1] [] [0, 1] rfl rfl (by decide) (by decide) rfl (by decide) (zrV (C := RX5) (As := [.int (2 : Int32), .int (-3 : Int32)]) (rest := []) hx hb hml hown hts tw35 mv_X5_setCell ⟨Nat.le_of_ble_eq_true rfl, Nat.le_of_ble_eq_true rfl⟩ rfl rfl (ct_X5_setCell l D ct a f2 _ (2 : Int32) (-3 : Int32) k f3 hc) (z_wv hK hP hD [0, 1] (by decide) rfl 0 rfl rfl) hl.1 rfl rfl (Nat.le_of_ble_eq_true rfl) dX5_init_30 ⟨Nat.le_refl _, Nat.le_refl _⟩) (fun H locs hP hD hS => ?_)
  refine lv_aload_n hx hb dX5_init_33 rfl (lv_at hl 0 rfl) ?_
  refine lv_iconst (v := (3 : Int32)) hx hb dX5_init_34 (by decide) ?_
  refine lv_iconst (v := (5 : Int32)) hx hb dX5_init_35 (by decide) ?_
  obtain ⟨f4, hc, h⟩ := zb1_s h
  refine zG_v (w1 := wX5 ct a f4) (ws' := wX5 ct a f4) hP hD hS hA [0, 1] [] [0, 1] rfl rfl (by decide) (by decide) rfl (by decide) (zrV (C := RX5) (As := [.int (3 : Int32), .int (5 : Int32)]) (rest := []) hx hb hml hown hts tw35 mv_X5_setCell ⟨Nat.le_of_ble_eq_true rfl, Nat.le_of_ble_eq_true rfl⟩ rfl rfl (ct_X5_setCell l D ct a f3 _ (3 : Int32) (5 : Int32) k f4 hc) (z_wv hK hP hD [0, 1] (by decide) rfl 0 rfl rfl) hl.1 rfl rfl (Nat.le_of_ble_eq_true rfl) dX5_init_36 ⟨Nat.le_refl _, Nat.le_refl _⟩) (fun H locs hP hD hS => ?_)
  refine lv_iconst (v := (0 : Int32)) hx hb dX5_init_39 (by decide) ?_
  refine lv_istore_n (lv' := [(1, .int (0 : Int32)), (0, .ref (a 3))]) hx hb dX5_init_40 rfl hl (by decide) rfl (fun ls hl => ?_)
  exact B41 k f4 (0 : Int32) h _ _ hP hD hS ls (lv_sub hl [1, 0] rfl)
set_option maxRecDepth 100000 in
set_option maxHeartbeats 4000000 in
theorem ct_X3_init (l : Launch) (D : va_G) (ct : Nat → Nat) (h0 sz : Nat) : Met l yX3_init (Cond.code yX3_init cX3_init 1 none :: zT) ({ frames := 1, cells := 2, slots := 84, locals := 12 } : Room) (va_Pc [.ref h0] (zPW D (zTys ct) ([(h0, .inr (2, [.null, .int 0, .int 0, .int 0, .null, .int 0, .int 0]))]) sz)) (va_Qv (fun (u : Nat → Nat) => u 10 = h0) (fun u t => va_P D vwCl (wX3 ct u (fun _ => 0) 0 0 0 (fun _ => 0) 0 0) t.heap ∧ va_D (va_A ([(h0, .inr (2, [.null, .int 0, .int 0, .int 0, .null, .int 0, .int 0]))]) sz) (wX3 ct u (fun _ => 0) 0 0 0 (fun _ => 0) 0 0)) (va_A ([(h0, .inr (2, [.null, .int 0, .int 0, .int 0, .null, .int 0, .int 0]))]) sz)) 2 84 (va_A ([(h0, .inr (2, [.null, .int 0, .int 0, .int 0, .null, .int 0, .int 0]))]) sz) := by
  refine zMet (cc := cX3_init) (maxL := 1) (ret := none) (av := [.ref h0]) (by decide) (Nat.le_of_ble_eq_true rfl) (fun p e s m below meth c ls hx hb hr hml hts hown hlocks hin hB hl => ?_)
  have hl : lv_has ls 1 [(0, .ref h0)] := hl
  have hown : s.vm.findClass RX3 = some m.cls := hown
  obtain ⟨hsz, hP, hK, hD0⟩ := hB
  subst hsz
  have hD := hD0.self (sz := s.heap.size)
  obtain ⟨A, hAe⟩ : ∃ A, A = va_A ([(h0, .inr (2, [.null, .int 0, .int 0, .int 0, .null, .int 0, .int 0]))]) s.heap.size := ⟨_, rfl⟩
  rw [← hAe] at hD
  have hA : ∀ q : Nat, s.heap.size ≤ q → A q := fun q h => by rw [hAe]; exact Or.inr h
  have hS : va_S A s.heap s.heap [] := va_S.rf
  have ok : ∀ w ∈ zT, w.before _ s = true := fun w h => hts w (List.mem_cons_of_mem _ h)
  refine lv_aload_n hx hb dX3_init_0 rfl (lv_at hl 0 rfl) ?_
  refine z_obj hx hb hml hl.1 hown hts tw109 tw27 tw28 dX3_init_1 (Nat.le_of_ble_eq_true rfl) (Nat.le_of_ble_eq_true rfl) ?_
  refine lv_aload_n hx hb dX3_init_4 rfl (lv_at hl 0 rfl) ?_
  refine lv_bipush (v := (80 : Int32)) hx hb dX3_init_5 (by decide) ?_
  refine z_newa (atype := .char) (ty := .char) (z0 := (80, .inl (fun _ => 0))) (N' := 80) hx hb hts tw132 rfl hK hP hD hS hA 1 rfl (fun q => q) (fun _ => rfl) (by decide) (by decide) (Nat.le_of_ble_eq_true rfl) (Nat.le_of_ble_eq_true rfl) (Nat.le_of_ble_eq_true rfl) dX3_init_7 (fun q H hP hD hS => ?_)
  have hP : va_P D vwCl ([(h0, .inr (2, [.null, .int 0, .int 0, .int 0, .null, .int 0, .int 0])), (q, .inl (ct 1, 80, .inl (fun _ => 0)))]) H := hP
  have hD : va_D A ([(h0, .inr (2, [.null, .int 0, .int 0, .int 0, .null, .int 0, .int 0])), (q, .inl (ct 1, 80, .inl (fun _ => 0)))]) := hD
  refine z_putF (ty := .array .char) (C := RX3) (T := TX3) (N := 7) (ci := 2) hx hb hts zin_X3 tyX3 tyX3_ok nmX3 hown hK.1 hP hD hS 0 0 rfl rfl (by decide) tw110 rfl rfl hin rfl (by decide +kernel) rfl rfl (Nat.le_of_ble_eq_true rfl) dX3_init_9 (fun H locs hP hD hS => ?_)
  have hP : va_P D vwCl ([(h0, .inr (2, [.ref q, .int 0, .int 0, .int 0, .null, .int 0, .int 0])), (q, .inl (ct 1, 80, .inl (fun _ => 0)))]) H := hP
  have hD : va_D A ([(h0, .inr (2, [.ref q, .int 0, .int 0, .int 0, .null, .int 0, .int 0])), (q, .inl (ct 1, 80, .inl (fun _ => 0)))]) := hD
  refine lv_aload_n hx hb dX3_init_12 rfl (lv_at hl 0 rfl) ?_
  refine lv_iconst (v := (0 : Int32)) hx hb dX3_init_13 (by decide) ?_
  refine va_put (D := D) (ci := 2) (v := .int 0) (ty := .int) (C := RX3) (T := TX3) (N := 7) hx hb hts (fun w h => List.mem_cons_of_mem _ (zin_X3 w h)) tyX3 tyX3_ok nmX3 hown hK.1 hP hD hS 0 rfl rfl 1 (by decide) (ok _ tw111) (fun _ h9 => h9) rfl (by decide +kernel) rfl rfl (Nat.le_of_ble_eq_true rfl) dX3_init_14 (fun H locs hP hD hS => ?_)
  have hP : va_P D vwCl ([(h0, .inr (2, [.ref q, .int 0, .int 0, .int 0, .null, .int 0, .int 0])), (q, .inl (ct 1, 80, .inl (fun _ => 0)))]) H := hP
  have hD : va_D A ([(h0, .inr (2, [.ref q, .int 0, .int 0, .int 0, .null, .int 0, .int 0])), (q, .inl (ct 1, 80, .inl (fun _ => 0)))]) := hD
  refine lv_aload_n hx hb dX3_init_17 rfl (lv_at hl 0 rfl) ?_
  refine lv_iconst (v := (0 : Int32)) hx hb dX3_init_18 (by decide) ?_
  refine va_put (D := D) (ci := 2) (v := .int 0) (ty := .int) (C := RX3) (T := TX3) (N := 7) hx hb hts (fun w h => List.mem_cons_of_mem _ (zin_X3 w h)) tyX3 tyX3_ok nmX3 hown hK.1 hP hD hS 0 rfl rfl 2 (by decide) (ok _ tw112) (fun _ h9 => h9) rfl (by decide +kernel) rfl rfl (Nat.le_of_ble_eq_true rfl) dX3_init_19 (fun H locs hP hD hS => ?_)
  have hP : va_P D vwCl ([(h0, .inr (2, [.ref q, .int 0, .int 0, .int 0, .null, .int 0, .int 0])), (q, .inl (ct 1, 80, .inl (fun _ => 0)))]) H := hP
  have hD : va_D A ([(h0, .inr (2, [.ref q, .int 0, .int 0, .int 0, .null, .int 0, .int 0])), (q, .inl (ct 1, 80, .inl (fun _ => 0)))]) := hD
  refine lv_aload_n hx hb dX3_init_22 rfl (lv_at hl 0 rfl) ?_
  refine lv_iconst (v := (0 : Int32)) hx hb dX3_init_23 (by decide) ?_
  refine va_put (D := D) (ci := 2) (v := .int 0) (ty := .int) (C := RX3) (T := TX3) (N := 7) hx hb hts (fun w h => List.mem_cons_of_mem _ (zin_X3 w h)) tyX3 tyX3_ok nmX3 hown hK.1 hP hD hS 0 rfl rfl 3 (by decide) (ok _ tw113) (fun _ h9 => h9) rfl (by decide +kernel) rfl rfl (Nat.le_of_ble_eq_true rfl) dX3_init_24 (fun H locs hP hD hS => ?_)
  have hP : va_P D vwCl ([(h0, .inr (2, [.ref q, .int 0, .int 0, .int 0, .null, .int 0, .int 0])), (q, .inl (ct 1, 80, .inl (fun _ => 0)))]) H := hP
  have hD : va_D A ([(h0, .inr (2, [.ref q, .int 0, .int 0, .int 0, .null, .int 0, .int 0])), (q, .inl (ct 1, 80, .inl (fun _ => 0)))]) := hD
  refine lv_aload_n hx hb dX3_init_27 rfl (lv_at hl 0 rfl) ?_
  refine lv_iconst (v := (4 : Int32)) hx hb dX3_init_28 (by decide) ?_
  refine z_newa (atype := .int) (ty := .int) (z0 := (4, .inl (fun _ => 0))) (N' := 4) hx hb hts tw47 rfl hK hP hD hS hA 0 rfl (fun q => q) (fun _ => rfl) (by decide) (by decide) (Nat.le_of_ble_eq_true rfl) (Nat.le_of_ble_eq_true rfl) (Nat.le_of_ble_eq_true rfl) dX3_init_29 (fun q2 H hP hD hS => ?_)
  have hP : va_P D vwCl ([(h0, .inr (2, [.ref q, .int 0, .int 0, .int 0, .null, .int 0, .int 0])), (q, .inl (ct 1, 80, .inl (fun _ => 0))), (q2, .inl (ct 0, 4, .inl (fun _ => 0)))]) H := hP
  have hD : va_D A ([(h0, .inr (2, [.ref q, .int 0, .int 0, .int 0, .null, .int 0, .int 0])), (q, .inl (ct 1, 80, .inl (fun _ => 0))), (q2, .inl (ct 0, 4, .inl (fun _ => 0)))]) := hD
  refine z_putF (ty := .array .int) (C := RX3) (T := TX3) (N := 7) (ci := 2) hx hb hts zin_X3 tyX3 tyX3_ok nmX3 hown hK.1 hP hD hS 0 4 rfl rfl (by decide) tw114 rfl rfl hin rfl (by decide +kernel) rfl rfl (Nat.le_of_ble_eq_true rfl) dX3_init_31 (fun H locs hP hD hS => ?_)
  have hP : va_P D vwCl ([(h0, .inr (2, [.ref q, .int 0, .int 0, .int 0, .ref q2, .int 0, .int 0])), (q, .inl (ct 1, 80, .inl (fun _ => 0))), (q2, .inl (ct 0, 4, .inl (fun _ => 0)))]) H := hP
  have hD : va_D A ([(h0, .inr (2, [.ref q, .int 0, .int 0, .int 0, .ref q2, .int 0, .int 0])), (q, .inl (ct 1, 80, .inl (fun _ => 0))), (q2, .inl (ct 0, 4, .inl (fun _ => 0)))]) := hD
  refine lv_aload_n hx hb dX3_init_34 rfl (lv_at hl 0 rfl) ?_
  refine lv_iconst (v := (0 : Int32)) hx hb dX3_init_35 (by decide) ?_
  refine va_put (D := D) (ci := 2) (v := .int 0) (ty := .int) (C := RX3) (T := TX3) (N := 7) hx hb hts (fun w h => List.mem_cons_of_mem _ (zin_X3 w h)) tyX3 tyX3_ok nmX3 hown hK.1 hP hD hS 0 rfl rfl 5 (by decide) (ok _ tw115) (fun _ h9 => h9) rfl (by decide +kernel) rfl rfl (Nat.le_of_ble_eq_true rfl) dX3_init_36 (fun H locs hP hD hS => ?_)
  have hP : va_P D vwCl ([(h0, .inr (2, [.ref q, .int 0, .int 0, .int 0, .ref q2, .int 0, .int 0])), (q, .inl (ct 1, 80, .inl (fun _ => 0))), (q2, .inl (ct 0, 4, .inl (fun _ => 0)))]) H := hP
  have hD : va_D A ([(h0, .inr (2, [.ref q, .int 0, .int 0, .int 0, .ref q2, .int 0, .int 0])), (q, .inl (ct 1, 80, .inl (fun _ => 0))), (q2, .inl (ct 0, 4, .inl (fun _ => 0)))]) := hD
  refine lv_aload_n hx hb dX3_init_39 rfl (lv_at hl 0 rfl) ?_
  refine lv_iconst (v := (0 : Int32)) hx hb dX3_init_40 (by decide) ?_
  refine va_put (D := D) (ci := 2) (v := .int 0) (ty := .boolean) (C := RX3) (T := TX3) (N := 7) hx hb hts (fun w h => List.mem_cons_of_mem _ (zin_X3 w h)) tyX3 tyX3_ok nmX3 hown hK.1 hP hD hS 0 rfl rfl 6 (by decide) (ok _ tw116) (fun _ h9 => h9) rfl (by decide +kernel) rfl rfl (Nat.le_of_ble_eq_true rfl) dX3_init_41 (fun H locs hP hD hS => ?_)
  have hP : va_P D vwCl ([(h0, .inr (2, [.ref q, .int 0, .int 0, .int 0, .ref q2, .int 0, .int 0])), (q, .inl (ct 1, 80, .inl (fun _ => 0))), (q2, .inl (ct 0, 4, .inl (fun _ => 0)))]) H := hP
  have hD : va_D A ([(h0, .inr (2, [.ref q, .int 0, .int 0, .int 0, .ref q2, .int 0, .int 0])), (q, .inl (ct 1, 80, .inl (fun _ => 0))), (q2, .inl (ct 0, 4, .inl (fun _ => 0)))]) := hD
  rw [hAe] at hS hD
  exact zX_n (fun i => if i = 10 then h0 else if i = 11 then q else q2) hx hb hr hlocks hS rfl (fun t ht => ⟨by rw [ht]; exact hP, hD⟩) (Nat.le_of_ble_eq_true rfl) (Nat.le_of_ble_eq_true rfl) dX3_init_44
/-- the rows that multianewarray makes, as a list -/
theorem z_rows {n : Nat} {r : Nat → Nat} {f : Nat → va_E} {e : va_E} : va_pl ([] ++ (List.range n).map r) (vr_up f ((List.range n).map r) e) = (List.range n).map (fun i => (r i, e)) := by
  unfold va_pl
  rw [List.nil_append, List.map_map]
  apply List.map_congr_left
  intro i hi
  show (r i, vr_up f ((List.range n).map r) e (r i)) = (r i, e)
  rw [vr_up_in (List.mem_map.mpr ⟨i, hi, rfl⟩)]
set_option maxRecDepth 100000 in
set_option maxHeartbeats 4000000 in
theorem ct_X2_init (l : Launch) (D : va_G) (ct : Nat → Nat) (h0 sz : Nat) : Met l yX2_init (Cond.code yX2_init cX2_init 1 none :: zT) ({ frames := 1, cells := 8, slots := 2415, locals := 12 } : Room) (va_Pc [.ref h0] (zPO D (zTys ct) ([(h0, .inr (1, [.null, .int 0, .int 0]))]) sz)) (va_Qv (fun (u : Nat → Nat) => u 5 = h0) (fun u t => va_P D vwCl (wX2 ct u (fun _ _ => 0) 0 0) t.heap ∧ va_D (va_A ([(h0, .inr (1, [.null, .int 0, .int 0]))]) sz) (wX2 ct u (fun _ _ => 0) 0 0)) (va_A ([(h0, .inr (1, [.null, .int 0, .int 0]))]) sz)) 8 2415 (va_A ([(h0, .inr (1, [.null, .int 0, .int 0]))]) sz) := by
  refine zMet (cc := cX2_init) (maxL := 1) (ret := none) (av := [.ref h0]) (by decide) (Nat.le_of_ble_eq_true rfl) (fun p e s m below meth c ls hx hb hr hml hts hown hlocks hin hB hl => ?_)
  have hl : lv_has ls 1 [(0, .ref h0)] := hl
  have hown : s.vm.findClass RX2 = some m.cls := hown
  obtain ⟨⟨hsz, hP, hK, hD0⟩, hO⟩ := hB
  subst hsz
  have hD := hD0.self (sz := s.heap.size)
  obtain ⟨A, hAe⟩ : ∃ A, A = va_A ([(h0, .inr (1, [.null, .int 0, .int 0]))]) s.heap.size := ⟨_, rfl⟩
  rw [← hAe] at hD
  have hA : ∀ q : Nat, s.heap.size ≤ q → A q := fun q h => by rw [hAe]; exact Or.inr h
  have hS : va_S A s.heap s.heap [] := va_S.rf
  have ok : ∀ w ∈ zT, w.before _ s = true := fun w h => hts w (List.mem_cons_of_mem _ h)
  refine lv_aload_n hx hb dX2_init_0 rfl (lv_at hl 0 rfl) ?_
  refine z_obj hx hb hml hl.1 hown hts tw76 tw27 tw28 dX2_init_1 (Nat.le_of_ble_eq_true rfl) (Nat.le_of_ble_eq_true rfl) ?_
  refine lv_aload_n hx hb dX2_init_4 rfl (lv_at hl 0 rfl) ?_
  refine lv_bipush (v := (7 : Int32)) hx hb dX2_init_5 (by decide) ?_
  refine lv_sipush (v := (344 : Int32)) hx hb dX2_init_7 (by decide) ?_
  refine va_mna (X := [(h0, .inr (1, [.null, .int 0, .int 0]))]) (L := []) (f := fun _ => .inr (0, [])) (z := (344, .inl (fun _ => 0))) (ty := .int) (N' := 7) (K' := 344) hx hb hown (ok _ tw77) (hO.use) (ok _ tw47) (by rw [show (FieldType.array .int).toString = "[" ++ FieldType.int.toString from rfl]; exact (hK.1.2 0 _ rfl).2) hK.1 hP hD hS hA (by decide) (by decide) (by decide) (by decide) (Nat.le_of_ble_eq_true rfl) (Nat.le_of_ble_eq_true rfl) (Nat.le_of_ble_eq_true rfl) rfl rfl (Nat.le_of_ble_eq_true rfl) (Nat.le_of_ble_eq_true rfl) (fun _ => rfl) dX2_init_10 (fun q r cA H hinj _ hK2 hP hD hS => ?_)
  have hcA : cA = ct 3 := by
    have e1 := (hK2.2 4 _ rfl).2
    have e2 := (hK.1.2 3 _ rfl).2
    exact Option.some.inj (e1.symm.trans e2)
  subst hcA
  rw [z_rows] at hP hD
  have hP : va_P D vwCl ([(h0, .inr (1, [.null, .int 0, .int 0])), (q, .inl (ct 3, 7, .inr (.inr (.inr (.inr (fun i => if i < 7 then some (r i) else none)))))), (r 0, .inl (ct 0, 344, .inl (fun _ => 0))), (r 1, .inl (ct 0, 344, .inl (fun _ => 0))), (r 2, .inl (ct 0, 344, .inl (fun _ => 0))), (r 3, .inl (ct 0, 344, .inl (fun _ => 0))), (r 4, .inl (ct 0, 344, .inl (fun _ => 0))), (r 5, .inl (ct 0, 344, .inl (fun _ => 0))), (r 6, .inl (ct 0, 344, .inl (fun _ => 0)))]) H := hP
  have hD : va_D A ([(h0, .inr (1, [.null, .int 0, .int 0])), (q, .inl (ct 3, 7, .inr (.inr (.inr (.inr (fun i => if i < 7 then some (r i) else none)))))), (r 0, .inl (ct 0, 344, .inl (fun _ => 0))), (r 1, .inl (ct 0, 344, .inl (fun _ => 0))), (r 2, .inl (ct 0, 344, .inl (fun _ => 0))), (r 3, .inl (ct 0, 344, .inl (fun _ => 0))), (r 4, .inl (ct 0, 344, .inl (fun _ => 0))), (r 5, .inl (ct 0, 344, .inl (fun _ => 0))), (r 6, .inl (ct 0, 344, .inl (fun _ => 0)))]) := hD
  refine z_putF (ty := .array (.array .int)) (C := RX2) (T := TX2) (N := 3) (ci := 1) hx hb hts zin_X2 tyX2 tyX2_ok nmX2 hown hK.1 hP hD hS 0 0 rfl rfl (by decide) tw79 rfl rfl hin rfl (by decide +kernel) rfl rfl (Nat.le_of_ble_eq_true rfl) dX2_init_14 (fun H locs hP hD hS => ?_)
  have hP : va_P D vwCl ([(h0, .inr (1, [.ref q, .int 0, .int 0])), (q, .inl (ct 3, 7, .inr (.inr (.inr (.inr (fun i => if i < 7 then some (r i) else none)))))), (r 0, .inl (ct 0, 344, .inl (fun _ => 0))), (r 1, .inl (ct 0, 344, .inl (fun _ => 0))), (r 2, .inl (ct 0, 344, .inl (fun _ => 0))), (r 3, .inl (ct 0, 344, .inl (fun _ => 0))), (r 4, .inl (ct 0, 344, .inl (fun _ => 0))), (r 5, .inl (ct 0, 344, .inl (fun _ => 0))), (r 6, .inl (ct 0, 344, .inl (fun _ => 0)))]) H := hP
  have hD : va_D A ([(h0, .inr (1, [.ref q, .int 0, .int 0])), (q, .inl (ct 3, 7, .inr (.inr (.inr (.inr (fun i => if i < 7 then some (r i) else none)))))), (r 0, .inl (ct 0, 344, .inl (fun _ => 0))), (r 1, .inl (ct 0, 344, .inl (fun _ => 0))), (r 2, .inl (ct 0, 344, .inl (fun _ => 0))), (r 3, .inl (ct 0, 344, .inl (fun _ => 0))), (r 4, .inl (ct 0, 344, .inl (fun _ => 0))), (r 5, .inl (ct 0, 344, .inl (fun _ => 0))), (r 6, .inl (ct 0, 344, .inl (fun _ => 0)))]) := hD
  refine lv_aload_n hx hb dX2_init_17 rfl (lv_at hl 0 rfl) ?_
  refine lv_iconst (v := (0 : Int32)) hx hb dX2_init_18 (by decide) ?_
  refine va_put (D := D) (ci := 1) (v := .int 0) (ty := .int) (C := RX2) (T := TX2) (N := 3) hx hb hts (fun w h => List.mem_cons_of_mem _ (zin_X2 w h)) tyX2 tyX2_ok nmX2 hown hK.1 hP hD hS 0 rfl rfl 1 (by decide) (ok _ tw80) (fun _ h9 => h9) rfl (by decide +kernel) rfl rfl (Nat.le_of_ble_eq_true rfl) dX2_init_19 (fun H locs hP hD hS => ?_)
  have hP : va_P D vwCl ([(h0, .inr (1, [.ref q, .int 0, .int 0])), (q, .inl (ct 3, 7, .inr (.inr (.inr (.inr (fun i => if i < 7 then some (r i) else none)))))), (r 0, .inl (ct 0, 344, .inl (fun _ => 0))), (r 1, .inl (ct 0, 344, .inl (fun _ => 0))), (r 2, .inl (ct 0, 344, .inl (fun _ => 0))), (r 3, .inl (ct 0, 344, .inl (fun _ => 0))), (r 4, .inl (ct 0, 344, .inl (fun _ => 0))), (r 5, .inl (ct 0, 344, .inl (fun _ => 0))), (r 6, .inl (ct 0, 344, .inl (fun _ => 0)))]) H := hP
  have hD : va_D A ([(h0, .inr (1, [.ref q, .int 0, .int 0])), (q, .inl (ct 3, 7, .inr (.inr (.inr (.inr (fun i => if i < 7 then some (r i) else none)))))), (r 0, .inl (ct 0, 344, .inl (fun _ => 0))), (r 1, .inl (ct 0, 344, .inl (fun _ => 0))), (r 2, .inl (ct 0, 344, .inl (fun _ => 0))), (r 3, .inl (ct 0, 344, .inl (fun _ => 0))), (r 4, .inl (ct 0, 344, .inl (fun _ => 0))), (r 5, .inl (ct 0, 344, .inl (fun _ => 0))), (r 6, .inl (ct 0, 344, .inl (fun _ => 0)))]) := hD
  refine lv_aload_n hx hb dX2_init_22 rfl (lv_at hl 0 rfl) ?_
  refine lv_iconst (v := (0 : Int32)) hx hb dX2_init_23 (by decide) ?_
  refine va_put (D := D) (ci := 1) (v := .int 0) (ty := .int) (C := RX2) (T := TX2) (N := 3) hx hb hts (fun w h => List.mem_cons_of_mem _ (zin_X2 w h)) tyX2 tyX2_ok nmX2 hown hK.1 hP hD hS 0 rfl rfl 2 (by decide) (ok _ tw81) (fun _ h9 => h9) rfl (by decide +kernel) rfl rfl (Nat.le_of_ble_eq_true rfl) dX2_init_24 (fun H locs hP hD hS => ?_)
  have hP : va_P D vwCl ([(h0, .inr (1, [.ref q, .int 0, .int 0])), (q, .inl (ct 3, 7, .inr (.inr (.inr (.inr (fun i => if i < 7 then some (r i) else none)))))), (r 0, .inl (ct 0, 344, .inl (fun _ => 0))), (r 1, .inl (ct 0, 344, .inl (fun _ => 0))), (r 2, .inl (ct 0, 344, .inl (fun _ => 0))), (r 3, .inl (ct 0, 344, .inl (fun _ => 0))), (r 4, .inl (ct 0, 344, .inl (fun _ => 0))), (r 5, .inl (ct 0, 344, .inl (fun _ => 0))), (r 6, .inl (ct 0, 344, .inl (fun _ => 0)))]) H := hP
  have hD : va_D A ([(h0, .inr (1, [.ref q, .int 0, .int 0])), (q, .inl (ct 3, 7, .inr (.inr (.inr (.inr (fun i => if i < 7 then some (r i) else none)))))), (r 0, .inl (ct 0, 344, .inl (fun _ => 0))), (r 1, .inl (ct 0, 344, .inl (fun _ => 0))), (r 2, .inl (ct 0, 344, .inl (fun _ => 0))), (r 3, .inl (ct 0, 344, .inl (fun _ => 0))), (r 4, .inl (ct 0, 344, .inl (fun _ => 0))), (r 5, .inl (ct 0, 344, .inl (fun _ => 0))), (r 6, .inl (ct 0, 344, .inl (fun _ => 0)))]) := hD
  rw [hAe] at hS hD
  refine zX_n (fun i => if i = 5 then h0 else if i = 6 then q else r (i - 13)) hx hb hr hlocks hS rfl (fun t ht => ?_) (Nat.le_of_ble_eq_true rfl) (Nat.le_of_ble_eq_true rfl) dX2_init_27
  have ef : (fun i => if i < 7 then some (r i) else none) = (fun i => if i < 7 then some ((fun i => if i = 5 then h0 else if i = 6 then q else r (i - 13)) (13 + i)) else none) := by
    funext i
    by_cases hi : i < 7
    · rw [if_pos hi, if_pos hi]
      show some (r i) = some (if 13 + i = 5 then h0 else if 13 + i = 6 then q else r (13 + i - 13))
      rw [if_neg (by omega), if_neg (by omega), Nat.add_sub_cancel_left]
    · rw [if_neg hi, if_neg hi]
  rw [ef] at hP hD
  exact ⟨by rw [ht]; exact hP, hD⟩
set_option maxRecDepth 100000 in
set_option maxHeartbeats 4000000 in
theorem ct_X4_init (l : Launch) (D : va_G) (ct : Nat → Nat) (h0 sz : Nat) : Met l yX4_init (Cond.code yX4_init cX4_init 1 none :: zT) ({ frames := 1, cells := 4, slots := 692, locals := 12 } : Room) (va_Pc [.ref h0] (zPO D (zTys ct) ([(h0, .inr (3, [.null, .null]))]) sz)) (va_Qv (fun (u : Nat → Nat) => u 7 = h0) (fun u t => va_P D vwCl (wX4 ct u (fun _ _ => 0) (fun _ => 0)) t.heap ∧ va_D (va_A ([(h0, .inr (3, [.null, .null]))]) sz) (wX4 ct u (fun _ _ => 0) (fun _ => 0))) (va_A ([(h0, .inr (3, [.null, .null]))]) sz)) 4 692 (va_A ([(h0, .inr (3, [.null, .null]))]) sz) := by
  refine zMet (cc := cX4_init) (maxL := 1) (ret := none) (av := [.ref h0]) (by decide) (Nat.le_of_ble_eq_true rfl) (fun p e s m below meth c ls hx hb hr hml hts hown hlocks hin hB hl => ?_)
  have hl : lv_has ls 1 [(0, .ref h0)] := hl
  have hown : s.vm.findClass RX4 = some m.cls := hown
  obtain ⟨⟨hsz, hP, hK, hD0⟩, hO⟩ := hB
  subst hsz
  have hD := hD0.self (sz := s.heap.size)
  obtain ⟨A, hAe⟩ : ∃ A, A = va_A ([(h0, .inr (3, [.null, .null]))]) s.heap.size := ⟨_, rfl⟩
  rw [← hAe] at hD
  have hA : ∀ q : Nat, s.heap.size ≤ q → A q := fun q h => by rw [hAe]; exact Or.inr h
  have hS : va_S A s.heap s.heap [] := va_S.rf
  have ok : ∀ w ∈ zT, w.before _ s = true := fun w h => hts w (List.mem_cons_of_mem _ h)
  refine lv_aload_n hx hb dX4_init_0 rfl (lv_at hl 0 rfl) ?_
  refine z_obj hx hb hml hl.1 hown hts tw94 tw27 tw28 dX4_init_1 (Nat.le_of_ble_eq_true rfl) (Nat.le_of_ble_eq_true rfl) ?_
  refine lv_aload_n hx hb dX4_init_4 rfl (lv_at hl 0 rfl) ?_
  refine lv_iconst (v := (2 : Int32)) hx hb dX4_init_5 (by decide) ?_
  refine lv_sipush (v := (344 : Int32)) hx hb dX4_init_6 (by decide) ?_
  refine va_mna (X := [(h0, .inr (3, [.null, .null]))]) (L := []) (f := fun _ => .inr (0, [])) (z := (344, .inl (fun _ => 0))) (ty := .int) (N' := 2) (K' := 344) hx hb hown (ok _ tw95) (hO.use) (ok _ tw47) (by rw [show (FieldType.array .int).toString = "[" ++ FieldType.int.toString from rfl]; exact (hK.1.2 0 _ rfl).2) hK.1 hP hD hS hA (by decide) (by decide) (by decide) (by decide) (Nat.le_of_ble_eq_true rfl) (Nat.le_of_ble_eq_true rfl) (Nat.le_of_ble_eq_true rfl) rfl rfl (Nat.le_of_ble_eq_true rfl) (Nat.le_of_ble_eq_true rfl) (fun _ => rfl) dX4_init_9 (fun q r cA H hinj _ hK2 hP hD hS => ?_)
  have hcA : cA = ct 3 := by
    have e1 := (hK2.2 4 _ rfl).2
    have e2 := (hK.1.2 3 _ rfl).2
    exact Option.some.inj (e1.symm.trans e2)
  subst hcA
  rw [z_rows] at hP hD
  have hP : va_P D vwCl ([(h0, .inr (3, [.null, .null])), (q, .inl (ct 3, 2, .inr (.inr (.inr (.inr (fun i => if i < 2 then some (r i) else none)))))), (r 0, .inl (ct 0, 344, .inl (fun _ => 0))), (r 1, .inl (ct 0, 344, .inl (fun _ => 0)))]) H := hP
  have hD : va_D A ([(h0, .inr (3, [.null, .null])), (q, .inl (ct 3, 2, .inr (.inr (.inr (.inr (fun i => if i < 2 then some (r i) else none)))))), (r 0, .inl (ct 0, 344, .inl (fun _ => 0))), (r 1, .inl (ct 0, 344, .inl (fun _ => 0)))]) := hD
  refine z_putF (ty := .array (.array .int)) (C := RX4) (T := TX4) (N := 2) (ci := 3) hx hb hts zin_X4 tyX4 tyX4_ok nmX4 hown hK.1 hP hD hS 0 0 rfl rfl (by decide) tw96 rfl rfl hin rfl (by decide +kernel) rfl rfl (Nat.le_of_ble_eq_true rfl) dX4_init_13 (fun H locs hP hD hS => ?_)
  have hP : va_P D vwCl ([(h0, .inr (3, [.ref q, .null])), (q, .inl (ct 3, 2, .inr (.inr (.inr (.inr (fun i => if i < 2 then some (r i) else none)))))), (r 0, .inl (ct 0, 344, .inl (fun _ => 0))), (r 1, .inl (ct 0, 344, .inl (fun _ => 0)))]) H := hP
  have hD : va_D A ([(h0, .inr (3, [.ref q, .null])), (q, .inl (ct 3, 2, .inr (.inr (.inr (.inr (fun i => if i < 2 then some (r i) else none)))))), (r 0, .inl (ct 0, 344, .inl (fun _ => 0))), (r 1, .inl (ct 0, 344, .inl (fun _ => 0)))]) := hD
  refine lv_aload_n hx hb dX4_init_16 rfl (lv_at hl 0 rfl) ?_
  refine lv_iconst (v := (2 : Int32)) hx hb dX4_init_17 (by decide) ?_
  refine z_newa (atype := .boolean) (ty := .boolean) (z0 := (2, .inl (fun _ => 0))) (N' := 2) hx hb hts tw103 rfl hK hP hD hS hA 2 rfl (fun q => q) (fun _ => rfl) (by decide) (by decide) (Nat.le_of_ble_eq_true rfl) (Nat.le_of_ble_eq_true rfl) (Nat.le_of_ble_eq_true rfl) dX4_init_18 (fun q2 H hP hD hS => ?_)
  have hP : va_P D vwCl ([(h0, .inr (3, [.ref q, .null])), (q, .inl (ct 3, 2, .inr (.inr (.inr (.inr (fun i => if i < 2 then some (r i) else none)))))), (r 0, .inl (ct 0, 344, .inl (fun _ => 0))), (r 1, .inl (ct 0, 344, .inl (fun _ => 0))), (q2, .inl (ct 2, 2, .inl (fun _ => 0)))]) H := hP
  have hD : va_D A ([(h0, .inr (3, [.ref q, .null])), (q, .inl (ct 3, 2, .inr (.inr (.inr (.inr (fun i => if i < 2 then some (r i) else none)))))), (r 0, .inl (ct 0, 344, .inl (fun _ => 0))), (r 1, .inl (ct 0, 344, .inl (fun _ => 0))), (q2, .inl (ct 2, 2, .inl (fun _ => 0)))]) := hD
  refine z_putF (ty := .array .boolean) (C := RX4) (T := TX4) (N := 2) (ci := 3) hx hb hts zin_X4 tyX4 tyX4_ok nmX4 hown hK.1 hP hD hS 0 1 rfl rfl (by decide) tw97 rfl rfl hin rfl (by decide +kernel) rfl rfl (Nat.le_of_ble_eq_true rfl) dX4_init_20 (fun H locs hP hD hS => ?_)
  have hP : va_P D vwCl ([(h0, .inr (3, [.ref q, .ref q2])), (q, .inl (ct 3, 2, .inr (.inr (.inr (.inr (fun i => if i < 2 then some (r i) else none)))))), (r 0, .inl (ct 0, 344, .inl (fun _ => 0))), (r 1, .inl (ct 0, 344, .inl (fun _ => 0))), (q2, .inl (ct 2, 2, .inl (fun _ => 0)))]) H := hP
  have hD : va_D A ([(h0, .inr (3, [.ref q, .ref q2])), (q, .inl (ct 3, 2, .inr (.inr (.inr (.inr (fun i => if i < 2 then some (r i) else none)))))), (r 0, .inl (ct 0, 344, .inl (fun _ => 0))), (r 1, .inl (ct 0, 344, .inl (fun _ => 0))), (q2, .inl (ct 2, 2, .inl (fun _ => 0)))]) := hD
  rw [hAe] at hS hD
  refine zX_n (fun i => if i = 7 then h0 else if i = 8 then q else if i = 9 then q2 else r (i - 20)) hx hb hr hlocks hS rfl (fun t ht => ?_) (Nat.le_of_ble_eq_true rfl) (Nat.le_of_ble_eq_true rfl) dX4_init_23
  have ef : (fun i => if i < 2 then some (r i) else none) = (fun i => if i < 2 then some ((fun i => if i = 7 then h0 else if i = 8 then q else if i = 9 then q2 else r (i - 20)) (20 + i)) else none) := by
    funext i
    by_cases hi : i < 2
    · rw [if_pos hi, if_pos hi]
      show some (r i) = some (if 20 + i = 7 then h0 else if 20 + i = 8 then q else if 20 + i = 9 then q2 else r (20 + i - 20))
      rw [if_neg (by omega), if_neg (by omega), if_neg (by omega), Nat.add_sub_cancel_left]
    · rw [if_neg hi, if_neg hi]
  rw [ef] at hP hD
  have hP := hP.sub [0, 1, 4, 2, 3] (ws' := wX4 ct (fun i => if i = 7 then h0 else if i = 8 then q else if i = 9 then q2 else r (i - 20)) (fun _ _ => 0) (fun _ => 0)) rfl
  have hD := hD.sub [0, 1, 4, 2, 3] (by decide) (ws' := wX4 ct (fun i => if i = 7 then h0 else if i = 8 then q else if i = 9 then q2 else r (i - 20)) (fun _ _ => 0) (fun _ => 0)) rfl
  exact ⟨by rw [ht]; exact hP, hD⟩
