/-! MY WALK'S BASE: functions in plain form (zl, zg, zb..), and rows that carry 'function = some result' along the walk. -/
def zl {α β : Type} (x : α) (k : α → β) : β := k x
def zg {ρ : Type} (b : Bool) (k : Option ρ) : Option ρ := match b with
  | true => k
  | false => none
theorem zg_s {ρ : Type} {b : Bool} {k : Option ρ} {r : ρ} (h : zg b k = some r) : b = true ∧ k = some r := by
  cases b with
  | true => exact ⟨rfl, h⟩
  | false => cases h
def zb1 {α ρ : Type} (o : Option α) (k : α → Option ρ) : Option ρ := match o with
  | some a => k a
  | none => none
def zb2 {α β ρ : Type} (o : Option (α × β)) (k : α → β → Option ρ) : Option ρ := match o with
  | some (a, b) => k a b
  | none => none
def zb3 {α β γ ρ : Type} (o : Option (α × β × γ)) (k : α → β → γ → Option ρ) : Option ρ := match o with
  | some (a, b, c) => k a b c
  | none => none
def zb4 {α β γ δ ρ : Type} (o : Option (α × β × γ × δ)) (k : α → β → γ → δ → Option ρ) : Option ρ := match o with
  | some (a, b, c, d) => k a b c d
  | none => none
def zb5 {α β γ δ ε ρ : Type} (o : Option (α × β × γ × δ × ε)) (k : α → β → γ → δ → ε → Option ρ) : Option ρ := match o with
  | some (a, b, c, d, e) => k a b c d e
  | none => none
def zb6 {α β γ δ ε ζ ρ : Type} (o : Option (α × β × γ × δ × ε × ζ)) (k : α → β → γ → δ → ε → ζ → Option ρ) : Option ρ := match o with
  | some (a, b, c, d, e, f) => k a b c d e f
  | none => none
def zb7 {α β γ δ ε ζ η ρ : Type} (o : Option (α × β × γ × δ × ε × ζ × η)) (k : α → β → γ → δ → ε → ζ → η → Option ρ) : Option ρ := match o with
  | some (a, b, c, d, e, f, g) => k a b c d e f g
  | none => none
def zb8 {α β γ δ ε ζ η θ ρ : Type} (o : Option (α × β × γ × δ × ε × ζ × η × θ)) (k : α → β → γ → δ → ε → ζ → η → θ → Option ρ) : Option ρ := match o with
  | some (a, b, c, d, e, f, g, i) => k a b c d e f g i
  | none => none
theorem zb1_s {α ρ : Type} {o : Option α} {k : α → Option ρ} {r : ρ} (h : zb1 o k = some r) : ∃ a, o = some a ∧ k a = some r := by
  cases o with
  | none => cases h
  | some a => exact ⟨a, rfl, h⟩
theorem zb2_s {α β ρ : Type} {o : Option (α × β)} {k : α → β → Option ρ} {r : ρ} (h : zb2 o k = some r) : ∃ a b, o = some (a, b) ∧ k a b = some r := by
  cases o with
  | none => cases h
  | some q => exact ⟨q.1, q.2, rfl, h⟩
theorem zb3_s {α β γ ρ : Type} {o : Option (α × β × γ)} {k : α → β → γ → Option ρ} {r : ρ} (h : zb3 o k = some r) : ∃ a b c, o = some (a, b, c) ∧ k a b c = some r := by
  cases o with
  | none => cases h
  | some q => exact ⟨q.1, q.2.1, q.2.2, rfl, h⟩
theorem zb4_s {α β γ δ ρ : Type} {o : Option (α × β × γ × δ)} {k : α → β → γ → δ → Option ρ} {r : ρ} (h : zb4 o k = some r) : ∃ a b c d, o = some (a, b, c, d) ∧ k a b c d = some r := by
  cases o with
  | none => cases h
  | some q => exact ⟨q.1, q.2.1, q.2.2.1, q.2.2.2, rfl, h⟩
theorem zb5_s {α β γ δ ε ρ : Type} {o : Option (α × β × γ × δ × ε)} {k : α → β → γ → δ → ε → Option ρ} {r : ρ} (h : zb5 o k = some r) : ∃ a b c d e, o = some (a, b, c, d, e) ∧ k a b c d e = some r := by
  cases o with
  | none => cases h
  | some q => exact ⟨q.1, q.2.1, q.2.2.1, q.2.2.2.1, q.2.2.2.2, rfl, h⟩
theorem zb6_s {α β γ δ ε ζ ρ : Type} {o : Option (α × β × γ × δ × ε × ζ)} {k : α → β → γ → δ → ε → ζ → Option ρ} {r : ρ} (h : zb6 o k = some r) : ∃ a b c d e f, o = some (a, b, c, d, e, f) ∧ k a b c d e f = some r := by
  cases o with
  | none => cases h
  | some q => exact ⟨q.1, q.2.1, q.2.2.1, q.2.2.2.1, q.2.2.2.2.1, q.2.2.2.2.2, rfl, h⟩
theorem zb7_s {α β γ δ ε ζ η ρ : Type} {o : Option (α × β × γ × δ × ε × ζ × η)} {k : α → β → γ → δ → ε → ζ → η → Option ρ} {r : ρ} (h : zb7 o k = some r) : ∃ a b c d e f g, o = some (a, b, c, d, e, f, g) ∧ k a b c d e f g = some r := by
  cases o with
  | none => cases h
  | some q => exact ⟨q.1, q.2.1, q.2.2.1, q.2.2.2.1, q.2.2.2.2.1, q.2.2.2.2.2.1, q.2.2.2.2.2.2, rfl, h⟩
theorem zb8_s {α β γ δ ε ζ η θ ρ : Type} {o : Option (α × β × γ × δ × ε × ζ × η × θ)} {k : α → β → γ → δ → ε → ζ → η → θ → Option ρ} {r : ρ} (h : zb8 o k = some r) : ∃ a b c d e f g i, o = some (a, b, c, d, e, f, g, i) ∧ k a b c d e f g i = some r := by
  cases o with
  | none => cases h
  | some q => exact ⟨q.1, q.2.1, q.2.2.1, q.2.2.2.1, q.2.2.2.2.1, q.2.2.2.2.2.1, q.2.2.2.2.2.2.1, q.2.2.2.2.2.2.2, rfl, h⟩
/-- guards -/
def zin (i : Int32) (n : Nat) : Bool := decide (0 ≤ i.toInt ∧ i.toInt < n)
theorem zin_s {i : Int32} {n : Nat} (h : zin i n = true) : vp_in i n := vp_in_iff.mpr (of_decide_eq_true h)
def znz (y : Int32) : Bool := decide (¬ y = 0)
def zbo (v : Int32) : Bool := decide (v = 0 ∨ v = 1)
def z32 (r : UInt32) : Bool := decide (r &&& 0x7fffffff ≤ 0x7f800000)
def z64 (r : UInt64) : Bool := decide (r &&& 0x7fffffffffffffff ≤ 0x7ff0000000000000)
theorem z32_s {r : UInt32} (h : z32 r = true) : vf_n32 r := by
  unfold vf_n32
  exact of_decide_eq_true h
theorem z64_s {r : UInt64} (h : z64 r = true) : vf_n64 r := by
  unfold vf_n64
  exact of_decide_eq_true h
theorem zbo_n {v : Int32} (h : zbo v = true) : narrow .boolean (.int v) = .int v := by
  rcases of_decide_eq_true h with rfl | rfl <;> rfl
theorem zbo_f {v : Int32} (h : zbo v = true) : fits .boolean (.int v) = true := by
  rcases of_decide_eq_true h with rfl | rfl <;> rfl
theorem z_fm {α β : Type} {f : α → Option β} : ∀ {is : List α} {w : List β}, is.map f = w.map some → is.filterMap f = w := by
  intro is
  induction is with
  | nil => intro w h; cases w with
    | nil => rfl
    | cons b w => cases h
  | cons i is ih => intro w h; cases w with
    | nil => cases h
    | cons b w =>
      have h1 := List.cons.inj h
      rw [List.filterMap_cons, h1.1]
      exact congrArg (b :: ·) (ih h1.2)
/-! the one table of words -/
def zT : List Cond := lw_tbl.filter goodWord
theorem zT_i {w : Cond} (h : w ∈ lw_tbl) (hg : goodWord w = true) : w ∈ zT := List.mem_filter.mpr ⟨h, hg⟩
theorem zT_g {w : Cond} (h : w ∈ zT) : goodWord w = true := (List.mem_filter.mp h).2
theorem z_good {a : Cond} {ws : List Cond} (h : ∀ w ∈ ws, w ∈ zT) : GoodIn (a :: zT) ws := fun w hw => ⟨List.mem_cons_of_mem _ (h w hw), good_of_word (zT_g (h w hw))⟩
theorem z_goodC {a b : Cond} (hb : b ∈ zT) : GoodIn (a :: zT) (b :: zT) := z_good (fun w hw => by
  rcases List.mem_cons.mp hw with rfl | h
  · exact hb
  · exact h)
/-- what the table says of an instance method, of a static one -/
def zMV (y : MethodName) (C : String) (bytes : ByteArray) (maxL : Nat) (ret : Option FieldType) (n : Nat) : Prop :=
  (Cond.instanceMethod y ∈ zT ∧ Cond.selects C y y ∈ zT ∧ Cond.initialized C ∈ zT ∧ Cond.code y bytes maxL ret ∈ zT) ∧ y.cls = C ∧ y.cls ≠ "java/lang/invoke/MethodHandle" ∧ y.cls ≠ "java/lang/invoke/VarHandle" ∧ (parseMethodDescriptor y.desc).map (fun d => d.parameters.length) = some n
def zMS (y : MethodName) (bytes : ByteArray) (maxL : Nat) (ret : Option FieldType) (n : Nat) : Prop :=
  (Cond.static y ∈ zT ∧ Cond.initialized y.cls ∈ zT ∧ Cond.code y bytes maxL ret ∈ zT) ∧ y.cls ≠ "java/lang/invoke/MethodHandle" ∧ y.cls ≠ "java/lang/invoke/VarHandle" ∧ (parseMethodDescriptor y.desc).map (fun d => d.parameters.length) = some n
def zMI (y : MethodName) (bytes : ByteArray) (maxL : Nat) (n : Nat) : Prop :=
  (Cond.instanceMethod y ∈ zT ∧ Cond.initialized y.cls ∈ zT ∧ Cond.code y bytes maxL none ∈ zT ∧ y.name = "<init>") ∧ y.cls ≠ "java/lang/invoke/MethodHandle" ∧ y.cls ≠ "java/lang/invoke/VarHandle" ∧ (parseMethodDescriptor y.desc).map (fun d => d.parameters.length) = some n
section ZB
variable {p : Program} {l : Launch} {e : Env} {R : Room} {s : State} {m : MethodId} {args : Array Value} {below : List Frame} {meth : Method} {c : Code} {H : Heap} {locs : List Loc} {cells slots : Nat} {Q : State → Prop}
variable {cc : ByteArray} {pc : Nat} {ls : Array Slot} {rest : List Value} {D : va_G} {tys : List (ClassId × FieldType)} {ws : va_W} {A : Nat → Prop} {H0 : Heap}
/-- a method's contract out of its body's walk -/
theorem zMet {y : MethodName} {maxL : Nat} {ret : Option FieldType} {rm : Room} {av : List Value} {B : State → Prop} {Qc : Array Value → State → Outcome → State → Prop} {mc ms : Nat} {free : Addr → Prop} (hy : plainName y.cls = true) (hav : (lg_sl av).length ≤ maxL)
    (body : ∀ (p : Program) (e : Env) (s : State) (m : MethodId) (below : List Frame) (meth : Method) (c : Code) (ls : Array Slot), p.tables.exec = Jvm.exec → c.code = cc → meth.sig.returnType = ret → c.maxLocals = maxL → (∀ w ∈ Cond.code y cc maxL ret :: zT, w.before av.toArray s = true) → s.vm.findClass y.cls = some m.cls → meth.locks = false → meth.name = y.name → B s → lv_has ls maxL (lv_args 0 av) →
      W p l e rm s m av.toArray below meth c s.heap [] 0 0 (MQ below Qc av.toArray s mc ms free) (F0 m 0 ls [])) : Met l y (Cond.code y cc maxL ret :: zT) rm (va_Pc av B) Qc mc ms free := by
  refine Met.ofW (cc := cc) (maxL := maxL) (ret := ret) hy rfl ?_
  intro p e s m args below meth c s₁ B' hml hv
  obtain ⟨rfl, hB⟩ := hv
  rw [lg_entry_eq]
  exact body p e s m below meth c _ B'.exec B'.bytes B'.returns hml (atoms_spec (ws := Cond.code y cc maxL ret :: zT) B'.pre) (findClass_of_methodNamed B'.named) B'.notSynchronized (name_of_methodNamed B'.named B'.method).1 hB (lv_entry av hav)
/-! branches -/
theorem zi_eq {ρ : Type} {a b : Option ρ} {r : ρ} {x : Int32} {off : Int} {tgt : Nat} (hexec : p.tables.exec = Jvm.exec) (hb : c.code = cc) (hdg : decode cc pc = .ok (.ifCond .eq off, 3)) (ht : (pc : Int) + off = (tgt : Int)) (h : (if x = 0 then a else b) = some r)
    (kt : a = some r → W p l e R s m args below meth c H locs cells slots Q (F0 m tgt ls rest)) (kf : b = some r → W p l e R s m args below meth c H locs cells slots Q (F0 m (pc + 3) ls rest)) : W p l e R s m args below meth c H locs cells slots Q (F0 m pc ls (.int x :: rest)) :=
  lv_if_eq hexec hb hdg ht (fun q => kt (by rwa [if_pos q] at h)) (fun q => kf (by rwa [if_neg q] at h))
theorem zi_ne {ρ : Type} {a b : Option ρ} {r : ρ} {x : Int32} {off : Int} {tgt : Nat} (hexec : p.tables.exec = Jvm.exec) (hb : c.code = cc) (hdg : decode cc pc = .ok (.ifCond .ne off, 3)) (ht : (pc : Int) + off = (tgt : Int)) (h : (if x = 0 then b else a) = some r)
    (kt : a = some r → W p l e R s m args below meth c H locs cells slots Q (F0 m tgt ls rest)) (kf : b = some r → W p l e R s m args below meth c H locs cells slots Q (F0 m (pc + 3) ls rest)) : W p l e R s m args below meth c H locs cells slots Q (F0 m pc ls (.int x :: rest)) :=
  lv_if_ne hexec hb hdg ht (fun q => kt (by rwa [if_neg q] at h)) (fun q => kf (by rwa [if_pos q] at h))
theorem zi_lt {ρ : Type} {a b : Option ρ} {r : ρ} {x : Int32} {off : Int} {tgt : Nat} (hexec : p.tables.exec = Jvm.exec) (hb : c.code = cc) (hdg : decode cc pc = .ok (.ifCond .lt off, 3)) (ht : (pc : Int) + off = (tgt : Int)) (h : (if x < 0 then a else b) = some r)
    (kt : a = some r → W p l e R s m args below meth c H locs cells slots Q (F0 m tgt ls rest)) (kf : b = some r → W p l e R s m args below meth c H locs cells slots Q (F0 m (pc + 3) ls rest)) : W p l e R s m args below meth c H locs cells slots Q (F0 m pc ls (.int x :: rest)) :=
  lv_if_lt hexec hb hdg ht (fun q => kt (by rwa [if_pos q] at h)) (fun q => kf (by rwa [if_neg q] at h))
theorem zi_ge {ρ : Type} {a b : Option ρ} {r : ρ} {x : Int32} {off : Int} {tgt : Nat} (hexec : p.tables.exec = Jvm.exec) (hb : c.code = cc) (hdg : decode cc pc = .ok (.ifCond .ge off, 3)) (ht : (pc : Int) + off = (tgt : Int)) (h : (if 0 ≤ x then a else b) = some r)
    (kt : a = some r → W p l e R s m args below meth c H locs cells slots Q (F0 m tgt ls rest)) (kf : b = some r → W p l e R s m args below meth c H locs cells slots Q (F0 m (pc + 3) ls rest)) : W p l e R s m args below meth c H locs cells slots Q (F0 m pc ls (.int x :: rest)) :=
  lv_if_ge hexec hb hdg ht (fun q => kt (by rwa [if_pos q] at h)) (fun q => kf (by rwa [if_neg q] at h))
theorem zi_gt {ρ : Type} {a b : Option ρ} {r : ρ} {x : Int32} {off : Int} {tgt : Nat} (hexec : p.tables.exec = Jvm.exec) (hb : c.code = cc) (hdg : decode cc pc = .ok (.ifCond .gt off, 3)) (ht : (pc : Int) + off = (tgt : Int)) (h : (if 0 < x then a else b) = some r)
    (kt : a = some r → W p l e R s m args below meth c H locs cells slots Q (F0 m tgt ls rest)) (kf : b = some r → W p l e R s m args below meth c H locs cells slots Q (F0 m (pc + 3) ls rest)) : W p l e R s m args below meth c H locs cells slots Q (F0 m pc ls (.int x :: rest)) :=
  lv_if_gt hexec hb hdg ht (fun q => kt (by rwa [if_pos q] at h)) (fun q => kf (by rwa [if_neg q] at h))
theorem zi_le {ρ : Type} {a b : Option ρ} {r : ρ} {x : Int32} {off : Int} {tgt : Nat} (hexec : p.tables.exec = Jvm.exec) (hb : c.code = cc) (hdg : decode cc pc = .ok (.ifCond .le off, 3)) (ht : (pc : Int) + off = (tgt : Int)) (h : (if x ≤ 0 then a else b) = some r)
    (kt : a = some r → W p l e R s m args below meth c H locs cells slots Q (F0 m tgt ls rest)) (kf : b = some r → W p l e R s m args below meth c H locs cells slots Q (F0 m (pc + 3) ls rest)) : W p l e R s m args below meth c H locs cells slots Q (F0 m pc ls (.int x :: rest)) :=
  lv_if_le hexec hb hdg ht (fun q => kt (by rwa [if_pos q] at h)) (fun q => kf (by rwa [if_neg q] at h))
theorem zc_eq {ρ : Type} {a b : Option ρ} {r : ρ} {x y : Int32} {off : Int} {tgt : Nat} (hexec : p.tables.exec = Jvm.exec) (hb : c.code = cc) (hdg : decode cc pc = .ok (.if_icmp .eq off, 3)) (ht : (pc : Int) + off = (tgt : Int)) (h : (if x = y then a else b) = some r)
    (kt : a = some r → W p l e R s m args below meth c H locs cells slots Q (F0 m tgt ls rest)) (kf : b = some r → W p l e R s m args below meth c H locs cells slots Q (F0 m (pc + 3) ls rest)) : W p l e R s m args below meth c H locs cells slots Q (F0 m pc ls (.int y :: .int x :: rest)) :=
  lv_icmp_eq hexec hb hdg ht (fun q => kt (by rwa [if_pos q] at h)) (fun q => kf (by rwa [if_neg q] at h))
theorem zc_ne {ρ : Type} {a b : Option ρ} {r : ρ} {x y : Int32} {off : Int} {tgt : Nat} (hexec : p.tables.exec = Jvm.exec) (hb : c.code = cc) (hdg : decode cc pc = .ok (.if_icmp .ne off, 3)) (ht : (pc : Int) + off = (tgt : Int)) (h : (if x = y then b else a) = some r)
    (kt : a = some r → W p l e R s m args below meth c H locs cells slots Q (F0 m tgt ls rest)) (kf : b = some r → W p l e R s m args below meth c H locs cells slots Q (F0 m (pc + 3) ls rest)) : W p l e R s m args below meth c H locs cells slots Q (F0 m pc ls (.int y :: .int x :: rest)) :=
  lv_icmp_ne hexec hb hdg ht (fun q => kt (by rwa [if_neg q] at h)) (fun q => kf (by rwa [if_pos q] at h))
theorem zc_lt {ρ : Type} {a b : Option ρ} {r : ρ} {x y : Int32} {off : Int} {tgt : Nat} (hexec : p.tables.exec = Jvm.exec) (hb : c.code = cc) (hdg : decode cc pc = .ok (.if_icmp .lt off, 3)) (ht : (pc : Int) + off = (tgt : Int)) (h : (if x < y then a else b) = some r)
    (kt : a = some r → W p l e R s m args below meth c H locs cells slots Q (F0 m tgt ls rest)) (kf : b = some r → W p l e R s m args below meth c H locs cells slots Q (F0 m (pc + 3) ls rest)) : W p l e R s m args below meth c H locs cells slots Q (F0 m pc ls (.int y :: .int x :: rest)) :=
  lv_icmp_lt hexec hb hdg ht (fun q => kt (by rwa [if_pos q] at h)) (fun q => kf (by rwa [if_neg q] at h))
theorem zc_ge {ρ : Type} {a b : Option ρ} {r : ρ} {x y : Int32} {off : Int} {tgt : Nat} (hexec : p.tables.exec = Jvm.exec) (hb : c.code = cc) (hdg : decode cc pc = .ok (.if_icmp .ge off, 3)) (ht : (pc : Int) + off = (tgt : Int)) (h : (if y ≤ x then a else b) = some r)
    (kt : a = some r → W p l e R s m args below meth c H locs cells slots Q (F0 m tgt ls rest)) (kf : b = some r → W p l e R s m args below meth c H locs cells slots Q (F0 m (pc + 3) ls rest)) : W p l e R s m args below meth c H locs cells slots Q (F0 m pc ls (.int y :: .int x :: rest)) :=
  lv_icmp_ge hexec hb hdg ht (fun q => kt (by rwa [if_pos q] at h)) (fun q => kf (by rwa [if_neg q] at h))
theorem zc_gt {ρ : Type} {a b : Option ρ} {r : ρ} {x y : Int32} {off : Int} {tgt : Nat} (hexec : p.tables.exec = Jvm.exec) (hb : c.code = cc) (hdg : decode cc pc = .ok (.if_icmp .gt off, 3)) (ht : (pc : Int) + off = (tgt : Int)) (h : (if y < x then a else b) = some r)
    (kt : a = some r → W p l e R s m args below meth c H locs cells slots Q (F0 m tgt ls rest)) (kf : b = some r → W p l e R s m args below meth c H locs cells slots Q (F0 m (pc + 3) ls rest)) : W p l e R s m args below meth c H locs cells slots Q (F0 m pc ls (.int y :: .int x :: rest)) :=
  lv_icmp_gt hexec hb hdg ht (fun q => kt (by rwa [if_pos q] at h)) (fun q => kf (by rwa [if_neg q] at h))
theorem zc_le {ρ : Type} {a b : Option ρ} {r : ρ} {x y : Int32} {off : Int} {tgt : Nat} (hexec : p.tables.exec = Jvm.exec) (hb : c.code = cc) (hdg : decode cc pc = .ok (.if_icmp .le off, 3)) (ht : (pc : Int) + off = (tgt : Int)) (h : (if x ≤ y then a else b) = some r)
    (kt : a = some r → W p l e R s m args below meth c H locs cells slots Q (F0 m tgt ls rest)) (kf : b = some r → W p l e R s m args below meth c H locs cells slots Q (F0 m (pc + 3) ls rest)) : W p l e R s m args below meth c H locs cells slots Q (F0 m pc ls (.int y :: .int x :: rest)) :=
  lv_icmp_le hexec hb hdg ht (fun q => kt (by rwa [if_pos q] at h)) (fun q => kf (by rwa [if_neg q] at h))
/-! naming what is on top -/
theorem zn_i {ρ : Type} {r : ρ} {x : Int32} {K : Int32 → Option ρ} (h : zl x K = some r) (k : ∀ y : Int32, K y = some r → W p l e R s m args below meth c H locs cells slots Q (F0 m pc ls (.int y :: rest))) : W p l e R s m args below meth c H locs cells slots Q (F0 m pc ls (.int x :: rest)) := k x h
theorem zn_l {ρ : Type} {r : ρ} {x : Int64} {K : Int64 → Option ρ} (h : zl x K = some r) (k : ∀ y : Int64, K y = some r → W p l e R s m args below meth c H locs cells slots Q (F0 m pc ls (.long y :: rest))) : W p l e R s m args below meth c H locs cells slots Q (F0 m pc ls (.long x :: rest)) := k x h
theorem zn_f {ρ : Type} {r : ρ} {x : UInt32} {K : UInt32 → Option ρ} (h : zl x K = some r) (k : ∀ y : UInt32, K y = some r → W p l e R s m args below meth c H locs cells slots Q (F0 m pc ls (.float y :: rest))) : W p l e R s m args below meth c H locs cells slots Q (F0 m pc ls (.float x :: rest)) := k x h
theorem zn_d {ρ : Type} {r : ρ} {x : UInt64} {K : UInt64 → Option ρ} (h : zl x K = some r) (k : ∀ y : UInt64, K y = some r → W p l e R s m args below meth c H locs cells slots Q (F0 m pc ls (.double y :: rest))) : W p l e R s m args below meth c H locs cells slots Q (F0 m pc ls (.double x :: rest)) := k x h
/-! arrays: the index by its guard; a store names the new contents -/
theorem z_iald {ρ : Type} {r : ρ} {K : Option ρ} {a : Nat} (hexec : p.tables.exec = Jvm.exec) (hb : c.code = cc) (hK : va_K D vwCl tys s) (hP : va_P D vwCl ws H) (q0 t0 : Nat) {cA : ClassId} {n : Nat} {f : Nat → Int32} (ha : ws[q0]? = some (a, .inl (cA, n, .inl f))) (ht : tys[t0]? = some (cA, .int)) {i : Int32} (h : zg (zin i n) K = some r) (hdg : decode cc pc = .ok (.iaload, 1))
    (kk : K = some r → W p l e R s m args below meth c H locs cells slots Q (F0 m (pc + 1) ls (.int (f i.toNatClampNeg) :: rest))) : W p l e R s m args below meth c H locs cells slots Q (F0 m pc ls (.int i :: .ref a :: rest)) :=
  va_iald hexec hb hK hP q0 t0 ha ht (zin_s (zg_s h).1) hdg (kk (zg_s h).2)
/-- at a place that is written out -/
theorem z_ialdc {a : Nat} (hexec : p.tables.exec = Jvm.exec) (hb : c.code = cc) (hK : va_K D vwCl tys s) (hP : va_P D vwCl ws H) (q0 t0 j0 : Nat) {cA : ClassId} {n : Nat} {f : Nat → Int32} (ha : ws[q0]? = some (a, .inl (cA, n, .inl f))) (ht : tys[t0]? = some (cA, .int)) {i : Int32} (h : zin i n = true) (hj : i.toNatClampNeg = j0) (hdg : decode cc pc = .ok (.iaload, 1))
    (kk : W p l e R s m args below meth c H locs cells slots Q (F0 m (pc + 1) ls (.int (f j0) :: rest))) : W p l e R s m args below meth c H locs cells slots Q (F0 m pc ls (.int i :: .ref a :: rest)) := by
  subst hj
  exact va_iald hexec hb hK hP q0 t0 ha ht (zin_s h) hdg kk
theorem z_zald {ρ : Type} {r : ρ} {K : Option ρ} {a : Nat} (hexec : p.tables.exec = Jvm.exec) (hb : c.code = cc) (hK : va_K D vwCl tys s) (hP : va_P D vwCl ws H) (q0 t0 : Nat) {cA : ClassId} {n : Nat} {f : Nat → Int32} (ha : ws[q0]? = some (a, .inl (cA, n, .inl f))) (ht : tys[t0]? = some (cA, .boolean)) {i : Int32} (h : zg (zin i n) K = some r) (hdg : decode cc pc = .ok (.baload, 1))
    (kk : K = some r → W p l e R s m args below meth c H locs cells slots Q (F0 m (pc + 1) ls (.int (f i.toNatClampNeg) :: rest))) : W p l e R s m args below meth c H locs cells slots Q (F0 m pc ls (.int i :: .ref a :: rest)) :=
  va_zald hexec hb hK hP q0 t0 ha ht (zin_s (zg_s h).1) hdg (kk (zg_s h).2)
theorem z_cald {ρ : Type} {r : ρ} {K : Option ρ} {a : Nat} (hexec : p.tables.exec = Jvm.exec) (hb : c.code = cc) (hK : va_K D vwCl tys s) (hP : va_P D vwCl ws H) (q0 t0 : Nat) {cA : ClassId} {n : Nat} {f : Nat → Int32} (ha : ws[q0]? = some (a, .inl (cA, n, .inl f))) (ht : tys[t0]? = some (cA, .char)) {i : Int32} (h : zg (zin i n) K = some r) (hdg : decode cc pc = .ok (.caload, 1))
    (kk : K = some r → W p l e R s m args below meth c H locs cells slots Q (F0 m (pc + 1) ls (.int (f i.toNatClampNeg) :: rest))) : W p l e R s m args below meth c H locs cells slots Q (F0 m pc ls (.int i :: .ref a :: rest)) :=
  va_cald hexec hb hK hP q0 t0 ha ht (zin_s (zg_s h).1) hdg (kk (zg_s h).2)
theorem z_iast {ρ : Type} {r : ρ} {K : (Nat → Int32) → Option ρ} {a : Nat} (hexec : p.tables.exec = Jvm.exec) (hb : c.code = cc) (hK : va_K D vwCl tys s) (hP : va_P D vwCl ws H) (hD : va_D A ws) (hS : va_S A H0 H locs) (q0 t0 : Nat) {cA : ClassId} {n : Nat} {f : Nat → Int32} (ha : ws[q0]? = some (a, .inl (cA, n, .inl f))) (ht : tys[t0]? = some (cA, .int)) {i x : Int32} (h : zg (zin i n) (zl (upd f i.toNatClampNeg x) K) = some r) (hdg : decode cc pc = .ok (.iastore, 1))
    (kk : ∀ (f' : Nat → Int32) (H1 : Heap) (locs1 : List Loc), K f' = some r → va_P D vwCl (ws.set q0 (a, .inl (cA, n, .inl f'))) H1 → va_D A (ws.set q0 (a, .inl (cA, n, .inl f'))) → va_S A H0 H1 locs1 → W p l e R s m args below meth c H1 locs1 cells slots Q (F0 m (pc + 1) ls rest)) : W p l e R s m args below meth c H locs cells slots Q (F0 m pc ls (.int x :: .int i :: .ref a :: rest)) :=
  va_iast hexec hb hK hP hD hS q0 t0 ha ht (zin_s (zg_s h).1) hdg (fun H1 locs1 h1 h2 h3 => kk _ H1 locs1 (zg_s h).2 h1 h2 h3)
theorem z_iastc {ρ : Type} {r : ρ} {K : (Nat → Int32) → Option ρ} {a : Nat} (hexec : p.tables.exec = Jvm.exec) (hb : c.code = cc) (hK : va_K D vwCl tys s) (hP : va_P D vwCl ws H) (hD : va_D A ws) (hS : va_S A H0 H locs) (q0 t0 j0 : Nat) {cA : ClassId} {n : Nat} {f : Nat → Int32} (ha : ws[q0]? = some (a, .inl (cA, n, .inl f))) (ht : tys[t0]? = some (cA, .int)) {i x : Int32} (hi : zin i n = true) (hj : i.toNatClampNeg = j0) (h : zl (upd f j0 x) K = some r) (hdg : decode cc pc = .ok (.iastore, 1))
    (kk : ∀ (f' : Nat → Int32) (H1 : Heap) (locs1 : List Loc), K f' = some r → va_P D vwCl (ws.set q0 (a, .inl (cA, n, .inl f'))) H1 → va_D A (ws.set q0 (a, .inl (cA, n, .inl f'))) → va_S A H0 H1 locs1 → W p l e R s m args below meth c H1 locs1 cells slots Q (F0 m (pc + 1) ls rest)) : W p l e R s m args below meth c H locs cells slots Q (F0 m pc ls (.int x :: .int i :: .ref a :: rest)) := by
  subst hj
  exact va_iast hexec hb hK hP hD hS q0 t0 ha ht (zin_s hi) hdg (fun H1 locs1 h1 h2 h3 => kk _ H1 locs1 h h1 h2 h3)
theorem z_zast {ρ : Type} {r : ρ} {K : (Nat → Int32) → Option ρ} {a : Nat} (hexec : p.tables.exec = Jvm.exec) (hb : c.code = cc) (hK : va_K D vwCl tys s) (hP : va_P D vwCl ws H) (hD : va_D A ws) (hS : va_S A H0 H locs) (q0 t0 : Nat) {cA : ClassId} {n : Nat} {f : Nat → Int32} (ha : ws[q0]? = some (a, .inl (cA, n, .inl f))) (ht : tys[t0]? = some (cA, .boolean)) {i x : Int32} (h : zg (zin i n) (zl (upd f i.toNatClampNeg (vp_nar .boolean x)) K) = some r) (hdg : decode cc pc = .ok (.bastore, 1))
    (kk : ∀ (f' : Nat → Int32) (H1 : Heap) (locs1 : List Loc), K f' = some r → va_P D vwCl (ws.set q0 (a, .inl (cA, n, .inl f'))) H1 → va_D A (ws.set q0 (a, .inl (cA, n, .inl f'))) → va_S A H0 H1 locs1 → W p l e R s m args below meth c H1 locs1 cells slots Q (F0 m (pc + 1) ls rest)) : W p l e R s m args below meth c H locs cells slots Q (F0 m pc ls (.int x :: .int i :: .ref a :: rest)) :=
  va_zast hexec hb hK hP hD hS q0 t0 ha ht (zin_s (zg_s h).1) hdg (fun H1 locs1 h1 h2 h3 => kk _ H1 locs1 (zg_s h).2 h1 h2 h3)
theorem z_cast {ρ : Type} {r : ρ} {K : (Nat → Int32) → Option ρ} {a : Nat} (hexec : p.tables.exec = Jvm.exec) (hb : c.code = cc) (hK : va_K D vwCl tys s) (hP : va_P D vwCl ws H) (hD : va_D A ws) (hS : va_S A H0 H locs) (q0 t0 : Nat) {cA : ClassId} {n : Nat} {f : Nat → Int32} (ha : ws[q0]? = some (a, .inl (cA, n, .inl f))) (ht : tys[t0]? = some (cA, .char)) {i x : Int32} (h : zg (zin i n) (zl (upd f i.toNatClampNeg (vp_nar .char x)) K) = some r) (hdg : decode cc pc = .ok (.castore, 1))
    (kk : ∀ (f' : Nat → Int32) (H1 : Heap) (locs1 : List Loc), K f' = some r → va_P D vwCl (ws.set q0 (a, .inl (cA, n, .inl f'))) H1 → va_D A (ws.set q0 (a, .inl (cA, n, .inl f'))) → va_S A H0 H1 locs1 → W p l e R s m args below meth c H1 locs1 cells slots Q (F0 m (pc + 1) ls rest)) : W p l e R s m args below meth c H locs cells slots Q (F0 m pc ls (.int x :: .int i :: .ref a :: rest)) :=
  va_cast hexec hb hK hP hD hS q0 t0 ha ht (zin_s (zg_s h).1) hdg (fun H1 locs1 h1 h2 h3 => kk _ H1 locs1 (zg_s h).2 h1 h2 h3)
/-! fields -/
theorem z_get {a0 : Cond} {own ref C : String} {T : u_T} {N ci index : Nat} {a : Nat} (hexec : p.tables.exec = Jvm.exec) (hb : c.code = cc) (hts : ∀ w ∈ a0 :: zT, w.before args s = true) (hin : ∀ w ∈ u_ws C T N, w ∈ zT) (hown : s.vm.findClass own = some m.cls) (hK : va_K D vwCl tys s) (hP : va_P D vwCl ws H) (q0 k : Nat) {fs : List Value} (he : ws[q0]? = some (a, .inr (ci, fs))) (hc : vwCl[ci]? = some (C, T, N)) (hk : k < N) (hlink : Cond.fieldLink own index ref (T k).2.1 (T k).2.2.1 ∈ zT) (hsame : (T k).1 = ref) {v : Value} (hv : fs[k]? = some v) (hdg : decode cc pc = .ok (.getfield index, 3))
    (kk : W p l e R s m args below meth c H locs cells slots Q (F0 m (pc + 3) ls (v :: rest))) : W p l e R s m args below meth c H locs cells slots Q (F0 m pc ls (.ref a :: rest)) :=
  va_get hexec hb hts (fun w h => List.mem_cons_of_mem _ (hin w h)) hown hK hP q0 he hc k hk (hts _ (List.mem_cons_of_mem _ hlink)) (fun _ h9 => by rw [← hsame]; exact h9) hv hdg kk
theorem z_puti {ρ : Type} {r : ρ} {K : Int32 → Option ρ} {a0 : Cond} {own ref C : String} {T : u_T} {N ci index : Nat} {a : Nat} (hexec : p.tables.exec = Jvm.exec) (hb : c.code = cc) (hts : ∀ w ∈ a0 :: zT, w.before args s = true) (hin : ∀ w ∈ u_ws C T N, w ∈ zT) (ty0 : Nat → FieldType) (hty : ∀ k, k < N → parseFieldDescriptor (T k).2.2.1 = some (ty0 k)) (hnm : ∀ a, a < N → ∀ b, b < N → a ≠ b → (T a).2.1 ≠ (T b).2.1) (hown : s.vm.findClass own = some m.cls) (hK : va_K D vwCl tys s) (hP : va_P D vwCl ws H) (hD : va_D A ws) (hS : va_S A H0 H locs) (q0 k : Nat) {fs : List Value} (he : ws[q0]? = some (a, .inr (ci, fs))) (hc : vwCl[ci]? = some (C, T, N)) (hk : k < N) (hlink : Cond.fieldLink own index ref (T k).2.1 (T k).2.2.1 ∈ zT) (hsame : (T k).1 = ref) (hfin : (T k).2.2.2 = false) (hd : parseFieldDescriptor (T k).2.2.1 = some .int) (hl : k < fs.length) {x : Int32} (h : zl x K = some r) (hdg : decode cc pc = .ok (.putfield index, 3))
    (kk : ∀ (y : Int32) (H1 : Heap) (locs1 : List Loc), K y = some r → va_P D vwCl (ws.set q0 (a, .inr (ci, fs.set k (.int y)))) H1 → va_D A (ws.set q0 (a, .inr (ci, fs.set k (.int y)))) → va_S A H0 H1 locs1 → W p l e R s m args below meth c H1 locs1 cells slots Q (F0 m (pc + 3) ls rest)) : W p l e R s m args below meth c H locs cells slots Q (F0 m pc ls (.int x :: .ref a :: rest)) :=
  va_put hexec hb hts (fun w h => List.mem_cons_of_mem _ (hin w h)) ty0 hty hnm hown hK hP hD hS q0 he hc k hk (hts _ (List.mem_cons_of_mem _ hlink)) (fun _ h9 => by rw [← hsame]; exact h9) hfin hd rfl rfl hl hdg (fun H1 locs1 h1 h2 h3 => kk x H1 locs1 h h1 h2 h3)
theorem z_putz {ρ : Type} {r : ρ} {K : Int32 → Option ρ} {a0 : Cond} {own ref C : String} {T : u_T} {N ci index : Nat} {a : Nat} (hexec : p.tables.exec = Jvm.exec) (hb : c.code = cc) (hts : ∀ w ∈ a0 :: zT, w.before args s = true) (hin : ∀ w ∈ u_ws C T N, w ∈ zT) (ty0 : Nat → FieldType) (hty : ∀ k, k < N → parseFieldDescriptor (T k).2.2.1 = some (ty0 k)) (hnm : ∀ a, a < N → ∀ b, b < N → a ≠ b → (T a).2.1 ≠ (T b).2.1) (hown : s.vm.findClass own = some m.cls) (hK : va_K D vwCl tys s) (hP : va_P D vwCl ws H) (hD : va_D A ws) (hS : va_S A H0 H locs) (q0 k : Nat) {fs : List Value} (he : ws[q0]? = some (a, .inr (ci, fs))) (hc : vwCl[ci]? = some (C, T, N)) (hk : k < N) (hlink : Cond.fieldLink own index ref (T k).2.1 (T k).2.2.1 ∈ zT) (hsame : (T k).1 = ref) (hfin : (T k).2.2.2 = false) (hd : parseFieldDescriptor (T k).2.2.1 = some .boolean) (hl : k < fs.length) {x : Int32} (h : zg (zbo x) (zl x K) = some r) (hdg : decode cc pc = .ok (.putfield index, 3))
    (kk : ∀ (y : Int32) (H1 : Heap) (locs1 : List Loc), K y = some r → va_P D vwCl (ws.set q0 (a, .inr (ci, fs.set k (.int y)))) H1 → va_D A (ws.set q0 (a, .inr (ci, fs.set k (.int y)))) → va_S A H0 H1 locs1 → W p l e R s m args below meth c H1 locs1 cells slots Q (F0 m (pc + 3) ls rest)) : W p l e R s m args below meth c H locs cells slots Q (F0 m pc ls (.int x :: .ref a :: rest)) :=
  va_put hexec hb hts (fun w h => List.mem_cons_of_mem _ (hin w h)) ty0 hty hnm hown hK hP hD hS q0 he hc k hk (hts _ (List.mem_cons_of_mem _ hlink)) (fun _ h9 => by rw [← hsame]; exact h9) hfin hd (zbo_n (zg_s h).1) (zbo_f (zg_s h).1) hl hdg (fun H1 locs1 h1 h2 h3 => kk x H1 locs1 (zg_s h).2 h1 h2 h3)
/-! floats -/
theorem z_fadd {ρ : Type} {r : ρ} {K : Option ρ} (hexec : p.tables.exec = Jvm.exec) (hb : c.code = cc) {x y : UInt32} (hdg : decode cc pc = .ok (.fadd, 1)) (h : zg (z32 (FP.fadd x y)) K = some r) (k : K = some r → W p l e R s m args below meth c H locs cells slots Q (F0 m (pc + 1) ls (.float (FP.fadd x y) :: rest))) : W p l e R s m args below meth c H locs cells slots Q (F0 m pc ls (.float y :: .float x :: rest)) := lv_fadd hexec hb hdg (z32_s (zg_s h).1) (k (zg_s h).2)
theorem z_fsub {ρ : Type} {r : ρ} {K : Option ρ} (hexec : p.tables.exec = Jvm.exec) (hb : c.code = cc) {x y : UInt32} (hdg : decode cc pc = .ok (.fsub, 1)) (h : zg (z32 (FP.fsub x y)) K = some r) (k : K = some r → W p l e R s m args below meth c H locs cells slots Q (F0 m (pc + 1) ls (.float (FP.fsub x y) :: rest))) : W p l e R s m args below meth c H locs cells slots Q (F0 m pc ls (.float y :: .float x :: rest)) := lv_fsub hexec hb hdg (z32_s (zg_s h).1) (k (zg_s h).2)
theorem z_fmul {ρ : Type} {r : ρ} {K : Option ρ} (hexec : p.tables.exec = Jvm.exec) (hb : c.code = cc) {x y : UInt32} (hdg : decode cc pc = .ok (.fmul, 1)) (h : zg (z32 (FP.fmul x y)) K = some r) (k : K = some r → W p l e R s m args below meth c H locs cells slots Q (F0 m (pc + 1) ls (.float (FP.fmul x y) :: rest))) : W p l e R s m args below meth c H locs cells slots Q (F0 m pc ls (.float y :: .float x :: rest)) := lv_fmul hexec hb hdg (z32_s (zg_s h).1) (k (zg_s h).2)
theorem z_fdiv {ρ : Type} {r : ρ} {K : Option ρ} (hexec : p.tables.exec = Jvm.exec) (hb : c.code = cc) {x y : UInt32} (hdg : decode cc pc = .ok (.fdiv, 1)) (h : zg (z32 (FP.fdiv x y)) K = some r) (k : K = some r → W p l e R s m args below meth c H locs cells slots Q (F0 m (pc + 1) ls (.float (FP.fdiv x y) :: rest))) : W p l e R s m args below meth c H locs cells slots Q (F0 m pc ls (.float y :: .float x :: rest)) := lv_fdiv hexec hb hdg (z32_s (zg_s h).1) (k (zg_s h).2)
theorem z_dsub {ρ : Type} {r : ρ} {K : Option ρ} (hexec : p.tables.exec = Jvm.exec) (hb : c.code = cc) {x y : UInt64} (hdg : decode cc pc = .ok (.dsub, 1)) (h : zg (z64 (FP.dsub x y)) K = some r) (k : K = some r → W p l e R s m args below meth c H locs cells slots Q (F0 m (pc + 1) ls (.double (FP.dsub x y) :: rest))) : W p l e R s m args below meth c H locs cells slots Q (F0 m pc ls (.double y :: .double x :: rest)) := lv_dsub hexec hb hdg (z64_s (zg_s h).1) (k (zg_s h).2)
theorem z_dmul {ρ : Type} {r : ρ} {K : Option ρ} (hexec : p.tables.exec = Jvm.exec) (hb : c.code = cc) {x y : UInt64} (hdg : decode cc pc = .ok (.dmul, 1)) (h : zg (z64 (FP.dmul x y)) K = some r) (k : K = some r → W p l e R s m args below meth c H locs cells slots Q (F0 m (pc + 1) ls (.double (FP.dmul x y) :: rest))) : W p l e R s m args below meth c H locs cells slots Q (F0 m pc ls (.double y :: .double x :: rest)) := lv_dmul hexec hb hdg (z64_s (zg_s h).1) (k (zg_s h).2)
theorem z_ddiv {ρ : Type} {r : ρ} {K : Option ρ} (hexec : p.tables.exec = Jvm.exec) (hb : c.code = cc) {x y : UInt64} (hdg : decode cc pc = .ok (.ddiv, 1)) (h : zg (z64 (FP.ddiv x y)) K = some r) (k : K = some r → W p l e R s m args below meth c H locs cells slots Q (F0 m (pc + 1) ls (.double (FP.ddiv x y) :: rest))) : W p l e R s m args below meth c H locs cells slots Q (F0 m pc ls (.double y :: .double x :: rest)) := lv_ddiv hexec hb hdg (z64_s (zg_s h).1) (k (zg_s h).2)
end ZB
