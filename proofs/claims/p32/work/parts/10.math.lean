theorem yJ9_max_e : yJ9_max_7cf53 = Lib.Math.max.name := by decide +kernel
theorem yJ9_min_e : yJ9_min_7cf53 = Lib.Math.min.name := by decide +kernel
theorem cJ9_max_e : cJ9_max_7cf53 = Lib.Math.max.code := by decide +kernel
theorem cJ9_min_e : cJ9_min_7cf53 = Lib.Math.min.code := by decide +kernel
section ZM
variable {p : Program} {l : Launch} {e : Env} {R : Room} {s : State} {m : MethodId} {args : Array Value} {below : List Frame} {meth : Method} {c : Code} {H : Heap} {locs : List Loc} {cells slots : Nat} {Q : State → Prop}
variable {cc : ByteArray} {pc nL : Nat} {ls : Array Slot} {rest : List Value} {a0 : Cond} {own : String} {index : Nat} {ρ : Type} {r : ρ}
/-- Math.max, Math.min -/
theorem o_mmax {x y : Int32} {K : Int32 → Option ρ} (hx : p.tables.exec = Jvm.exec) (hb : c.code = cc) (hml : c.maxLocals = nL) (hl : ls.size = nL) (hown : s.vm.findClass own = some m.cls) (hts : ∀ w ∈ a0 :: zT, w.before args s = true) (hlk : Cond.methodLink own index yJ9_max_7cf53 ∈ zT) (hfr : 1 ≤ R.frames) (hlo : (rest.map fun v => v.category).sum + 13 ≤ R.locals) (hc : cells ≤ R.cells) (hs : slots ≤ R.slots) (hdg : decode cc pc = .ok (.invokestatic index, 3)) (h : zl (if x < y then y else x) K = some r)
    (k : ∀ v : Int32, K v = some r → W p l e R s m args below meth c H locs cells slots Q (F0 m (pc + 3) ls (.int v :: rest))) : W p l e R s m args below meth c H locs cells slots Q (F0 m pc ls (.int y :: .int x :: rest)) := by
  have ok : ∀ w ∈ zT, w.before args s = true := fun w h => hts w (List.mem_cons_of_mem _ h)
  obtain ⟨⟨h1, h2, h3⟩, -⟩ := ms_J9_max_7cf53
  rw [yJ9_max_e] at h1 h2 h3 hlk
  rw [cJ9_max_e] at h3
  exact va_mmax hx hb (hml.trans hl.symm) hown (ok _ hlk) (ok _ h1) (ok _ h2) (ok _ h3) hfr hlo hc hs hdg (k _ h)
theorem o_mmin {x y : Int32} {K : Int32 → Option ρ} (hx : p.tables.exec = Jvm.exec) (hb : c.code = cc) (hml : c.maxLocals = nL) (hl : ls.size = nL) (hown : s.vm.findClass own = some m.cls) (hts : ∀ w ∈ a0 :: zT, w.before args s = true) (hlk : Cond.methodLink own index yJ9_min_7cf53 ∈ zT) (hfr : 1 ≤ R.frames) (hlo : (rest.map fun v => v.category).sum + 13 ≤ R.locals) (hc : cells ≤ R.cells) (hs : slots ≤ R.slots) (hdg : decode cc pc = .ok (.invokestatic index, 3)) (h : zl (if y < x then y else x) K = some r)
    (k : ∀ v : Int32, K v = some r → W p l e R s m args below meth c H locs cells slots Q (F0 m (pc + 3) ls (.int v :: rest))) : W p l e R s m args below meth c H locs cells slots Q (F0 m pc ls (.int y :: .int x :: rest)) := by
  have ok : ∀ w ∈ zT, w.before args s = true := fun w h => hts w (List.mem_cons_of_mem _ h)
  obtain ⟨⟨h1, h2, h3⟩, -⟩ := ms_J9_min_7cf53
  rw [yJ9_min_e] at h1 h2 h3 hlk
  rw [cJ9_min_e] at h3
  exact va_mmin hx hb (hml.trans hl.symm) hown (ok _ hlk) (ok _ h1) (ok _ h2) (ok _ h3) hfr hlo hc hs hdg (k _ h)
end ZM
theorem plainInteger : plainName "java/lang/Integer" = true := by decide
theorem plainString : plainName "java/lang/String" = true := by decide
theorem plainLatin1 : plainName "java/lang/StringLatin1" = true := by decide
theorem plainPre : plainName "jdk/internal/util/Preconditions" = true := by decide
