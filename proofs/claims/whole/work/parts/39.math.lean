/-! KEEPING THE RELATION -/
theorem Blk.same {f f' ms ms' : Nat → Int32} {O O' b : Nat} (h : Blk f ms O b) (hf : ∀ w, w < 11 → f' (8 + b * 11 + w) = f (8 + b * 11 + w)) (hm : ∀ w, w < 10 → ms' (12 + 10 * b + w) = ms (12 + 10 * b + w))
    (ho : ∀ o, o < O → f (8 + b * 11 + 8) = Int32.ofNat o → f (272 + o * 6 + 3) = 1 → f (272 + o * 6 + 4) = Int32.ofNat b → o < O' ∧ f' (272 + o * 6 + 3) = 1 ∧ f' (272 + o * 6 + 4) = Int32.ofNat b) : Blk f' ms' O' b := by
  obtain ⟨h1, h2, h3, h4, h5, h6, h7, h8, h9, h10⟩ := h
  have m : mw ms' b = mw ms b := by
    unfold mw
    rw [hm 0 (by omega), hm 1 (by omega), hm 2 (by omega), hm 3 (by omega)]
  refine ⟨fun w hw => ?_, fun w w1 w2 => ?_, fun a ha => ?_, ?_, ?_, ?_, ?_, ?_, ?_, ?_⟩
  · rw [hf w (by omega), hm w (by omega)]; exact h1 w hw
  · rw [hf (w + 1) (by omega), hm w (by omega)]; exact h2 w w1 w2
  · rw [hf a (by omega)]; exact h3 a ha
  · rw [hf 3 (by omega)]; exact h4
  · rw [hf 4 (by omega), m]; exact h5
  · rw [hf 6 (by omega)]; exact h6
  · rw [hf 7 (by omega)]; exact h7
  · rw [hf 5 (by omega), hf 9 (by omega)]; exact h8
  · rw [hf 5 (by omega), hf 9 (by omega)]; exact h9
  · rw [hf 5 (by omega), hf 8 (by omega)]
    intro q1 q2
    obtain ⟨o, o1, o2, o3, o4⟩ := h10 q1 q2
    obtain ⟨p1, p2, p3⟩ := ho o o1 o2 o3 o4
    exact ⟨o, p1, o2, p2, p3⟩
theorem Ord.same {f f' ms ms' : Nat → Int32} {B B' o : Nat} (h : Ord f ms B o) (hB : B ≤ B') (hf : ∀ w, w < 6 → f' (272 + o * 6 + w) = f (272 + o * 6 + w)) (hm : ∀ w, w < 6 → ms' (252 + 6 * o + w) = ms (252 + 6 * o + w)) : Ord f' ms' B' o := by
  obtain ⟨h1, h2, h3⟩ := h
  refine ⟨fun w hw => ?_, fun a ha => ?_, fun q => ?_⟩
  · rw [hf w hw, hm w hw]; exact h1 w hw
  · rw [hf a (by omega)]; exact h2 a ha
  · rw [hf 3 (by omega)] at q
    rw [hf 4 (by omega)]
    obtain ⟨b, b1, b2⟩ := h3 q
    exact ⟨b, by omega, b2⟩
/-- a sum that changes at one place -/
theorem zsum_chg {w v : Nat → Int32} {P Q : Nat → Bool} {b0 : Nat} : ∀ n, b0 < n → (∀ b, b < n → b ≠ b0 → P b = Q b ∧ w b = v b) → zsum v Q n = zsum w P n - (if P b0 then w b0 else 0) + (if Q b0 then v b0 else 0) := by
  intro n
  induction n with
  | zero => intro h; omega
  | succ n ih =>
    intro h hc
    rw [zsum, zsum]
    by_cases q : b0 = n
    · subst q
      have e : zsum v Q b0 = zsum w P b0 := (zsum_congr (fun i hi => (hc i (by omega) (by omega)).1) (fun i hi _ => (hc i (by omega) (by omega)).2)).symm
      rw [e]
      have z : ∀ x y : Int32, x + y - y = x := fun x y => Int32.add_sub_cancel ..
      cases hP : P b0 <;> cases hQ : Q b0 <;> simp [z]
    · obtain ⟨c1, c2⟩ := hc n (by omega) (fun r => q r.symm)
      rw [ih (by omega) (fun b hb hne => hc b (by omega) hne), ← c1, ← c2]
      cases hP : P n with
      | false => rfl
      | true =>
        simp only [if_true]
        generalize zsum w P n = A
        generalize (if P b0 = true then w b0 else 0) = C
        generalize (if Q b0 = true then v b0 else 0) = D
        rw [Int32.sub_eq_add_neg, Int32.sub_eq_add_neg, Int32.add_assoc, Int32.add_assoc, Int32.add_assoc, Int32.add_assoc]
        congr 1
        rw [Int32.add_comm (w n), Int32.add_assoc]
theorem zcnt_chg {P Q : Nat → Bool} {b0 : Nat} : ∀ n, b0 < n → (∀ b, b < n → b ≠ b0 → P b = Q b) → zcnt Q n + (if P b0 then 1 else 0) = zcnt P n + (if Q b0 then 1 else 0) := by
  intro n
  induction n with
  | zero => intro h; omega
  | succ n ih =>
    intro h hc
    rw [zcnt, zcnt]
    by_cases q : b0 = n
    · subst q
      have e : zcnt Q b0 = zcnt P b0 := (zcnt_congr (fun i hi => hc i (by omega) (by omega))).symm
      rw [e]
      cases hP : P b0 <;> cases hQ : Q b0 <;> simp
    · have c1 := hc n (by omega) (fun r => q r.symm)
      have := ih (by omega) (fun b hb hne => hc b (by omega) hne)
      rw [← c1]
      cases hP : P n <;> simp <;> omega
/-- a state that changes outside all that the sums read -/
theorem Sums.same {f f' ms ms' : Nat → Int32} {B O : Nat} (h : Sums f ms B O) (h8 : ms' 8 = ms 8) (h9 : ms' 9 = ms 9) (h10 : ms' 10 = ms 10) (h11 : ms' 11 = ms 11)
    (hb : ∀ b, b < B → f' (8 + b * 11 + 4) = f (8 + b * 11 + 4) ∧ f' (8 + b * 11 + 5) = f (8 + b * 11 + 5) ∧ f' (8 + b * 11 + 10) = f (8 + b * 11 + 10)) (ho : ∀ o, o < O → f' (272 + o * 6 + 5) = f (272 + o * 6 + 5) ∧ f' (272 + o * 6 + 3) = f (272 + o * 6 + 3)) : Sums f' ms' B O := by
  obtain ⟨s1, s2, s3, s4, s5⟩ := h
  have e1 : zsum (fun b => f' (8 + b * 11 + 4)) (fun b => decide (f' (8 + b * 11 + 10) = -6)) B = zsum (fun b => f (8 + b * 11 + 4)) (fun b => decide (f (8 + b * 11 + 10) = -6)) B := zsum_congr (fun b q => by rw [(hb b q).2.2]) (fun b q _ => (hb b q).1)
  have e2 : zsum (fun b => f' (8 + b * 11 + 4)) (fun b => !decide (f' (8 + b * 11 + 5) = 4)) B = zsum (fun b => f (8 + b * 11 + 4)) (fun b => !decide (f (8 + b * 11 + 5) = 4)) B := zsum_congr (fun b q => by rw [(hb b q).2.1]) (fun b q _ => (hb b q).1)
  have e3 : zsum (fun b => f' (8 + b * 11 + 4)) (fun b => decide (f' (8 + b * 11 + 5) = 3)) B = zsum (fun b => f (8 + b * 11 + 4)) (fun b => decide (f (8 + b * 11 + 5) = 3)) B := zsum_congr (fun b q => by rw [(hb b q).2.1]) (fun b q _ => (hb b q).1)
  have e4 : zsum (fun b => f' (272 + b * 6 + 5)) (fun b => decide (f' (272 + b * 6 + 3) = 2)) O = zsum (fun b => f (272 + b * 6 + 5)) (fun b => decide (f (272 + b * 6 + 3) = 2)) O := zsum_congr (fun b q => by rw [(ho b q).2]) (fun b q _ => (ho b q).1)
  have e5 : zcnt (fun b => decide (f' (8 + b * 11 + 5) = 1)) B = zcnt (fun b => decide (f (8 + b * 11 + 5) = 1)) B := zcnt_congr (fun b q => by rw [(hb b q).2.1])
  unfold Sums
  rw [e1, e2, e3, e4, e5, h8, h9, h10, h11]
  exact ⟨s1, s2, s3, s4, s5⟩
/-- a step of both sides: the same answer, the relation kept; an error changes nothing -/
def Step (f ms : Nat → Int32) (x y : Option (Int32 × (Nat → Int32))) : Prop :=
  ∃ r f' ms' B' O', x = some (r, f') ∧ y = some (r, ms') ∧ Rel f' ms' B' O' ∧ (r < 0 → f' = f ∧ ms' = ms)
theorem Step.err {f ms : Nat → Int32} {B O : Nat} {r : Int32} {x y : Option (Int32 × (Nat → Int32))} (R : Rel f ms B O) (hx : x = some (r, f)) (hy : y = some (r, ms)) : Step f ms x y := ⟨r, f, ms, B, O, hx, hy, R, fun _ => ⟨rfl, rfl⟩⟩
/-- a step whose reference records before it changes -/
def Lay (k : Nat) (f ms : Nat → Int32) (x : Option (Int32 × (Nat → Int32))) (y : (Nat → Int32) → (Nat → Int32) → Int32 → Option (Int32 × (Nat → Int32) × (Nat → Int32) × (Nat → Int32) × Int32)) : Prop :=
  ∃ r f' ms' B' O', x = some (r, f') ∧ Rel f' ms' B' O' ∧ ((r < 0 ∧ f' = f ∧ ms' = ms ∧ ∀ ah hi kp, y ah hi kp = some (r, ms, ah, hi, kp)) ∨ (¬ r < 0 ∧ ∀ ah hi kp ah1 hi1 kp1, f_X8_looks k ms ah = some ah1 → f_X8_records k ah1 hi kp = some (hi1, kp1) → y ah hi kp = some (r, ms', ah1, hi1, kp1)))
theorem Lay.err {k : Nat} {f ms : Nat → Int32} {B O : Nat} {r : Int32} {x : Option (Int32 × (Nat → Int32))} {y : (Nat → Int32) → (Nat → Int32) → Int32 → Option (Int32 × (Nat → Int32) × (Nat → Int32) × (Nat → Int32) × Int32)} (R : Rel f ms B O) (hr : r < 0) (hx : x = some (r, f)) (hy : ∀ ah hi kp, y ah hi kp = some (r, ms, ah, hi, kp)) : Lay k f ms x y := ⟨r, f, ms, B, O, hx, R, .inl ⟨hr, rfl, rfl, hy⟩⟩
theorem m_lays {k i : Nat} {ms ah hi ah1 hi1 : Nat → Int32} {kp kp1 v : Int32} (hi0 : i < 324) (h1 : f_X8_looks k ms ah = some ah1) (h2 : f_X8_records k ah1 hi kp = some (hi1, kp1)) : f_X8_lays k ms ah hi kp (Int32.ofNat i) v = some (ms i, upd ms i v, ah1, hi1, kp1) := by
  rw [f_X8_lays, h1, zb1_some, h2, zb2_some]
  simp (disch := omega) only [zl_e, zb1_some, zb2_some, zb3_some, zb4_some, zb5_some, m_g, n_nat, n_suc]
/-- the parts of the relation after changes that leave the counts -/
theorem Gen.same {f f' ms ms' : Nat → Int32} (h : Gen f ms) (hf : ∀ i, i < 6 → f' i = f i) (hm : ∀ i, i < 8 → ms' i = ms i) : Gen f' ms' := by
  unfold Gen at *
  rw [hf 0 (by omega), hf 1 (by omega), hf 2 (by omega), hf 3 (by omega), hf 4 (by omega), hf 5 (by omega), hm 0 (by omega), hm 1 (by omega), hm 2 (by omega), hm 3 (by omega), hm 4 (by omega), hm 7 (by omega)]
  exact h
theorem Ll.same {f f' ms ms' : Nat → Int32} (h : Ll f ms) (hf : ∀ i, 332 ≤ i → i < 344 → f' i = f i) (hm : ∀ i, 312 ≤ i → i < 324 → ms' i = ms i) : Ll f' ms' := fun l hl w hw => by
  rw [hf _ (by omega) (by omega), hm _ (by omega) (by omega)]; exact h l hl w hw
theorem Lm.same {f f' : Nat → Int32} (h : Lm f) (hf : ∀ i, 332 ≤ i → i < 344 → f' i = f i) : Lm f' := fun l hl w hw => by
  rw [hf _ (by omega) (by omega)]; exact h l hl w hw
theorem Uq.same {S T : Nat → Int32} {B : Nat} (h : Uq S B) (e : ∀ b, b < B → T b = S b) : Uq T B := by
  intro b hb c hc q n
  rw [e b hb] at q n
  rw [e c hc] at q
  exact h b hb c hc q n
