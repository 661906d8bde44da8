/-! the class, as in the proof of whole (wip/p32/math/ext.py) -/
def pwt (f : Nat → Int32) (B : Nat) (W : Nat → Nat) (x : Nat) : Nat := nsum W (zat (fun b => f (8 + b * 11 + 9)) x) B
theorem axn_lt {w j : Nat → Nat} (hw : ∀ p, w p ≤ 400000) (hj : ∀ p, p < 5 → j p ≤ 4) : axn w j < 16777216 := by
  have h0 := m400 (hw 0) (hj 0 (by omega))
  have h1 := m400 (hw 1) (hj 1 (by omega))
  have h2 := m400 (hw 2) (hj 2 (by omega))
  have h3 := m400 (hw 3) (hj 3 (by omega))
  have h4 := m400 (hw 4) (hj 4 (by omega))
  unfold axn
  omega
theorem flag0 {A : Prop} [Decidable A] : ((if A then (0 : Int32) else 1) = 0) ↔ A := by
  by_cases h : A <;> simp [h]
theorem rr_fin {A B : Nat} {e : Int} : FP.Core.roundRatio FP.Core.b32 false A B e ≠ .nan := by
  unfold FP.Core.roundRatio
  split
  · exact fun h => FP.Core.Datum.noConfusion h
  · unfold FP.Core.roundAt FP.Core.settle FP.Core.bound
    split <;> split <;> exact fun h => FP.Core.Datum.noConfusion h
theorem z32_nan {a : UInt32} (h : FP.Core.val32 a ≠ .nan) : z32 a = true := by
  have h1 : ¬ FP.Core.infBits FP.Core.b32 < FP.Core.mag FP.Core.b32 a.toNat := fun q => h ((FP.Core.decode_nan a.toNat).mpr q)
  rw [FP.Core.infBits_b32, FP.Core.mag_toNat32] at h1
  unfold z32
  refine decide_eq_true ?_
  rw [UInt32.le_iff_toNat_le, UInt32.toNat_and]
  show a.toNat &&& 2147483647 ≤ 2139095040
  rw [show (2147483647 : Nat) = 2 ^ 31 - 1 from rfl, Nat.and_two_pow_sub_one_eq_mod]
  omega
def shr (N : Nat) (L : Int32) : UInt32 := FP.fdiv (fb N (-2)) (FP.i2f L)
def Nn (a : UInt32) : Prop := FP.Core.val32 a ≠ .nan ∧ a.toNat < 2147483648
theorem shr_n {N m : Nat} (hN : N < 16777216) (h1 : 0 < m) (h2 : m < 16777216) : Nn (shr N (Int32.ofNat m)) := by
  have e : FP.Core.val32 (shr N (Int32.ofNat m)) = FP.Core.quotient FP.Core.b32 (cd N (-2)) (cd m 0) := by
    unfold shr
    show FP.Core.val32 (FP.Core.fdiv _ _) = _
    rw [fb_i2f h2, FP.Core.val32_fdiv, fb_val hN (by omega) (by omega), fb_val h2 (by omega) (by omega)]
  obtain ⟨q, hq, hc⟩ := cd_form (n := N) (e := -2) hN (by omega)
  obtain ⟨r, hr, hd⟩ := cd_form (n := m) (e := 0) h2 (by omega)
  rw [hc, hd] at e
  have p := Nat.mul_pos h1 (Nat.two_pow_pos (0 - r).toNat)
  have e2 : FP.Core.val32 (shr N (Int32.ofNat m)) = FP.Core.roundRatio FP.Core.b32 false (N * 2 ^ (-2 - q).toNat) (m * 2 ^ (0 - r).toNat) (q - r) := by
    rw [e]
    show (if m * 2 ^ (0 - r).toNat = 0 then _ else FP.Core.roundRatio _ (false != false) _ _ _) = _
    rw [if_neg (by omega)]
    rfl
  have hn : FP.Core.val32 (shr N (Int32.ofNat m)) ≠ .nan := by rw [e2]; exact rr_fin
  refine ⟨hn, ?_⟩
  have hs := FP.Core.sgn_bits32 hn
  rw [e2, FP.Core.sgn_roundRatio] at hs
  have := of_decide_eq_false hs.symm
  omega
theorem fkey_n {a : UInt32} (h : Nn a) : FP.Core.fkey a = (a.toNat : Int) := by
  unfold FP.Core.fkey
  rw [if_neg (by have := h.2; omega)]
theorem cmp_lt {a b : UInt32} (o : CmpOp) (ha : Nn a) (hb : Nn b) : Op.cmpValue (FP.fcmp a b) o < 0 ↔ a.toNat < b.toNat := by
  have h1 : FP.fcmp a b = some .lt ↔ FP.Core.fkey a < FP.Core.fkey b := FP.Core.fcmp_lt_key ha.1 hb.1
  have h2 : FP.fcmp a b = some .eq ↔ FP.Core.fkey a = FP.Core.fkey b := FP.Core.fcmp_eq_key ha.1 hb.1
  have h3 : FP.fcmp a b = some .gt ↔ FP.Core.fkey b < FP.Core.fkey a := FP.Core.fcmp_gt_key ha.1 hb.1
  rw [fkey_n ha, fkey_n hb] at h1 h2 h3
  rcases Int.lt_trichotomy (a.toNat : Int) b.toNat with q | q | q
  · rw [h1.mpr q, cv_lt]
    exact ⟨fun _ => by omega, fun _ => by decide⟩
  · rw [h2.mpr q]
    exact ⟨fun r => absurd r (cv_ge o (.inr rfl)), fun r => by omega⟩
  · rw [h3.mpr q]
    exact ⟨fun r => absurd r (cv_ge o (.inl rfl)), fun r => by omega⟩
theorem cv_le {x : Option Ordering} (o : CmpOp) (h : x = some .lt ∨ x = some .eq) : Op.cmpValue x o ≤ 0 := by
  rcases h with rfl | rfl <;> cases o <;> decide
theorem cv_gt (o : CmpOp) : ¬ Op.cmpValue (some .gt) o ≤ 0 := by cases o <;> decide
theorem cmp_le {a b : UInt32} (o : CmpOp) (ha : Nn a) (hb : Nn b) : Op.cmpValue (FP.fcmp a b) o ≤ 0 ↔ a.toNat ≤ b.toNat := by
  have h1 : FP.fcmp a b = some .lt ↔ FP.Core.fkey a < FP.Core.fkey b := FP.Core.fcmp_lt_key ha.1 hb.1
  have h2 : FP.fcmp a b = some .eq ↔ FP.Core.fkey a = FP.Core.fkey b := FP.Core.fcmp_eq_key ha.1 hb.1
  have h3 : FP.fcmp a b = some .gt ↔ FP.Core.fkey b < FP.Core.fkey a := FP.Core.fcmp_gt_key ha.1 hb.1
  rw [fkey_n ha, fkey_n hb] at h1 h2 h3
  rcases Int.lt_trichotomy (a.toNat : Int) b.toNat with q | q | q
  · exact ⟨fun _ => by omega, fun _ => cv_le o (.inl (h1.mpr q))⟩
  · exact ⟨fun _ => by omega, fun _ => cv_le o (.inr (h2.mpr q))⟩
  · rw [h3.mpr q]
    exact ⟨fun r => absurd r (cv_gt o), fun r => by omega⟩
def gsh (a b : UInt32) : UInt32 := if a.toNat < b.toNat then b else a
theorem gsh_n {a b : UInt32} (ha : Nn a) (hb : Nn b) : Nn (gsh a b) := by
  unfold gsh
  split
  · exact hb
  · exact ha
def Lm (f : Nat → Int32) : Prop := ∀ l, l < 3 → ∀ w, w < 3 → ∃ m, 100 ≤ m ∧ m ≤ 30000 ∧ f (332 + l * 4 + w) = Int32.ofNat m
theorem s_share {k N m : Nat} (h1 : 0 < m) (h2 : m < 16777216) (hN : N < 16777216) : f_X1_shareOf k (fb N (-2)) (Int32.ofNat m) = some (shr N (Int32.ofNat m)) := by
  have z : z32 (FP.fdiv (fb N (-2)) (FP.i2f (Int32.ofNat m))) = true := z32_nan (shr_n hN h1 h2).1
  rw [f_X1_shareOf, if_neg (show ¬ Int32.ofNat m ≤ 0 from fun q => absurd ((n_le (b := 0) (by omega) (by omega)).mp q) (by omega)), zl_e, z]
  rfl
theorem s_easy_loop {k l b B O : Nat} {f : Nat → Int32} {G : Nat → UInt32} (c : CI f B O) (hk : 25 ≤ k) (hG : ∀ p, p < 5 → zbs (zat (fun b => f (8 + b * 11 + 9)) (5 * l + p)) B = 0 → Nn (G p) ∧ f_X1_greaterShare k f (Int32.ofNat l) (Int32.ofNat p) (f (8 + b * 11 + 4)) = some (G p)) : ∀ n i (x4 : Int32) (x5 : UInt32), i ≤ 5 → 5 - i < n →
    ((x4 = -6 ∧ ∀ p, p < i → ¬ zbs (zat (fun b => f (8 + b * 11 + 9)) (5 * l + p)) B = 0) ∨ ∃ p0, p0 < i ∧ x4 = Int32.ofNat p0 ∧ x5 = G p0 ∧ zbs (zat (fun b => f (8 + b * 11 + 9)) (5 * l + p0)) B = 0 ∧ ∀ p, p < i → zbs (zat (fun b => f (8 + b * 11 + 9)) (5 * l + p)) B = 0 → ((G p0).toNat : Int) ≤ ((G p).toNat : Int) ∧ (p < p0 → ((G p0).toNat : Int) < ((G p).toNat : Int))) →
    ∃ r, f_X1_easiestPlace_b20 k f (Int32.ofNat b) (Int32.ofNat l) n (f (8 + b * 11 + 4)) x4 x5 (Int32.ofNat i) = some r ∧ Best (fun p => zbs (zat (fun b => f (8 + b * 11 + 9)) (5 * l + p)) B = 0) (fun p => ((G p).toNat : Int)) 0 5 r := by
  intro n
  induction n with
  | zero => intro i _ _ _ h; omega
  | succ n ih =>
    intro i x4 x5 hi hn hI
    rw [f_X1_easiestPlace_b20]
    by_cases h : i < 5
    · rw [if_neg (n_ge5 h), s_free c hk]
      simp only [f_X1_easiestPlace_b61]
      simp (disch := omega) only [zl_e, zb1_some, zb2_some, zb3_some, zb4_some, zb5_some, m_g, n_nat, n_suc]
      simp only [flag]
      by_cases hq : zbs (zat (fun b => f (8 + b * 11 + 9)) (5 * l + i)) B = 0
      · rw [if_neg (fun q => q hq)]
        obtain ⟨gn, ge⟩ := hG i h hq
        rw [ge]
        simp (disch := omega) only [zl_e, zb1_some, zb2_some, zb3_some, zb4_some, zb5_some, m_g, n_nat, n_suc]
        rcases hI with ⟨e, hI⟩ | ⟨b0, h1, e1, e2, h2, h3⟩
        · rw [if_pos e]
          refine ih (i + 1) _ _ (by omega) (by omega) (.inr ⟨i, by omega, rfl, rfl, hq, fun p hp hg => ?_⟩)
          have : p = i := by
            by_cases q : p = i
            · exact q
            · exact absurd hg (hI p (by omega))
          subst this
          exact ⟨Int.le_refl _, fun q => absurd q (Nat.lt_irrefl _)⟩
        · obtain ⟨gn0, ge0⟩ := hG b0 (by omega) h2
          rw [if_neg (by rw [e1]; exact n_neg6 (by omega)), e2]
          have cl := cmp_lt .g gn gn0
          by_cases hl : 0 ≤ Op.cmpValue (FP.fcmp (G i) (G b0)) CmpOp.g
          · rw [if_pos hl]
            have hge : ¬ (G i).toNat < (G b0).toNat := fun q => by
              have := cl.mpr q
              rw [i_lt] at this
              rw [i_le] at hl
              omega
            refine ih (i + 1) x4 _ (by omega) (by omega) (.inr ⟨b0, by omega, e1, rfl, h2, fun p hp hg => ?_⟩)
            by_cases q : p = i
            · subst q
              exact ⟨by omega, fun q => by omega⟩
            · exact h3 p (by omega) hg
          · rw [if_neg hl]
            have hlt : (G i).toNat < (G b0).toNat := cl.mp (by rw [i_lt]; rw [i_le] at hl; omega)
            refine ih (i + 1) _ _ (by omega) (by omega) (.inr ⟨i, by omega, rfl, rfl, hq, fun p hp hg => ?_⟩)
            by_cases q : p = i
            · subst q
              exact ⟨Int.le_refl _, fun q => absurd q (Nat.lt_irrefl _)⟩
            · have := h3 p (by omega) hg
              exact ⟨by omega, fun _ => by omega⟩
      · rw [if_pos hq]
        refine ih (i + 1) x4 x5 (by omega) (by omega) ?_
        rcases hI with ⟨e, hI⟩ | ⟨b0, h1, e1, e2, h2, h3⟩
        · refine .inl ⟨e, fun p hp => ?_⟩
          by_cases q : p = i
          · rw [q]; exact hq
          · exact hI p (by omega)
        · refine .inr ⟨b0, by omega, e1, e2, h2, fun p hp hg => h3 p ?_ hg⟩
          have : ¬ p = i := fun q => hq (by rw [← q]; exact hg)
          omega
    · have : i = 5 := by omega
      subst this
      rw [if_pos (by decide)]
      refine ⟨x4, rfl, ?_⟩
      rcases hI with ⟨e, hI⟩ | ⟨b0, h1, e1, e2, h2, h3⟩
      · exact .inl ⟨e, fun p _ hp => hI p hp⟩
      · exact .inr ⟨b0, Nat.zero_le _, h1, e1, h2, fun p _ hp hg => h3 p hp hg⟩
