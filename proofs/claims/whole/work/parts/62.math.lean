/-! TEXTS: the class reads an order -/
def ncnt : List Nat → Nat
  | [] => 0
  | c :: cs => (if c = 78 ∨ c = 68 then 1 else 0) + ncnt cs
def zpt (x : Nat) : List Nat := if x = 113 then [78, 120, 78, 120, 78, 42, 78] else if x = 99 then [78, 46, 68, 64, 78] else if x = 111 then [78, 120, 78, 120, 78] else if x = 103 then [78, 61, 78] else if x = 108 then [78, 46, 68, 68] else if x = 110 then [45, 78] else if x = 100 then [68] else []
theorem zp_len : ∀ x, x < 127 → zSl.getD (zPi (Int32.ofNat x)) 0 = (zpt x).length := by decide +kernel
theorem zp_sc : ∀ x, x < 127 → ∀ a, a < (zpt x).length → zSc (zPi (Int32.ofNat x)) (0 + a) = Int32.ofNat ((zpt x).getD a 0) := by decide +kernel
theorem zp_ok : ∀ x, x < 127 → ∀ c ∈ zpt x, 0 < c ∧ c < 127 := by decide +kernel
theorem zp_cnt : ∀ x, x < 127 → ncnt (zpt x) = (if x = 113 then 4 else if x = 99 then 3 else if x = 111 then 3 else if x = 103 then 2 else if x = 108 then 3 else if x = 110 then 1 else if x = 100 then 1 else 0) ∧ (zpt x).length ≤ 7 := by decide +kernel
theorem numv_c {sg : Nat → Int32} {l p v q : Nat} {T : Nat → Nat} (t : Txt sg l T) (h : numv T p = some (v, q)) : p < q ∧ q ≤ l ∧ v < 1000 := by
  have t0 := t.lt p
  have t1 := t.lt (p + 1)
  have t2 := t.lt (p + 2)
  unfold numv at h
  split at h
  · rename_i c0
    have l0 := t.lo (p := p) (by omega)
    split at h
    · cases h; omega
    · split at h
      · rename_i c1
        have l1 := t.lo (p := p + 1) (by omega)
        split at h
        · rename_i c2
          have l2 := t.lo (p := p + 2) (by omega)
          cases h
          omega
        · cases h
          omega
      · cases h
        omega
  · cases h
theorem sp_N0 {T : Nat → Nat} {cs : List Nat} {p : Nat} {ng : Bool} (h : numv T p = none) : sp T (78 :: cs) p ng = (false, p, []) := by
  rw [sp, if_pos rfl, h]
theorem sp_N1 {T : Nat → Nat} {cs : List Nat} {p v q : Nat} {ng : Bool} (h : numv T p = some (v, q)) : sp T (78 :: cs) p ng = ((sp T cs q ng).1, (sp T cs q ng).2.1, sgv ng v :: (sp T cs q ng).2.2) := by
  rw [sp, if_pos rfl, h]
theorem sp_D0 {T : Nat → Nat} {cs : List Nat} {p : Nat} {ng : Bool} (h : ¬ (48 ≤ T p ∧ T p ≤ 57)) : sp T (68 :: cs) p ng = (false, p, []) := by
  rw [sp, if_neg (by decide), if_pos rfl, if_neg h]
theorem sp_D1 {T : Nat → Nat} {cs : List Nat} {p : Nat} {ng : Bool} (h : 48 ≤ T p ∧ T p ≤ 57) : sp T (68 :: cs) p ng = ((sp T cs (p + 1) ng).1, (sp T cs (p + 1) ng).2.1, sgv ng (T p - 48) :: (sp T cs (p + 1) ng).2.2) := by
  rw [sp, if_neg (by decide), if_pos rfl, if_pos h]
theorem sp_m1 {T : Nat → Nat} {cs : List Nat} {p : Nat} {ng : Bool} (h : T p = 45) : sp T (45 :: cs) p ng = sp T cs (p + 1) true := by
  rw [sp, if_neg (by decide), if_neg (by decide), if_pos rfl, if_pos h]
theorem sp_m0 {T : Nat → Nat} {cs : List Nat} {p : Nat} {ng : Bool} (h : ¬ T p = 45) : sp T (45 :: cs) p ng = sp T cs p false := by
  rw [sp, if_neg (by decide), if_neg (by decide), if_pos rfl, if_neg h]
theorem sp_c1 {T : Nat → Nat} {cs : List Nat} {c p : Nat} {ng : Bool} (h1 : ¬ c = 78) (h2 : ¬ c = 68) (h3 : ¬ c = 45) (h : T p = c) : sp T (c :: cs) p ng = sp T cs (p + 1) ng := by
  rw [sp, if_neg h1, if_neg h2, if_neg h3, if_pos h]
theorem sp_c0 {T : Nat → Nat} {cs : List Nat} {c p : Nat} {ng : Bool} (h1 : ¬ c = 78) (h2 : ¬ c = 68) (h3 : ¬ c = 45) (h : ¬ T p = c) : sp T (c :: cs) p ng = (false, p, []) := by
  rw [sp, if_neg h1, if_neg h2, if_neg h3, if_neg h]
theorem sp_pos {sg : Nat → Int32} {l : Nat} {T : Nat → Nat} (t : Txt sg l T) : ∀ (cs : List Nat) (p : Nat) (ng : Bool), (∀ c ∈ cs, 0 < c ∧ c < 127) → p ≤ l → p ≤ (sp T cs p ng).2.1 ∧ (sp T cs p ng).2.1 ≤ l ∧ ((sp T cs p ng).1 = true → (sp T cs p ng).2.2.length = ncnt cs) := by
  intro cs
  induction cs with
  | nil => intro p ng _ hp; rw [sp]; exact ⟨Nat.le_refl _, hp, fun _ => rfl⟩
  | cons c cs ih =>
    intro p ng hc hp
    have hc' : ∀ c ∈ cs, 0 < c ∧ c < 127 := fun d hd => hc d (List.mem_cons_of_mem _ hd)
    have c0 := hc c List.mem_cons_self
    by_cases h1 : c = 78
    · subst h1
      cases hn : numv T p with
      | none => rw [sp_N0 hn]; exact ⟨Nat.le_refl _, hp, fun h => by cases h⟩
      | some vq =>
        obtain ⟨v, q⟩ := vq
        obtain ⟨n1, n2, n3⟩ := numv_c t hn
        obtain ⟨i1, i2, i3⟩ := ih q ng hc' n2
        rw [sp_N1 hn]
        refine ⟨by show p ≤ (sp T cs q ng).2.1; omega, i2, fun h => ?_⟩
        rw [ncnt, if_pos (.inl rfl), List.length_cons, i3 h]
        omega
    · by_cases h2 : c = 68
      · subst h2
        by_cases hd : 48 ≤ T p ∧ T p ≤ 57
        · have lo := t.lo (p := p) (by omega)
          obtain ⟨i1, i2, i3⟩ := ih (p + 1) ng hc' (by omega)
          rw [sp_D1 hd]
          refine ⟨by show p ≤ (sp T cs (p + 1) ng).2.1; omega, i2, fun h => ?_⟩
          rw [ncnt, if_pos (.inr rfl), List.length_cons, i3 h]
          omega
        · rw [sp_D0 hd]; exact ⟨Nat.le_refl _, hp, fun h => by cases h⟩
      · have e : ncnt (c :: cs) = ncnt cs := by
          rw [ncnt, if_neg (fun h => h.elim h1 h2), Nat.zero_add]
        rw [e]
        by_cases h3 : c = 45
        · subst h3
          by_cases hd : T p = 45
          · have lo := t.lo (p := p) (by omega)
            obtain ⟨i1, i2, i3⟩ := ih (p + 1) true hc' (by omega)
            rw [sp_m1 hd]
            exact ⟨by omega, i2, i3⟩
          · rw [sp_m0 hd]
            exact ih p false hc' hp
        · by_cases hd : T p = c
          · have lo := t.lo (p := p) (by omega)
            obtain ⟨i1, i2, i3⟩ := ih (p + 1) ng hc' (by omega)
            rw [sp_c1 h1 h2 h3 hd]
            exact ⟨by omega, i2, i3⟩
          · rw [sp_c0 h1 h2 h3 hd]; exact ⟨Nat.le_refl _, hp, fun h => by cases h⟩
theorem rd_parts {k l i : Nat} {pk : Int32} {sg : Nat → Int32} {T : Nat → Nat} (hk : 25 ≤ k) (t : Txt sg l T) (hi : i < 8) : ∀ (cs : List Nat) (n j p m : Nat) (pn : Nat → Int32) (pg : Int32) (ng : Bool), zSl.getD i 0 = j + cs.length → (∀ a, a < cs.length → zSc i (j + a) = Int32.ofNat (cs.getD a 0)) → (∀ c ∈ cs, 0 < c ∧ c < 127) → pg = (if ng = true then 1 else 0) → m + ncnt cs ≤ 4 → cs.length < n → p ≤ l →
    ∃ pn' pf' pg', f_X3_readOrder_b65 k sg (Int32.ofNat l) pk i n (Int32.ofNat p) pn (Int32.ofNat m) pg (Int32.ofNat j) = some (if (sp T cs p ng).1 = true then 1 else 0, Int32.ofNat (sp T cs p ng).2.1, pk, pn', pf', pg') ∧
      ((sp T cs p ng).1 = true → pf' = Int32.ofNat (m + (sp T cs p ng).2.2.length) ∧ (∀ a, a < m → pn' a = pn a) ∧ ∀ a, a < (sp T cs p ng).2.2.length → pn' (m + a) = (sp T cs p ng).2.2.getD a 0) := by
  have hl := t.1
  have h8 := zSl_lt i hi
  intro cs
  induction cs with
  | nil =>
    intro n j p m pn pg ng hs hc ho hg hm hn hp
    obtain ⟨n', rfl⟩ : ∃ n', n = n' + 1 := ⟨n - 1, by omega⟩
    rw [List.length_nil, Nat.add_zero] at hs
    refine ⟨pn, Int32.ofNat m, pg, ?_, fun _ => ⟨rfl, fun _ _ => rfl, fun a ha => absurd ha (Nat.not_lt_zero _)⟩⟩
    rw [f_X3_readOrder_b65, hs, if_pos (show nI j ≤ Int32.ofNat j from (n_le (by omega) (by omega)).mpr (Nat.le_refl _)), sp]
    rfl
  | cons c cs ih =>
    intro n j p m pn pg ng hs hc ho hg hm hn hp
    obtain ⟨n', rfl⟩ : ∃ n', n = n' + 1 := ⟨n - 1, by omega⟩
    rw [List.length_cons] at hs hn
    have ho' : ∀ c ∈ cs, 0 < c ∧ c < 127 := fun d hd => ho d (List.mem_cons_of_mem _ hd)
    have c0 := ho c List.mem_cons_self
    have hc0 : zSc i j = Int32.ofNat c := by
      have := hc 0 (by rw [List.length_cons]; omega)
      rwa [Nat.add_zero, List.getD_cons_zero] at this
    have hc' : ∀ a, a < cs.length → zSc i (j + 1 + a) = Int32.ofNat (cs.getD a 0) := fun a ha => by
      have := hc (a + 1) (by rw [List.length_cons]; omega)
      rwa [List.getD_cons_succ, show j + (a + 1) = j + 1 + a by omega] at this
    have hs' : zSl.getD i 0 = (j + 1) + cs.length := by omega
    rw [f_X3_readOrder_b65, if_neg (show ¬ nI (zSl.getD i 0) ≤ Int32.ofNat j from fun r => absurd ((n_le (by omega) (by omega)).mp r) (by omega)), m_g (by omega) (by omega), n_nat (by omega), hc0, f_X3_readPart]
    have k45 : (Int32.ofNat c = 45) ↔ c = 45 := n_inj (b := 45) (by omega) (by omega)
    have k68 : (Int32.ofNat c = 68) ↔ c = 68 := n_inj (b := 68) (by omega) (by omega)
    have k78 : (Int32.ofNat c = 78) ↔ c = 78 := n_inj (b := 78) (by omega) (by omega)
    have z1 : zbo 1 = true := by decide
    have z0 : zbo 0 = true := by decide
    by_cases h1 : c = 78
    · subst h1
      rw [if_neg (fun r => absurd (k45.mp r) (by omega)), if_neg (fun r => absurd (k68.mp r) (by omega)), if_pos (k78.mpr rfl)]
      have hm1 : m < 4 := by
        rw [ncnt, if_pos (.inl rfl)] at hm
        omega
      rw [s_num (ng := ng) hk t (by omega) hm1 hg]
      cases hnv : numv T p with
      | none =>
        rw [sp_N0 hnv]
        simp only []
        rw [zb4_some, z0, zg_true, zb5_some, if_pos rfl]
        exact ⟨pn, _, _, rfl, fun h => by cases h⟩
      | some vq =>
        obtain ⟨v, q⟩ := vq
        obtain ⟨n1, n2, n3⟩ := numv_c t hnv
        rw [sp_N1 hnv]
        simp only []
        rw [zb4_some, z1, zg_true, zb5_some, if_neg n10, zl_e, n_suc]
        obtain ⟨pn', pf', pg', e, on⟩ := ih n' (j + 1) q (m + 1) (upd pn m (sgv ng v)) pg ng hs' hc' ho' hg (by rw [ncnt, if_pos (.inl rfl)] at hm; omega) (by omega) n2
        refine ⟨pn', pf', pg', e, fun h => ?_⟩
        obtain ⟨o1, o2, o3⟩ := on h
        refine ⟨by rw [o1, List.length_cons]; congr 1; omega, fun a ha => by rw [o2 a (by omega), upd_ne (by omega)], fun a ha => ?_⟩
        cases a with
        | zero => rw [List.getD_cons_zero, Nat.add_zero, o2 m (by omega), upd_at]
        | succ a =>
          rw [List.length_cons] at ha
          rw [List.getD_cons_succ, show m + (a + 1) = m + 1 + a by omega]
          exact o3 a (by omega)
    · by_cases h2 : c = 68
      · subst h2
        rw [if_neg (fun r => absurd (k45.mp r) (by omega)), if_pos (k68.mpr rfl)]
        have hm1 : m < 4 := by
          rw [ncnt, if_pos (.inr rfl)] at hm
          omega
        rw [s_dig (ng := ng) hk t (by omega) hm1 hg]
        by_cases hd : 48 ≤ T p ∧ T p ≤ 57
        · have lo := t.lo (p := p) (by omega)
          rw [sp_D1 hd, if_pos hd, zb4_some, z1, zg_true, zb5_some, if_neg n10, zl_e, n_suc]
          obtain ⟨pn', pf', pg', e, on⟩ := ih n' (j + 1) (p + 1) (m + 1) (upd pn m (sgv ng (T p - 48))) pg ng hs' hc' ho' hg (by rw [ncnt, if_pos (.inr rfl)] at hm; omega) (by omega) (by omega)
          refine ⟨pn', pf', pg', e, fun h => ?_⟩
          obtain ⟨o1, o2, o3⟩ := on h
          refine ⟨by rw [o1, List.length_cons]; congr 1; omega, fun a ha => by rw [o2 a (by omega), upd_ne (by omega)], fun a ha => ?_⟩
          cases a with
          | zero => rw [List.getD_cons_zero, Nat.add_zero, o2 m (by omega), upd_at]
          | succ a =>
            rw [List.length_cons] at ha
            rw [List.getD_cons_succ, show m + (a + 1) = m + 1 + a by omega]
            exact o3 a (by omega)
        · rw [sp_D0 hd, if_neg hd, zb4_some, z0, zg_true, zb5_some, if_pos rfl]
          exact ⟨pn, _, _, rfl, fun h => by cases h⟩
      · have en : ncnt (c :: cs) = ncnt cs := by
          rw [ncnt, if_neg (fun h => h.elim h1 h2), Nat.zero_add]
        rw [en] at hm
        by_cases h3 : c = 45
        · subst h3
          rw [if_pos (k45.mpr rfl)]
          have tk := s_take (k := k) (c := 45) t (show p ≤ 100 by omega) (by omega)
          rw [show (45 : Int32) = Int32.ofNat 45 from rfl, tk]
          by_cases hd : T p = 45
          · have lo := t.lo (p := p) (by omega)
            rw [sp_m1 hd, if_pos hd, zb2_some, z1, zg_true, zl_e, zb5_some, if_neg n10, zl_e, n_suc]
            exact ih n' (j + 1) (p + 1) m pn 1 true hs' hc' ho' rfl hm (by omega) (by omega)
          · rw [sp_m0 hd, if_neg hd, zb2_some, z0, zg_true, zl_e, zb5_some, if_neg n10, zl_e, n_suc]
            exact ih n' (j + 1) p m pn 0 false hs' hc' ho' rfl hm (by omega) (by omega)
        · rw [if_neg (fun r => h3 (k45.mp r)), if_neg (fun r => h2 (k68.mp r)), if_neg (fun r => h1 (k78.mp r)), s_take t (by omega) (by omega)]
          by_cases hd : T p = c
          · have lo := t.lo (p := p) (by omega)
            rw [sp_c1 h1 h2 h3 hd, if_pos hd, zb2_some, z1, zg_true, zb5_some, if_neg n10, zl_e, n_suc]
            exact ih n' (j + 1) (p + 1) m pn pg ng hs' hc' ho' hg hm (by omega) (by omega)
          · rw [sp_c0 h1 h2 h3 hd, if_neg hd, zb2_some, z0, zg_true, zb5_some, if_pos rfl]
            exact ⟨pn, _, _, rfl, fun h => by cases h⟩
/-- an order from p on: whether it stands there, where the reading ends, its numbers -/
def rdo (T : Nat → Nat) (p : Nat) : Bool × Nat × List Int32 := if (zpt (T p)).length = 0 then (false, p, []) else sp T (zpt (T p)) (p + 1) false
theorem rdo_c {sg : Nat → Int32} {l p : Nat} {T : Nat → Nat} (t : Txt sg l T) (hp : p ≤ l) : p ≤ (rdo T p).2.1 ∧ (rdo T p).2.1 ≤ l ∧ ((rdo T p).1 = true → p + 1 ≤ (rdo T p).2.1 ∧ (rdo T p).2.2.length = ncnt (zpt (T p)) ∧ p < l) := by
  have t0 := t.lt p
  unfold rdo
  by_cases h : (zpt (T p)).length = 0
  · rw [if_pos h]
    exact ⟨Nat.le_refl _, hp, fun h => by cases h⟩
  · have nz : T p ≠ 0 := fun e => h (by rw [e]; rfl)
    have lo := t.lo nz
    rw [if_neg h]
    obtain ⟨i1, i2, i3⟩ := sp_pos t (zpt (T p)) (p + 1) false (zp_ok _ t0) (by omega)
    exact ⟨by omega, i2, fun h => ⟨i1, i3 h, lo⟩⟩
/-- the class reads an order, behind the sign between -/
theorem s_b18 {k l p : Nat} {sg pn : Nat → Int32} {T : Nat → Nat} {pf pg : Int32} (hk : 25 ≤ k) (t : Txt sg l T) (hp : p ≤ l) :
    ∃ pn' pf' pg', f_X3_readOrder_b18 k sg (Int32.ofNat l) (Int32.ofNat p) pn pf pg = some (if (rdo T p).1 = true then 1 else 0, Int32.ofNat (rdo T p).2.1, Int32.ofNat (T p), pn', pf', pg') ∧
      ((rdo T p).1 = true → pf' = Int32.ofNat (rdo T p).2.2.length ∧ ∀ a, a < (rdo T p).2.2.length → pn' a = (rdo T p).2.2.getD a 0) := by
  have hl := t.1
  have t0 := t.lt p
  rw [f_X3_readOrder_b18, s_sign t (by omega), zb1_some, zl_e, zp_len _ t0]
  unfold rdo
  by_cases h : (zpt (T p)).length = 0
  · rw [if_pos h, if_pos h]
    exact ⟨pn, pf, pg, rfl, fun h => by cases h⟩
  · have nz : T p ≠ 0 := fun e => h (by rw [e]; rfl)
    have lo := t.lo nz
    rw [if_neg h, if_neg h, zl_e, zl_e, show zbo 0 = true by decide, zg_true, zl_e, n_suc]
    obtain ⟨pn', pf', pg', e, on⟩ := rd_parts (k := k) (pk := Int32.ofNat (T p)) hk t (zPi_lt (Int32.ofNat (T p))) (zpt (T p)) k 0 (p + 1) 0 pn 0 false (by rw [zp_len _ t0]; omega) (zp_sc _ t0) (zp_ok _ t0) rfl (by
      have := (zp_cnt _ t0).1
      rw [this, Nat.zero_add]
      repeat (first | (split; omega) | split)
      all_goals omega) (by have := (zp_cnt _ t0).2; omega) (by omega)
    refine ⟨pn', pf', pg', e, fun h => ?_⟩
    obtain ⟨o1, o2, o3⟩ := on h
    exact ⟨by rw [o1, Nat.zero_add], fun a ha => by rw [← o3 a ha, Nat.zero_add]⟩
