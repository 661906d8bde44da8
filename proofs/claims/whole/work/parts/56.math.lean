/-! LEAVING: what the reference delivers -/
def miv (ms : Nat → Int32) (b : Nat) : Int32 := ms 1 * ((mw ms b + 99) / 100)
def mio (ms : Nat → Int32) (b : Nat) : Int32 := if ms (12 + 10 * b + 7) = -6 then 0 else miv ms b
def Dm (ms M : Nat → Int32) (B O : Nat) (P : Nat → Bool) (y : Int32) : Prop :=
  (∀ i, i ≠ 10 → (∀ b, b < B → P b = true → i ≠ 12 + 10 * b + 4 ∧ i ≠ 12 + 10 * b + 8) → (∀ b, b < B → P b = true → ∀ o, o < O → ms (12 + 10 * b + 7) = Int32.ofNat o → i ≠ 252 + 6 * o + 3 ∧ i ≠ 252 + 6 * o + 5) → M i = ms i) ∧
  (∀ b, b < B → P b = true → M (12 + 10 * b + 4) = 3 ∧ M (12 + 10 * b + 8) = -6) ∧
  (∀ b, b < B → P b = true → ∀ o, o < O → ms (12 + 10 * b + 7) = Int32.ofNat o → M (252 + 6 * o + 3) = 2 ∧ M (252 + 6 * o + 5) = miv ms b) ∧ M 10 = ms 10 + y
def Om (ms : Nat → Int32) (B O : Nat) (P : Nat → Bool) : Prop :=
  ∀ b, b < B → P b = true → ms (12 + 10 * b + 7) = -6 ∨ ∃ o, o < O ∧ ms (12 + 10 * b + 7) = Int32.ofNat o ∧ ms (252 + 6 * o + 4) = Int32.ofNat b
theorem Dm.congr {f F : Nat → Int32} {B O : Nat} {P Q : Nat → Bool} {x : Int32} (h : Dm f F B O P x) (e : ∀ b, b < B → Q b = P b) : Dm f F B O Q x := by
  obtain ⟨h1, h2, h3, h4⟩ := h
  exact ⟨fun i i0 i1 i2 => h1 i i0 (fun b hb q => i1 b hb (by rw [e b hb]; exact q)) (fun b hb q => i2 b hb (by rw [e b hb]; exact q)), fun b hb q => h2 b hb (by rw [← e b hb]; exact q), fun b hb q => h3 b hb (by rw [← e b hb]; exact q), h4⟩
theorem Om.one {f : Nat → Int32} {B O b c o p : Nat} {P : Nat → Bool} (w : Om f B O P) (hB : B ≤ 24) (hO : O ≤ 10) (hb : b < B) (hc : c < B) (pb : P b = true) (pc : P c = true) (ho : o < O) (hp : p < O) (e1 : f (12 + 10 * b + 7) = Int32.ofNat o) (e2 : f (12 + 10 * c + 7) = Int32.ofNat p) (h : o = p) : b = c := by
  subst h
  rcases w b hb pb with q | ⟨o1, a1, a2, a4⟩
  · rw [e1] at q; exact absurd q (n_neg6 (by omega))
  rcases w c hc pc with q | ⟨o2, b1, b2, b4⟩
  · rw [e2] at q; exact absurd q (n_neg6 (by omega))
  rw [e1] at a2
  rw [e2] at b2
  have x1 := (n_inj (by omega) (by omega)).mp a2
  have x2 := (n_inj (by omega) (by omega)).mp b2
  subst x1
  subst x2
  rw [a4] at b4
  exact (n_inj (by omega) (by omega)).mp b4
theorem dm_one {k B O b : Nat} {ms M : Nat → Int32} {P : Nat → Bool} {y : Int32} (d : Dm ms M B O P y) (hB : B ≤ 24) (hO : O ≤ 10) (hb : b < B) (hP : P b = false) (w : Om ms B O (fun c => P c || decide (c = b))) :
    ∃ M', f_X8_delivers k M (Int32.ofNat b) = some (mio ms b, M') ∧ Dm ms M' B O (fun c => P c || decide (c = b)) (y + mw ms b) := by
  obtain ⟨h1, h2, h3, h4⟩ := d
  have pb : (fun c => P c || decide (c = b)) b = true := by simp
  have low : ∀ i, i < 252 → i ≠ 10 → (∀ c, c < B → i ≠ 12 + 10 * c + 4 ∧ i ≠ 12 + 10 * c + 8) → M i = ms i := fun i hi i0 hc => h1 i i0 (fun c c1 _ => hc c c1) (fun c c1 _ o _ _ => by omega)
  have e7 : M (12 + 10 * b + 7) = ms (12 + 10 * b + 7) := low _ (by omega) (by omega) (fun c c1 => by omega)
  have e1 : M 1 = ms 1 := low _ (by omega) (by omega) (fun c c1 => by omega)
  have em : mw M b = mw ms b := by
    unfold mw
    rw [low (12 + 10 * b + 0) (by omega) (by omega) (fun c c1 => by omega), low (12 + 10 * b + 1) (by omega) (by omega) (fun c c1 => by omega), low (12 + 10 * b + 2) (by omega) (by omega) (fun c c1 => by omega), low (12 + 10 * b + 3) (by omega) (by omega) (fun c c1 => by omega)]
  obtain ⟨M2, hM2⟩ : ∃ M2, M2 = upd (upd M (12 + 10 * b + 4) 3) (12 + 10 * b + 8) (-6) := ⟨_, rfl⟩
  obtain ⟨M3, hM3⟩ : ∃ M3, M3 = upd M2 10 (M 10 + mw ms b) := ⟨_, rfl⟩
  have em2 : mw M2 b = mw ms b := by
    rw [← em]
    unfold mw
    rw [hM2]
    simp (disch := omega) only [upd_ne, upd_at]
  have m10 : M2 10 = M 10 := by rw [hM2]; simp (disch := omega) only [upd_ne, upd_at]
  have o3 : ∀ i, i ≠ 10 → i ≠ 12 + 10 * b + 4 → i ≠ 12 + 10 * b + 8 → M3 i = M i := fun i i0 i1 i2 => by rw [hM3, upd_ne i0, hM2, upd_ne i2, upd_ne i1]
  have b4 : M3 (12 + 10 * b + 4) = 3 := by rw [hM3, hM2]; simp (disch := omega) only [upd_ne, upd_at]
  have b8 : M3 (12 + 10 * b + 8) = -6 := by rw [hM3, hM2]; simp (disch := omega) only [upd_ne, upd_at]
  have b10 : M3 10 = M 10 + mw ms b := by rw [hM3]; simp (disch := omega) only [upd_ne, upd_at]
  have x40 : ∀ x2 y0, f_X8_delivers_b40 k (Int32.ofNat b) M x2 y0 = if x2 = (-6 : Int32) then some (y0, M3) else zb1 (f_X8_ofOrderAt k x2 3) (fun v16 => zg (zin v16 324) (zl (upd M3 v16.toNatClampNeg 2) fun ms17 => zb1 (f_X8_ofOrderAt k x2 5) fun v18 => zg (zin v18 324) (zl (upd ms17 v18.toNatClampNeg y0) fun ms19 => some (y0, ms19)))) := fun x2 y0 => by
    rw [f_X8_delivers_b40, m_at4, zb1_some, m_wr (by omega) (by omega), m_at8, zb1_some, m_wr (by omega) (by omega), ← hM2, zl_e, m_weight (by omega), zb1_some, zl_e, zl_e, em2, m10, ← hM3]
  have x1 : f_X8_delivers k M (Int32.ofNat b) = if ms (12 + 10 * b + 7) = (-6 : Int32) then f_X8_delivers_b40 k (Int32.ofNat b) M (ms (12 + 10 * b + 7)) 0 else f_X8_delivers_b40 k (Int32.ofNat b) M (ms (12 + 10 * b + 7)) (miv ms b) := by
    rw [f_X8_delivers, m_at7, zb1_some, m_rd (by omega) (by omega), zl_e, m_weight (by omega), zb1_some, zl_e, zl_e, zl_e, e7, e1, em]
    rfl
  rcases w b hb pb with q | ⟨o, a1, a2, a4⟩
  · rw [if_pos q, x40, if_pos q] at x1
    have z : mio ms b = 0 := if_pos q
    rw [z]
    refine ⟨M3, x1, fun i i0 i1 i2 => ?_, fun c hc pc => ?_, fun c hc pc o ho eo => ?_, ?_⟩
    · have := i1 b hb pb
      rw [o3 i i0 this.1 this.2]
      exact h1 i i0 (fun c c1 pc => i1 c c1 (by simp [pc])) (fun c c1 pc => i2 c c1 (by simp [pc]))
    · by_cases e : c = b
      · subst e; exact ⟨b4, b8⟩
      · have pc' : P c = true := by simpa [e] using pc
        rw [o3 _ (by omega) (by omega) (by omega), o3 _ (by omega) (by omega) (by omega)]
        exact h2 c hc pc'
    · by_cases e : c = b
      · subst e
        rw [q] at eo
        exact absurd eo.symm (n_neg6 (by omega))
      · have pc' : P c = true := by simpa [e] using pc
        rw [o3 _ (by omega) (by omega) (by omega), o3 _ (by omega) (by omega) (by omega)]
        exact h3 c hc pc' o ho eo
    · rw [b10, h4, Int32.add_assoc]
  · have nq : ¬ ms (12 + 10 * b + 7) = -6 := by rw [a2]; exact n_neg6 (by omega)
    rw [if_neg nq, x40, if_neg nq, a2, m_oat3, zb1_some, m_wr (by omega) (by omega), m_oat5, zb1_some, m_wr (by omega) (by omega)] at x1
    have z : mio ms b = miv ms b := if_neg nq
    rw [z]
    obtain ⟨M4, hM4⟩ : ∃ M4, M4 = upd (upd M3 (252 + 6 * o + 3) 2) (252 + 6 * o + 5) (miv ms b) := ⟨_, rfl⟩
    rw [← hM4] at x1
    have o4 : ∀ i, i ≠ 252 + 6 * o + 3 → i ≠ 252 + 6 * o + 5 → M4 i = M3 i := fun i i1 i2 => by rw [hM4, upd_ne i2, upd_ne i1]
    have c3 : M4 (252 + 6 * o + 3) = 2 := by rw [hM4]; simp (disch := omega) only [upd_ne, upd_at]
    have c5 : M4 (252 + 6 * o + 5) = miv ms b := by rw [hM4]; simp (disch := omega) only [upd_ne, upd_at]
    refine ⟨M4, x1, fun i i0 i1 i2 => ?_, fun c hc pc => ?_, fun c hc pc p hp ep => ?_, ?_⟩
    · have := i1 b hb pb
      have t := i2 b hb pb o a1 a2
      rw [o4 i t.1 t.2, o3 i i0 this.1 this.2]
      exact h1 i i0 (fun c c1 pc => i1 c c1 (by simp [pc])) (fun c c1 pc => i2 c c1 (by simp [pc]))
    · rw [o4 _ (by omega) (by omega), o4 _ (by omega) (by omega)]
      by_cases e : c = b
      · subst e; exact ⟨b4, b8⟩
      · have pc' : P c = true := by simpa [e] using pc
        rw [o3 _ (by omega) (by omega) (by omega), o3 _ (by omega) (by omega) (by omega)]
        exact h2 c hc pc'
    · by_cases e : c = b
      · subst e
        have : p = o := by
          rw [a2] at ep
          exact ((n_inj (by omega) (by omega)).mp ep).symm
        subst this
        exact ⟨c3, c5⟩
      · have pc' : P c = true := by simpa [e] using pc
        have : p ≠ o := fun t => e (w.one hB hO hc hb pc pb hp a1 ep a2 t)
        rw [o4 _ (by omega) (by omega), o4 _ (by omega) (by omega), o3 _ (by omega) (by omega) (by omega), o3 _ (by omega) (by omega) (by omega)]
        exact h3 c hc pc' p hp ep
    · rw [o4 _ (by omega) (by omega), b10, h4, Int32.add_assoc]
/-! the reference's loop over the places -/
def zpl (S : Nat → Int32) (l : Nat) : Nat → Nat → Bool
  | 0, _ => false
  | p + 1, b => zpl S l p b || zat S (5 * l + p) b
theorem zpl_c {S : Nat → Int32} {l b : Nat} : ∀ p, zpl S l p b = true → ∃ q, q < p ∧ zat S (5 * l + q) b = true := by
  intro p
  induction p with
  | zero => intro h; exact absurd h (by rw [zpl]; decide)
  | succ p ih =>
    intro h
    rw [zpl, Bool.or_eq_true] at h
    rcases h with h | h
    · obtain ⟨q, q1, q2⟩ := ih h
      exact ⟨q, by omega, q2⟩
    · exact ⟨p, by omega, h⟩
theorem zpl_ne {S : Nat → Int32} {l b p : Nat} (hl : l < 3) (hp : p < 5) (h : zpl S l p b = true) : zat S (5 * l + p) b = false := by
  obtain ⟨q, q1, q2⟩ := zpl_c p h
  exact zat_ne (by omega) (by omega) (by omega) q2
theorem zat_n6 {S : Nat → Int32} {x b : Nat} (hx : x < 2147483648) (h : zat S x b = true) : ¬ S b = -6 := by
  rw [show S b = _ from of_decide_eq_true h]
  exact n_neg6 hx
theorem leave_st {k l p B O n : Nat} {ms M : Nat → Int32} {x y : Int32} (c : MI ms B O) (hk : 25 ≤ k) (hl : l < 3) (hp : p < 5) (u : Uq (fun b => ms (12 + 10 * b + 8)) B)
    (hw : ∀ b, b < B → ¬ ms (12 + 10 * b + 8) = -6 → ms (12 + 10 * b + 7) = -6 ∨ ∃ o, o < O ∧ ms (12 + 10 * b + 7) = Int32.ofNat o ∧ ms (252 + 6 * o + 4) = Int32.ofNat b) (d : Dm ms M B O (zpl (fun b => ms (12 + 10 * b + 8)) l p) y) :
    ∃ M', f_X8_leaves_b24 k (Int32.ofNat l) (n + 1) M x (Int32.ofNat p) = f_X8_leaves_b24 k (Int32.ofNat l) n M' (x + zsum (mio ms) (zat (fun b => ms (12 + 10 * b + 8)) (5 * l + p)) B) (Int32.ofNat (p + 1)) ∧
      Dm ms M' B O (zpl (fun b => ms (12 + 10 * b + 8)) l (p + 1)) (y + zsum (mw ms) (zat (fun b => ms (12 + 10 * b + 8)) (5 * l + p)) B) := by
  have hB := c.hB
  have hO := c.hO
  have d0 := d
  obtain ⟨h1, h2, -, -⟩ := d
  have mi : MI M B O := ⟨hB, hO, by rw [h1 5 (by omega) (fun b hb _ => by omega) (fun b hb _ o ho _ => by omega)]; exact c.m5, by rw [h1 6 (by omega) (fun b hb _ => by omega) (fun b hb _ o ho _ => by omega)]; exact c.m6⟩
  have ez : zlast (zat (fun b => M (12 + 10 * b + 8)) (5 * l + p)) B = zlast (zat (fun b => ms (12 + 10 * b + 8)) (5 * l + p)) B := zlast_congr (fun b hb => by
    by_cases pb : zpl (fun b => ms (12 + 10 * b + 8)) l p b = true
    · rw [zpl_ne hl hp pb]
      refine decide_eq_false (fun t => ?_)
      have t : M (12 + 10 * b + 8) = Int32.ofNat (5 * l + p) := t
      rw [(h2 b hb pb).2] at t
      exact n_neg6 (by omega) t.symm
    · show decide (M (12 + 10 * b + 8) = Int32.ofNat (5 * l + p)) = decide (ms (12 + 10 * b + 8) = Int32.ofNat (5 * l + p))
      rw [h1 (12 + 10 * b + 8) (by omega) (fun b' hb' pb' => by
        have : b' ≠ b := fun t => pb (t ▸ pb')
        omega) (fun b' hb' _ o ho _ => by omega)])
  rw [f_X8_leaves_b24, if_neg (n_ge5 hp), m_blockAt' mi hk, ez, zb1_some]
  rcases zat_c (x := 5 * l + p) (by omega) u with ⟨e1, e2, e3, e4⟩ | ⟨b0, g1, g2, g3, g4, g5, g6⟩
  · rw [e1, if_pos rfl, f_X8_leaves_b55, zl_e, zl_e, n_suc, e4, e4, Int32.add_zero, Int32.add_zero]
    exact ⟨M, rfl, d0.congr (fun b hb => by rw [zpl, e2 b hb, Bool.or_false])⟩
  · rw [g2, if_neg (n_neg6 (by omega)), g6, g6]
    have za : zat (fun b => ms (12 + 10 * b + 8)) (5 * l + p) b0 = true := decide_eq_true g3
    have nP : zpl (fun b => ms (12 + 10 * b + 8)) l p b0 = false := by
      cases q : zpl (fun b => ms (12 + 10 * b + 8)) l p b0 with
      | false => rfl
      | true => exact absurd za (by rw [zpl_ne hl hp q]; decide)
    obtain ⟨M', e, d'⟩ := dm_one (k := k) d0 hB hO g1 nP (fun b hb pb => hw b hb (by
      simp only [Bool.or_eq_true, decide_eq_true_eq] at pb
      rcases pb with pb | pb
      · obtain ⟨q, q1, q2⟩ := zpl_c p pb
        exact zat_n6 (S := fun b => ms (12 + 10 * b + 8)) (by omega) q2
      · rw [pb]; exact zat_n6 (S := fun b => ms (12 + 10 * b + 8)) (by omega) za))
    rw [e, zb2_some, f_X8_leaves_b55, zl_e, zl_e, n_suc]
    refine ⟨M', rfl, d'.congr (fun b hb => ?_)⟩
    rw [zpl]
    by_cases e : b = b0
    · subst e
      rw [za]
      simp
    · have : zat (fun b => ms (12 + 10 * b + 8)) (5 * l + p) b = false := decide_eq_false (fun t => e (g4 b hb t))
      rw [this]
      simp [e]
theorem m_leave {k l B O : Nat} {ms : Nat → Int32} (c : MI ms B O) (hk : 25 ≤ k) (hl : l < 3) (u : Uq (fun b => ms (12 + 10 * b + 8)) B)
    (hw : ∀ b, b < B → ¬ ms (12 + 10 * b + 8) = -6 → ms (12 + 10 * b + 7) = -6 ∨ ∃ o, o < O ∧ ms (12 + 10 * b + 7) = Int32.ofNat o ∧ ms (252 + 6 * o + 4) = Int32.ofNat b) :
    ∃ M, f_X8_leaves_b24 k (Int32.ofNat l) k ms 0 0 = some (zsum (mio ms) (zon (fun b => ms (12 + 10 * b + 8)) l) B, upd (upd M 11 (M 11 + zsum (mio ms) (zon (fun b => ms (12 + 10 * b + 8)) l) B)) (312 + 4 * l + 3) (M (312 + 4 * l + 3) + 1)) ∧
      Dm ms M B O (zon (fun b => ms (12 + 10 * b + 8)) l) (zsum (mw ms) (zon (fun b => ms (12 + 10 * b + 8)) l) B) := by
  obtain ⟨n, hn⟩ : ∃ n, k = n + 6 := ⟨k - 6, by omega⟩
  have d0 : Dm ms ms B O (zpl (fun b => ms (12 + 10 * b + 8)) l 0) 0 := ⟨fun _ _ _ _ => rfl, fun b hb q => absurd q (by rw [zpl]; decide), fun b hb q => absurd q (by rw [zpl]; decide), (Int32.add_zero _).symm⟩
  obtain ⟨M1, e1, d1⟩ := leave_st (k := k) (n := n + 5) (x := 0) c hk hl (p := 0) (by omega) u hw d0
  obtain ⟨M2, e2, d2⟩ := leave_st (k := k) (n := n + 4) (x := _) c hk hl (p := 1) (by omega) u hw d1
  obtain ⟨M3, e3, d3⟩ := leave_st (k := k) (n := n + 3) (x := _) c hk hl (p := 2) (by omega) u hw d2
  obtain ⟨M4, e4, d4⟩ := leave_st (k := k) (n := n + 2) (x := _) c hk hl (p := 3) (by omega) u hw d3
  obtain ⟨M5, e5, d5⟩ := leave_st (k := k) (n := n + 1) (x := _) c hk hl (p := 4) (by omega) u hw d4
  have E := e1.trans (e2.trans (e3.trans (e4.trans e5)))
  rw [Int32.zero_add, ← zon_sum hl] at E
  rw [Int32.zero_add, ← zon_sum hl] at d5
  refine ⟨M5, ?_, d5.congr (fun b hb => by simp [zpl, zon])⟩
  have E' : f_X8_leaves_b24 k (Int32.ofNat l) k ms 0 0 = f_X8_leaves_b24 k (Int32.ofNat l) (n + 1) M5 (zsum (mio ms) (zon (fun b => ms (12 + 10 * b + 8)) l) B) (Int32.ofNat 5) := by
    rw [← E]
    exact congrArg (fun j => f_X8_leaves_b24 k (Int32.ofNat l) j ms 0 0) hn
  rw [E', f_X8_leaves_b24, if_pos (by decide), zl_e, zl_e, zl_e, m_lat3, zb1_some, m_rd (by omega) (by omega), zl_e, m_wr (by omega) (by omega), upd_ne (by omega)]
