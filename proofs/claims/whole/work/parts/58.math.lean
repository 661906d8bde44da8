/-! ONE ORDER OF A TEXT, both sides -/
theorem zb2_eta {α β : Type} {o : Option (α × β)} : zb2 o (fun a b => some (a, b)) = o := by
  cases o with
  | none => rfl
  | some p => obtain ⟨a, b⟩ := p; rfl
theorem zb3_eta {α β γ : Type} {o : Option (α × β × γ)} : zb3 o (fun a b c => some (a, b, c)) = o := by
  cases o with
  | none => rfl
  | some p => obtain ⟨a, b, c⟩ := p; rfl
theorem s_number {k i m : Nat} {pn : Nat → Int32} (hi : i < m) (hm : m ≤ 4) : f_X3_number k pn (Int32.ofNat m) (Int32.ofNat i) = some (pn i) := by
  rw [f_X3_number, if_neg (n_lt0 (by omega)), if_neg (fun t => absurd ((n_le (by omega) (by omega)).mp t) (by omega)), if_neg (show ¬ (4 : Int32) ≤ Int32.ofNat i from fun t => absurd ((n_le (a := 4) (by omega) (by omega)).mp t) (by omega)), m_rd (by omega) (by omega)]
theorem s_number10 {k : Nat} {pn : Nat → Int32} : f_X3_number k pn (Int32.ofNat 1) 0 = some (pn 0) := s_number (i := 0) (by omega) (by omega)
theorem s_number20 {k : Nat} {pn : Nat → Int32} : f_X3_number k pn (Int32.ofNat 2) 0 = some (pn 0) := s_number (i := 0) (by omega) (by omega)
theorem s_number30 {k : Nat} {pn : Nat → Int32} : f_X3_number k pn (Int32.ofNat 3) 0 = some (pn 0) := s_number (i := 0) (by omega) (by omega)
theorem s_number40 {k : Nat} {pn : Nat → Int32} : f_X3_number k pn (Int32.ofNat 4) 0 = some (pn 0) := s_number (i := 0) (by omega) (by omega)
theorem s_number21 {k : Nat} {pn : Nat → Int32} : f_X3_number k pn (Int32.ofNat 2) 1 = some (pn 1) := s_number (i := 1) (by omega) (by omega)
theorem s_number31 {k : Nat} {pn : Nat → Int32} : f_X3_number k pn (Int32.ofNat 3) 1 = some (pn 1) := s_number (i := 1) (by omega) (by omega)
theorem s_number41 {k : Nat} {pn : Nat → Int32} : f_X3_number k pn (Int32.ofNat 4) 1 = some (pn 1) := s_number (i := 1) (by omega) (by omega)
theorem s_number32 {k : Nat} {pn : Nat → Int32} : f_X3_number k pn (Int32.ofNat 3) 2 = some (pn 2) := s_number (i := 2) (by omega) (by omega)
theorem s_number42 {k : Nat} {pn : Nat → Int32} : f_X3_number k pn (Int32.ofNat 4) 2 = some (pn 2) := s_number (i := 2) (by omega) (by omega)
theorem s_number43 {k : Nat} {pn : Nat → Int32} : f_X3_number k pn (Int32.ofNat 4) 3 = some (pn 3) := s_number (i := 3) (by omega) (by omega)
theorem md_c {k : Nat} {ms so : Nat → Int32} {a b c d : Int32} : f_X8_does k ms so 99 a b c d = zb2 (f_X8_cuts k ms a b c) (fun v m => some (v, m, so)) := by
  rw [f_X8_does, if_pos rfl]
theorem sd_c {k : Nat} {f pn : Nat → Int32} : f_X7_carryOrder k f 99 pn (Int32.ofNat 3) = f_X6_cutBlock k f (pn 0) (pn 1) (pn 2) := by
  rw [f_X7_carryOrder, f_X3_kind, zb1_some, if_pos rfl, s_number30, zb1_some, s_number31, zb1_some, s_number32, zb1_some, zb2_eta]
theorem md_d {k : Nat} {ms so : Nat → Int32} {a b c d : Int32} : f_X8_does k ms so 100 a b c d = zb2 (f_X8_leaves k ms a) (fun v m => some (v, m, so)) := by
  rw [f_X8_does, if_neg (by decide), if_pos rfl, f_X8_does_b127]
theorem sd_d {k : Nat} {f pn : Nat → Int32} : f_X7_carryOrder k f 100 pn (Int32.ofNat 1) = f_X6_sendLorry k f (pn 0) := by
  rw [f_X7_carryOrder, f_X3_kind, zb1_some, if_neg (by decide), if_pos rfl, s_number10, zb1_some, zb2_eta]
theorem md_g {k : Nat} {ms so : Nat → Int32} {a b c d : Int32} : f_X8_does k ms so 103 a b c d = f_X8_gives k ms so a b := by
  rw [f_X8_does, if_neg (by decide), if_neg (by decide), if_neg (by decide), if_neg (by decide), if_pos rfl, zb3_eta]
theorem sd_g {k : Nat} {f pn : Nat → Int32} : f_X7_carryOrder k f 103 pn (Int32.ofNat 2) = f_X6_giveBlock k f (pn 0) (pn 1) := by
  rw [f_X7_carryOrder, f_X3_kind, zb1_some, if_neg (by decide), if_neg (by decide), if_neg (by decide), if_neg (by decide), if_pos rfl, s_number20, zb1_some, s_number21, zb1_some, zb2_eta]
theorem md_l {k : Nat} {ms so : Nat → Int32} {a b c d : Int32} : f_X8_does k ms so 108 a b c d = zb2 (f_X8_loads k ms a b c) (fun v m => some (v, m, so)) := by
  rw [f_X8_does, if_neg (by decide), if_neg (by decide), if_neg (by decide), if_neg (by decide), if_neg (by decide), if_neg (by decide), if_neg (by decide), if_neg (by decide), if_neg (by decide), if_pos rfl]
theorem sd_l {k : Nat} {f pn : Nat → Int32} : f_X7_carryOrder k f 108 pn (Int32.ofNat 3) = f_X6_loadBlock k f (pn 0) (pn 1) (pn 2) := by
  rw [f_X7_carryOrder, f_X3_kind, zb1_some, if_neg (by decide), if_neg (by decide), if_neg (by decide), if_neg (by decide), if_neg (by decide), if_neg (by decide), if_neg (by decide), if_neg (by decide), if_neg (by decide), if_pos rfl, s_number30, zb1_some, s_number31, zb1_some, s_number32, zb1_some, zb2_eta]
theorem md_n {k : Nat} {ms so : Nat → Int32} {a b c d : Int32} : f_X8_does k ms so 110 a b c d = zb2 (f_X8_nights k ms a) (fun v m => some (v, m, so)) := by
  rw [f_X8_does, if_neg (by decide), if_neg (by decide), if_neg (by decide), if_neg (by decide), if_neg (by decide), if_neg (by decide), if_neg (by decide), if_neg (by decide), if_neg (by decide), if_neg (by decide), if_neg (by decide), if_pos rfl]
theorem sd_n {k : Nat} {f pn : Nat → Int32} : f_X7_carryOrder k f 110 pn (Int32.ofNat 1) = f_X6_passNight k f (pn 0) := by
  rw [f_X7_carryOrder, f_X3_kind, zb1_some, if_neg (by decide), if_neg (by decide), if_neg (by decide), if_neg (by decide), if_neg (by decide), if_neg (by decide), if_neg (by decide), if_neg (by decide), if_neg (by decide), if_neg (by decide), if_neg (by decide), if_pos rfl, s_number10, zb1_some, zb2_eta]
theorem md_o {k : Nat} {ms so : Nat → Int32} {a b c d : Int32} : f_X8_does k ms so 111 a b c d = f_X8_orders k ms so a b c := by
  rw [f_X8_does, if_neg (by decide), if_neg (by decide), if_neg (by decide), if_neg (by decide), if_neg (by decide), if_neg (by decide), if_neg (by decide), if_neg (by decide), if_neg (by decide), if_neg (by decide), if_neg (by decide), if_neg (by decide), if_pos rfl, zb3_eta]
theorem sd_o {k : Nat} {f pn : Nat → Int32} : f_X7_carryOrder k f 111 pn (Int32.ofNat 3) = f_X6_takeOrder k f (pn 0) (pn 1) (pn 2) := by
  rw [f_X7_carryOrder, f_X3_kind, zb1_some, if_neg (by decide), if_neg (by decide), if_neg (by decide), if_neg (by decide), if_neg (by decide), if_neg (by decide), if_neg (by decide), if_neg (by decide), if_neg (by decide), if_neg (by decide), if_neg (by decide), if_neg (by decide), if_pos rfl, s_number30, zb1_some, s_number31, zb1_some, s_number32, zb1_some, zb2_eta]
theorem md_q {k : Nat} {ms so : Nat → Int32} {a b c d : Int32} : f_X8_does k ms so 113 a b c d = zb2 (f_X8_quarries k ms a b c d) (fun v m => some (v, m, so)) := by
  rw [f_X8_does, if_neg (by decide), if_neg (by decide), if_neg (by decide), if_neg (by decide), if_neg (by decide), if_neg (by decide), if_neg (by decide), if_neg (by decide), if_neg (by decide), if_neg (by decide), if_neg (by decide), if_neg (by decide), if_neg (by decide), if_neg (by decide), if_pos rfl]
theorem sd_q {k : Nat} {f pn : Nat → Int32} : f_X7_carryOrder k f 113 pn (Int32.ofNat 4) = f_X6_quarryBlock k f (pn 0) (pn 1) (pn 2) (pn 3) := by
  rw [f_X7_carryOrder, f_X3_kind, zb1_some, if_neg (by decide), if_neg (by decide), if_neg (by decide), if_neg (by decide), if_neg (by decide), if_neg (by decide), if_neg (by decide), if_neg (by decide), if_neg (by decide), if_neg (by decide), if_neg (by decide), if_neg (by decide), if_neg (by decide), if_neg (by decide), if_pos rfl, s_number40, zb1_some, s_number41, zb1_some, s_number42, zb1_some, s_number43, zb1_some, zb2_eta]
def zct (x : Nat) : Nat := if x = 113 then 4 else if x = 99 then 3 else if x = 111 then 3 else if x = 103 then 2 else if x = 108 then 3 else 1
def isL (x : Nat) : Prop := x = 113 ∨ x = 99 ∨ x = 111 ∨ x = 103 ∨ x = 108 ∨ x = 110 ∨ x = 100
theorem stp_does {k x B O : Nat} {f ms so pn : Nat → Int32} {a b c d : Int32} (R : Rel f ms B O) (hk : 25 ≤ k) (hx : isL x) (h1 : a = pn 0) (h2 : 2 ≤ zct x → b = pn 1) (h3 : 3 ≤ zct x → c = pn 2) (h4 : 4 ≤ zct x → d = pn 3) :
    StepD f ms (f_X7_carryOrder k f (Int32.ofNat x) pn (Int32.ofNat (zct x))) (f_X8_does k ms so (Int32.ofNat x) a b c d) := by
  subst h1
  rcases hx with rfl | rfl | rfl | rfl | rfl | rfl | rfl
  · show StepD f ms (f_X7_carryOrder k f 113 pn (Int32.ofNat 4)) (f_X8_does k ms so 113 (pn 0) b c d)
    rw [h2 (by decide)]
    rw [h3 (by decide)]
    rw [h4 (by decide)]
    rw [sd_q, md_q]
    exact (stp_quarry R hk _ _ _ _).d
  · show StepD f ms (f_X7_carryOrder k f 99 pn (Int32.ofNat 3)) (f_X8_does k ms so 99 (pn 0) b c d)
    rw [h2 (by decide)]
    rw [h3 (by decide)]
    rw [sd_c, md_c]
    exact (stp_cut R hk _ _ _).d
  · show StepD f ms (f_X7_carryOrder k f 111 pn (Int32.ofNat 3)) (f_X8_does k ms so 111 (pn 0) b c d)
    rw [h2 (by decide)]
    rw [h3 (by decide)]
    rw [sd_o, md_o]
    exact stp_order R hk _ _ _
  · show StepD f ms (f_X7_carryOrder k f 103 pn (Int32.ofNat 2)) (f_X8_does k ms so 103 (pn 0) b c d)
    rw [h2 (by decide)]
    rw [sd_g, md_g]
    exact stp_give R hk _ _
  · show StepD f ms (f_X7_carryOrder k f 108 pn (Int32.ofNat 3)) (f_X8_does k ms so 108 (pn 0) b c d)
    rw [h2 (by decide)]
    rw [h3 (by decide)]
    rw [sd_l, md_l]
    exact (stp_load R hk _ _ _).d
  · show StepD f ms (f_X7_carryOrder k f 110 pn (Int32.ofNat 1)) (f_X8_does k ms so 110 (pn 0) b c d)
    rw [sd_n, md_n]
    exact (stp_night R hk _).d
  · show StepD f ms (f_X7_carryOrder k f 100 pn (Int32.ofNat 1)) (f_X8_does k ms so 100 (pn 0) b c d)
    rw [sd_d, md_d]
    exact (stp_leave R hk _).d
