/-! THE LAW'S LOOP (wip/whole/gen_law.py) -/
theorem o_sld {p : Program} {l : Launch} {e : Env} {R : Room} {s : State} {m : MethodId} {args : Array Value} {below : List Frame} {meth : Method} {c : Code} {H : Heap} {locs : List Loc} {cells slots : Nat} {Q : State → Prop} {cc : ByteArray} {pc : Nat} {ls : Array Slot} {rest : List Value} {A : Nat → Prop} {H0 : Heap} {ρ : Type} {r : ρ} {K : Int32 → Option ρ} (hexec : p.tables.exec = Jvm.exec) (hb : c.code = cc) {b L : Nat} {xs : Nat → Int32} (hX : va_X b L xs s H0) (hbl : b < H0.size) (hbA : ¬ A b) (hS : va_S A H0 H locs) {i : Int32} (h : zg (zin i L) (zl (xs i.toNatClampNeg) K) = some r) (hdg : decode cc pc = .ok (.iaload, 1))
    (kk : ∀ v : Int32, K v = some r → W p l e R s m args below meth c H locs cells slots Q (F0 m (pc + 1) ls (.int v :: rest))) : W p l e R s m args below meth c H locs cells slots Q (F0 m pc ls (.int i :: .ref b :: rest)) :=
  va_sld hexec hb hX hbl hbA hS (zin_s (zg_s h).1) hdg (kk _ (zg_s h).2)
def zb10 {α0 α1 α2 α3 α4 α5 α6 α7 α8 α9 ρ : Type} (o : Option (α0 × α1 × α2 × α3 × α4 × α5 × α6 × α7 × α8 × α9)) (k : α0 → α1 → α2 → α3 → α4 → α5 → α6 → α7 → α8 → α9 → Option ρ) : Option ρ := match o with
  | some (v0, v1, v2, v3, v4, v5, v6, v7, v8, v9) => k v0 v1 v2 v3 v4 v5 v6 v7 v8 v9
  | none => none
theorem zb10_s {α0 α1 α2 α3 α4 α5 α6 α7 α8 α9 ρ : Type} {o : Option (α0 × α1 × α2 × α3 × α4 × α5 × α6 × α7 × α8 × α9)} {k : α0 → α1 → α2 → α3 → α4 → α5 → α6 → α7 → α8 → α9 → Option ρ} {r : ρ} (h : zb10 o k = some r) : ∃ v0 v1 v2 v3 v4 v5 v6 v7 v8 v9, o = some (v0, v1, v2, v3, v4, v5, v6, v7, v8, v9) ∧ k v0 v1 v2 v3 v4 v5 v6 v7 v8 v9 = some r := by
  cases o with
  | none => cases h
  | some q => exact ⟨q.1, q.2.1, q.2.2.1, q.2.2.2.1, q.2.2.2.2.1, q.2.2.2.2.2.1, q.2.2.2.2.2.2.1, q.2.2.2.2.2.2.2.1, q.2.2.2.2.2.2.2.2.1, q.2.2.2.2.2.2.2.2.2, rfl, h⟩
def zb11 {α0 α1 α2 α3 α4 α5 α6 α7 α8 α9 α10 ρ : Type} (o : Option (α0 × α1 × α2 × α3 × α4 × α5 × α6 × α7 × α8 × α9 × α10)) (k : α0 → α1 → α2 → α3 → α4 → α5 → α6 → α7 → α8 → α9 → α10 → Option ρ) : Option ρ := match o with
  | some (v0, v1, v2, v3, v4, v5, v6, v7, v8, v9, v10) => k v0 v1 v2 v3 v4 v5 v6 v7 v8 v9 v10
  | none => none
theorem zb11_s {α0 α1 α2 α3 α4 α5 α6 α7 α8 α9 α10 ρ : Type} {o : Option (α0 × α1 × α2 × α3 × α4 × α5 × α6 × α7 × α8 × α9 × α10)} {k : α0 → α1 → α2 → α3 → α4 → α5 → α6 → α7 → α8 → α9 → α10 → Option ρ} {r : ρ} (h : zb11 o k = some r) : ∃ v0 v1 v2 v3 v4 v5 v6 v7 v8 v9 v10, o = some (v0, v1, v2, v3, v4, v5, v6, v7, v8, v9, v10) ∧ k v0 v1 v2 v3 v4 v5 v6 v7 v8 v9 v10 = some r := by
  cases o with
  | none => cases h
  | some q => exact ⟨q.1, q.2.1, q.2.2.1, q.2.2.2.1, q.2.2.2.2.1, q.2.2.2.2.2.1, q.2.2.2.2.2.2.1, q.2.2.2.2.2.2.2.1, q.2.2.2.2.2.2.2.2.1, q.2.2.2.2.2.2.2.2.2.1, q.2.2.2.2.2.2.2.2.2.2, rfl, h⟩
def f_L_law_b18 (k : Nat) (L : Nat) (xs : Nat → Int32)  : Nat → (Nat → Int32) → (Nat → Nat → Int32) → Int32 → Int32 → (Nat → Nat → Int32) → (Nat → Int32) → (Nat → Int32) → Int32 → Int32 → Int32 → (Nat → Int32) → Int32 → Int32 → (Nat → Int32) → (Nat → Int32) → (Nat → Int32) → Int32 → (Nat → Int32) → (Nat → Int32) → (Nat → Int32) → Int32 → (Nat → Int32) → Int32 → Int32 → (Nat → Int32) → Int32 → Option (Int32)
  | 0, _, _, _, _, _, _, _, _, _, _, _, _, _, _, _, _, _, _, _, _, _, _, _, _, _, _ => none
  | n + 1, f_, g_, nx_, hz_, sw_, fl_, sg_, pl_, pa_, pk_, pn_, pf_, pg_, ms_, ah_, hi_, kp_, sl_, sv_, pd_, ln_, so_, po_, wr_, to_, x3 =>
    zl (Int32.ofNat L - (5 : Int32)) fun v1 =>
    if v1 < x3 then
      some (1 : Int32)
    else
      zg (zin x3 L) (zl (xs x3.toNatClampNeg) fun v2 =>
      zl (v2 &&& (31 : Int32)) fun v3 =>
      if v3 = (0 : Int32) then
        zl (x3 + (1 : Int32)) fun v4 =>
        zg (zin v4 L) (zl (xs v4.toNatClampNeg) fun v5 =>
        zl (x3 + (2 : Int32)) fun v6 =>
        zg (zin v6 L) (zl (xs v6.toNatClampNeg) fun v7 =>
        zb5 (f_X7_set k f_ g_ nx_ hz_ v5 v7) fun v8 f9 g10 nx11 hz12 =>
        zl (x3 + (1 : Int32)) fun v13 =>
        zg (zin v13 L) (zl (xs v13.toNatClampNeg) fun v14 =>
        zl (x3 + (2 : Int32)) fun v15 =>
        zg (zin v15 L) (zl (xs v15.toNatClampNeg) fun v16 =>
        zb5 (f_X8_set k ms_ ah_ hi_ kp_ v14 v16) fun v17 ms18 ah19 hi20 kp21 =>
        if v8 = v17 then
          zl (x3 + (5 : Int32)) fun v22 =>
          f_L_law_b18 k L xs n f9 g10 nx11 hz12 sw_ fl_ sg_ pl_ pa_ pk_ pn_ pf_ pg_ ms18 ah19 hi20 kp21 sl_ sv_ pd_ ln_ so_ po_ wr_ to_ v22
        else
          some (0 : Int32)))))
      else
      if v3 = (1 : Int32) then
        zl (x3 + (1 : Int32)) fun v23 =>
        zg (zin v23 L) (zl (xs v23.toNatClampNeg) fun v24 =>
        zl (x3 + (2 : Int32)) fun v25 =>
        zg (zin v25 L) (zl (xs v25.toNatClampNeg) fun v26 =>
        zl (x3 + (3 : Int32)) fun v27 =>
        zg (zin v27 L) (zl (xs v27.toNatClampNeg) fun v28 =>
        zl (x3 + (4 : Int32)) fun v29 =>
        zg (zin v29 L) (zl (xs v29.toNatClampNeg) fun v30 =>
        zb5 (f_X7_quarry k f_ g_ nx_ hz_ v24 v26 v28 v30) fun v31 f32 g33 nx34 hz35 =>
        zl (x3 + (1 : Int32)) fun v36 =>
        zg (zin v36 L) (zl (xs v36.toNatClampNeg) fun v37 =>
        zl (x3 + (2 : Int32)) fun v38 =>
        zg (zin v38 L) (zl (xs v38.toNatClampNeg) fun v39 =>
        zl (x3 + (3 : Int32)) fun v40 =>
        zg (zin v40 L) (zl (xs v40.toNatClampNeg) fun v41 =>
        zl (x3 + (4 : Int32)) fun v42 =>
        zg (zin v42 L) (zl (xs v42.toNatClampNeg) fun v43 =>
        zb6 (f_X8_quarry k ms_ ah_ hi_ kp_ so_ v37 v39 v41 v43) fun v44 ms45 ah46 hi47 kp48 so49 =>
        if v31 = v44 then
          zl (x3 + (5 : Int32)) fun v50 =>
          f_L_law_b18 k L xs n f32 g33 nx34 hz35 sw_ fl_ sg_ pl_ pa_ pk_ pn_ pf_ pg_ ms45 ah46 hi47 kp48 sl_ sv_ pd_ ln_ so49 po_ wr_ to_ v50
        else
          some (0 : Int32)))))))))
      else
      if v3 = (2 : Int32) then
        zl (x3 + (1 : Int32)) fun v51 =>
        zg (zin v51 L) (zl (xs v51.toNatClampNeg) fun v52 =>
        zl (x3 + (2 : Int32)) fun v53 =>
        zg (zin v53 L) (zl (xs v53.toNatClampNeg) fun v54 =>
        zl (x3 + (3 : Int32)) fun v55 =>
        zg (zin v55 L) (zl (xs v55.toNatClampNeg) fun v56 =>
        zb5 (f_X7_cut k f_ g_ nx_ hz_ v52 v54 v56) fun v57 f58 g59 nx60 hz61 =>
        zl (x3 + (1 : Int32)) fun v62 =>
        zg (zin v62 L) (zl (xs v62.toNatClampNeg) fun v63 =>
        zl (x3 + (2 : Int32)) fun v64 =>
        zg (zin v64 L) (zl (xs v64.toNatClampNeg) fun v65 =>
        zl (x3 + (3 : Int32)) fun v66 =>
        zg (zin v66 L) (zl (xs v66.toNatClampNeg) fun v67 =>
        zb6 (f_X8_cut k ms_ ah_ hi_ kp_ so_ v63 v65 v67) fun v68 ms69 ah70 hi71 kp72 so73 =>
        if v57 = v68 then
          zl (x3 + (5 : Int32)) fun v74 =>
          f_L_law_b18 k L xs n f58 g59 nx60 hz61 sw_ fl_ sg_ pl_ pa_ pk_ pn_ pf_ pg_ ms69 ah70 hi71 kp72 sl_ sv_ pd_ ln_ so73 po_ wr_ to_ v74
        else
          some (0 : Int32)))))))
      else
      if v3 = (3 : Int32) then
        zl (x3 + (1 : Int32)) fun v75 =>
        zg (zin v75 L) (zl (xs v75.toNatClampNeg) fun v76 =>
        zb5 (f_X7_shelter k f_ g_ nx_ hz_ v76) fun v77 f78 g79 nx80 hz81 =>
        zl (x3 + (1 : Int32)) fun v82 =>
        zg (zin v82 L) (zl (xs v82.toNatClampNeg) fun v83 =>
        zb5 (f_X8_shelter k ms_ ah_ hi_ kp_ v83) fun v84 ms85 ah86 hi87 kp88 =>
        if v77 = v84 then
          zl (x3 + (5 : Int32)) fun v89 =>
          f_L_law_b18 k L xs n f78 g79 nx80 hz81 sw_ fl_ sg_ pl_ pa_ pk_ pn_ pf_ pg_ ms85 ah86 hi87 kp88 sl_ sv_ pd_ ln_ so_ po_ wr_ to_ v89
        else
          some (0 : Int32)))
      else
      if v3 = (4 : Int32) then
        zl (x3 + (1 : Int32)) fun v90 =>
        zg (zin v90 L) (zl (xs v90.toNatClampNeg) fun v91 =>
        zl (x3 + (2 : Int32)) fun v92 =>
        zg (zin v92 L) (zl (xs v92.toNatClampNeg) fun v93 =>
        zl (x3 + (3 : Int32)) fun v94 =>
        zg (zin v94 L) (zl (xs v94.toNatClampNeg) fun v95 =>
        zb5 (f_X7_order k f_ g_ nx_ hz_ v91 v93 v95) fun v96 f97 g98 nx99 hz100 =>
        zl (x3 + (1 : Int32)) fun v101 =>
        zg (zin v101 L) (zl (xs v101.toNatClampNeg) fun v102 =>
        zl (x3 + (2 : Int32)) fun v103 =>
        zg (zin v103 L) (zl (xs v103.toNatClampNeg) fun v104 =>
        zl (x3 + (3 : Int32)) fun v105 =>
        zg (zin v105 L) (zl (xs v105.toNatClampNeg) fun v106 =>
        zb6 (f_X8_order k ms_ ah_ hi_ kp_ so_ v102 v104 v106) fun v107 ms108 ah109 hi110 kp111 so112 =>
        if v96 = v107 then
          zl (x3 + (5 : Int32)) fun v113 =>
          f_L_law_b18 k L xs n f97 g98 nx99 hz100 sw_ fl_ sg_ pl_ pa_ pk_ pn_ pf_ pg_ ms108 ah109 hi110 kp111 sl_ sv_ pd_ ln_ so112 po_ wr_ to_ v113
        else
          some (0 : Int32)))))))
      else
      if v3 = (5 : Int32) then
        zl (x3 + (1 : Int32)) fun v114 =>
        zg (zin v114 L) (zl (xs v114.toNatClampNeg) fun v115 =>
        zl (x3 + (2 : Int32)) fun v116 =>
        zg (zin v116 L) (zl (xs v116.toNatClampNeg) fun v117 =>
        zb5 (f_X7_give k f_ g_ nx_ hz_ v115 v117) fun v118 f119 g120 nx121 hz122 =>
        zl (x3 + (1 : Int32)) fun v123 =>
        zg (zin v123 L) (zl (xs v123.toNatClampNeg) fun v124 =>
        zl (x3 + (2 : Int32)) fun v125 =>
        zg (zin v125 L) (zl (xs v125.toNatClampNeg) fun v126 =>
        zb6 (f_X8_give k ms_ ah_ hi_ kp_ so_ v124 v126) fun v127 ms128 ah129 hi130 kp131 so132 =>
        if v118 = v127 then
          zl (x3 + (5 : Int32)) fun v133 =>
          f_L_law_b18 k L xs n f119 g120 nx121 hz122 sw_ fl_ sg_ pl_ pa_ pk_ pn_ pf_ pg_ ms128 ah129 hi130 kp131 sl_ sv_ pd_ ln_ so132 po_ wr_ to_ v133
        else
          some (0 : Int32)))))
      else
      if v3 = (6 : Int32) then
        zl (x3 + (1 : Int32)) fun v134 =>
        zg (zin v134 L) (zl (xs v134.toNatClampNeg) fun v135 =>
        zb5 (f_X7_takeBack k f_ g_ nx_ hz_ v135) fun v136 f137 g138 nx139 hz140 =>
        zl (x3 + (1 : Int32)) fun v141 =>
        zg (zin v141 L) (zl (xs v141.toNatClampNeg) fun v142 =>
        zb5 (f_X8_takeBack k ms_ ah_ hi_ kp_ v142) fun v143 ms144 ah145 hi146 kp147 =>
        if v136 = v143 then
          zl (x3 + (5 : Int32)) fun v148 =>
          f_L_law_b18 k L xs n f137 g138 nx139 hz140 sw_ fl_ sg_ pl_ pa_ pk_ pn_ pf_ pg_ ms144 ah145 hi146 kp147 sl_ sv_ pd_ ln_ so_ po_ wr_ to_ v148
        else
          some (0 : Int32)))
      else
      if v3 = (7 : Int32) then
        zl (x3 + (1 : Int32)) fun v149 =>
        zg (zin v149 L) (zl (xs v149.toNatClampNeg) fun v150 =>
        zl (x3 + (2 : Int32)) fun v151 =>
        zg (zin v151 L) (zl (xs v151.toNatClampNeg) fun v152 =>
        zl (x3 + (3 : Int32)) fun v153 =>
        zg (zin v153 L) (zl (xs v153.toNatClampNeg) fun v154 =>
        zl (x3 + (4 : Int32)) fun v155 =>
        zg (zin v155 L) (zl (xs v155.toNatClampNeg) fun v156 =>
        zb5 (f_X7_limits k f_ g_ nx_ hz_ v150 v152 v154 v156) fun v157 f158 g159 nx160 hz161 =>
        zl (x3 + (1 : Int32)) fun v162 =>
        zg (zin v162 L) (zl (xs v162.toNatClampNeg) fun v163 =>
        zl (x3 + (2 : Int32)) fun v164 =>
        zg (zin v164 L) (zl (xs v164.toNatClampNeg) fun v165 =>
        zl (x3 + (3 : Int32)) fun v166 =>
        zg (zin v166 L) (zl (xs v166.toNatClampNeg) fun v167 =>
        zl (x3 + (4 : Int32)) fun v168 =>
        zg (zin v168 L) (zl (xs v168.toNatClampNeg) fun v169 =>
        zb5 (f_X8_limits k ms_ ah_ hi_ kp_ v163 v165 v167 v169) fun v170 ms171 ah172 hi173 kp174 =>
        if v157 = v170 then
          zl (x3 + (5 : Int32)) fun v175 =>
          f_L_law_b18 k L xs n f158 g159 nx160 hz161 sw_ fl_ sg_ pl_ pa_ pk_ pn_ pf_ pg_ ms171 ah172 hi173 kp174 sl_ sv_ pd_ ln_ so_ po_ wr_ to_ v175
        else
          some (0 : Int32)))))))))
      else
      if v3 = (8 : Int32) then
        zl (x3 + (1 : Int32)) fun v176 =>
        zg (zin v176 L) (zl (xs v176.toNatClampNeg) fun v177 =>
        zl (x3 + (2 : Int32)) fun v178 =>
        zg (zin v178 L) (zl (xs v178.toNatClampNeg) fun v179 =>
        zl (x3 + (3 : Int32)) fun v180 =>
        zg (zin v180 L) (zl (xs v180.toNatClampNeg) fun v181 =>
        zb5 (f_X7_load k f_ g_ nx_ hz_ v177 v179 v181) fun v182 f183 g184 nx185 hz186 =>
        zl (x3 + (1 : Int32)) fun v187 =>
        zg (zin v187 L) (zl (xs v187.toNatClampNeg) fun v188 =>
        zl (x3 + (2 : Int32)) fun v189 =>
        zg (zin v189 L) (zl (xs v189.toNatClampNeg) fun v190 =>
        zl (x3 + (3 : Int32)) fun v191 =>
        zg (zin v191 L) (zl (xs v191.toNatClampNeg) fun v192 =>
        zb6 (f_X8_load k ms_ ah_ hi_ kp_ so_ v188 v190 v192) fun v193 ms194 ah195 hi196 kp197 so198 =>
        if v182 = v193 then
          zl (x3 + (5 : Int32)) fun v199 =>
          f_L_law_b18 k L xs n f183 g184 nx185 hz186 sw_ fl_ sg_ pl_ pa_ pk_ pn_ pf_ pg_ ms194 ah195 hi196 kp197 sl_ sv_ pd_ ln_ so198 po_ wr_ to_ v199
        else
          some (0 : Int32)))))))
      else
      if v3 = (9 : Int32) then
        zl (x3 + (1 : Int32)) fun v200 =>
        zg (zin v200 L) (zl (xs v200.toNatClampNeg) fun v201 =>
        zb5 (f_X7_unload k f_ g_ nx_ hz_ v201) fun v202 f203 g204 nx205 hz206 =>
        zl (x3 + (1 : Int32)) fun v207 =>
        zg (zin v207 L) (zl (xs v207.toNatClampNeg) fun v208 =>
        zb5 (f_X8_unload k ms_ ah_ hi_ kp_ v208) fun v209 ms210 ah211 hi212 kp213 =>
        if v202 = v209 then
          zl (x3 + (5 : Int32)) fun v214 =>
          f_L_law_b18 k L xs n f203 g204 nx205 hz206 sw_ fl_ sg_ pl_ pa_ pk_ pn_ pf_ pg_ ms210 ah211 hi212 kp213 sl_ sv_ pd_ ln_ so_ po_ wr_ to_ v214
        else
          some (0 : Int32)))
      else
      if v3 = (10 : Int32) then
        zl (x3 + (1 : Int32)) fun v215 =>
        zg (zin v215 L) (zl (xs v215.toNatClampNeg) fun v216 =>
        zb5 (f_X7_leave k f_ g_ nx_ hz_ v216) fun v217 f218 g219 nx220 hz221 =>
        zl (x3 + (1 : Int32)) fun v222 =>
        zg (zin v222 L) (zl (xs v222.toNatClampNeg) fun v223 =>
        zb6 (f_X8_leave k ms_ ah_ hi_ kp_ so_ v223) fun v224 ms225 ah226 hi227 kp228 so229 =>
        if v217 = v224 then
          zl (x3 + (5 : Int32)) fun v230 =>
          f_L_law_b18 k L xs n f218 g219 nx220 hz221 sw_ fl_ sg_ pl_ pa_ pk_ pn_ pf_ pg_ ms225 ah226 hi227 kp228 sl_ sv_ pd_ ln_ so229 po_ wr_ to_ v230
        else
          some (0 : Int32)))
      else
      if v3 = (11 : Int32) then
        zl (x3 + (1 : Int32)) fun v231 =>
        zg (zin v231 L) (zl (xs v231.toNatClampNeg) fun v232 =>
        zb5 (f_X7_night k f_ g_ nx_ hz_ v232) fun v233 f234 g235 nx236 hz237 =>
        zl (x3 + (1 : Int32)) fun v238 =>
        zg (zin v238 L) (zl (xs v238.toNatClampNeg) fun v239 =>
        zb6 (f_X8_night k ms_ ah_ hi_ kp_ so_ v239) fun v240 ms241 ah242 hi243 kp244 so245 =>
        if v233 = v240 then
          zl (x3 + (5 : Int32)) fun v246 =>
          f_L_law_b18 k L xs n f234 g235 nx236 hz237 sw_ fl_ sg_ pl_ pa_ pk_ pn_ pf_ pg_ ms241 ah242 hi243 kp244 sl_ sv_ pd_ ln_ so245 po_ wr_ to_ v246
        else
          some (0 : Int32)))
      else
      if v3 = (12 : Int32) then
        zl (x3 + (1 : Int32)) fun v247 =>
        zg (zin v247 L) (zl (xs v247.toNatClampNeg) fun v248 =>
        zl (x3 + (2 : Int32)) fun v249 =>
        zg (zin v249 L) (zl (xs v249.toNatClampNeg) fun v250 =>
        zb1 (f_X7_of k f_ v248 v250) fun v251 =>
        zl (x3 + (1 : Int32)) fun v252 =>
        zg (zin v252 L) (zl (xs v252.toNatClampNeg) fun v253 =>
        zl (x3 + (2 : Int32)) fun v254 =>
        zg (zin v254 L) (zl (xs v254.toNatClampNeg) fun v255 =>
        zb1 (f_X8_of k ms_ v253 v255) fun v256 =>
        if v251 = v256 then
          zl (x3 + (5 : Int32)) fun v257 =>
          f_L_law_b18 k L xs n f_ g_ nx_ hz_ sw_ fl_ sg_ pl_ pa_ pk_ pn_ pf_ pg_ ms_ ah_ hi_ kp_ sl_ sv_ pd_ ln_ so_ po_ wr_ to_ v257
        else
          some (0 : Int32)))))
      else
      if v3 = (13 : Int32) then
        zl (x3 + (1 : Int32)) fun v258 =>
        zg (zin v258 L) (zl (xs v258.toNatClampNeg) fun v259 =>
        zl (x3 + (2 : Int32)) fun v260 =>
        zg (zin v260 L) (zl (xs v260.toNatClampNeg) fun v261 =>
        zb1 (f_X7_ofOrder k f_ v259 v261) fun v262 =>
        zl (x3 + (1 : Int32)) fun v263 =>
        zg (zin v263 L) (zl (xs v263.toNatClampNeg) fun v264 =>
        zl (x3 + (2 : Int32)) fun v265 =>
        zg (zin v265 L) (zl (xs v265.toNatClampNeg) fun v266 =>
        zb2 (f_X8_ofOrder k ms_ so_ v264 v266) fun v267 so268 =>
        if v262 = v267 then
          zl (x3 + (5 : Int32)) fun v269 =>
          f_L_law_b18 k L xs n f_ g_ nx_ hz_ sw_ fl_ sg_ pl_ pa_ pk_ pn_ pf_ pg_ ms_ ah_ hi_ kp_ sl_ sv_ pd_ ln_ so268 po_ wr_ to_ v269
        else
          some (0 : Int32)))))
      else
      if v3 = (14 : Int32) then
        zl (x3 + (1 : Int32)) fun v270 =>
        zg (zin v270 L) (zl (xs v270.toNatClampNeg) fun v271 =>
        zl (x3 + (2 : Int32)) fun v272 =>
        zg (zin v272 L) (zl (xs v272.toNatClampNeg) fun v273 =>
        zb1 (f_X7_ofLorry k f_ v271 v273) fun v274 =>
        zl (x3 + (1 : Int32)) fun v275 =>
        zg (zin v275 L) (zl (xs v275.toNatClampNeg) fun v276 =>
        zl (x3 + (2 : Int32)) fun v277 =>
        zg (zin v277 L) (zl (xs v277.toNatClampNeg) fun v278 =>
        zb1 (f_X8_ofLorry k ms_ v276 v278) fun v279 =>
        if v274 = v279 then
          zl (x3 + (5 : Int32)) fun v280 =>
          f_L_law_b18 k L xs n f_ g_ nx_ hz_ sw_ fl_ sg_ pl_ pa_ pk_ pn_ pf_ pg_ ms_ ah_ hi_ kp_ sl_ sv_ pd_ ln_ so_ po_ wr_ to_ v280
        else
          some (0 : Int32)))))
      else
      if v3 = (15 : Int32) then
        zl (x3 + (1 : Int32)) fun v281 =>
        zg (zin v281 L) (zl (xs v281.toNatClampNeg) fun v282 =>
        zb1 (f_X7_count k f_ hz_ pl_ v282) fun v283 =>
        zl (x3 + (1 : Int32)) fun v284 =>
        zg (zin v284 L) (zl (xs v284.toNatClampNeg) fun v285 =>
        zb1 (f_X8_count k ms_ kp_ ln_ v285) fun v286 =>
        if v283 = v286 then
          zl (x3 + (5 : Int32)) fun v287 =>
          f_L_law_b18 k L xs n f_ g_ nx_ hz_ sw_ fl_ sg_ pl_ pa_ pk_ pn_ pf_ pg_ ms_ ah_ hi_ kp_ sl_ sv_ pd_ ln_ so_ po_ wr_ to_ v287
        else
          some (0 : Int32)))
      else
      if v3 = (16 : Int32) then
        zb1 (f_X7_meanWeight k f_) fun v288 =>
        zb1 (f_X8_meanWeight k ms_) fun v289 =>
        zl (lg_cmp v288 v289) fun v290 =>
        if v290 = 0 then
          zl (x3 + (5 : Int32)) fun v291 =>
          f_L_law_b18 k L xs n f_ g_ nx_ hz_ sw_ fl_ sg_ pl_ pa_ pk_ pn_ pf_ pg_ ms_ ah_ hi_ kp_ sl_ sv_ pd_ ln_ so_ po_ wr_ to_ v291
        else
          some (0 : Int32)
      else
      if v3 = (17 : Int32) then
        zl (x3 + (1 : Int32)) fun v292 =>
        zg (zin v292 L) (zl (xs v292.toNatClampNeg) fun v293 =>
        zb1 (f_X7_why k f_ v293) fun v294 =>
        zl (x3 + (1 : Int32)) fun v295 =>
        zg (zin v295 L) (zl (xs v295.toNatClampNeg) fun v296 =>
        zb1 (f_X8_why k ms_ v296) fun v297 =>
        if v294 = v297 then
          zl (x3 + (5 : Int32)) fun v298 =>
          f_L_law_b18 k L xs n f_ g_ nx_ hz_ sw_ fl_ sg_ pl_ pa_ pk_ pn_ pf_ pg_ ms_ ah_ hi_ kp_ sl_ sv_ pd_ ln_ so_ po_ wr_ to_ v298
        else
          some (0 : Int32)))
      else
      if v3 = (18 : Int32) then
        zl (x3 + (1 : Int32)) fun v299 =>
        zg (zin v299 L) (zl (xs v299.toNatClampNeg) fun v300 =>
        zb1 (f_X7_bestBlock k f_ v300) fun v301 =>
        zl (x3 + (1 : Int32)) fun v302 =>
        zg (zin v302 L) (zl (xs v302.toNatClampNeg) fun v303 =>
        zb2 (f_X8_bestBlock k ms_ so_ v303) fun v304 so305 =>
        if v301 = v304 then
          zl (x3 + (5 : Int32)) fun v306 =>
          f_L_law_b18 k L xs n f_ g_ nx_ hz_ sw_ fl_ sg_ pl_ pa_ pk_ pn_ pf_ pg_ ms_ ah_ hi_ kp_ sl_ sv_ pd_ ln_ so305 po_ wr_ to_ v306
        else
          some (0 : Int32)))
      else
      if v3 = (19 : Int32) then
        zl (x3 + (1 : Int32)) fun v307 =>
        zg (zin v307 L) (zl (xs v307.toNatClampNeg) fun v308 =>
        zl (x3 + (2 : Int32)) fun v309 =>
        zg (zin v309 L) (zl (xs v309.toNatClampNeg) fun v310 =>
        zl (x3 + (3 : Int32)) fun v311 =>
        zg (zin v311 L) (zl (xs v311.toNatClampNeg) fun v312 =>
        zb1 (f_X7_fittingCut k f_ v308 v310 v312) fun v313 =>
        zl (x3 + (1 : Int32)) fun v314 =>
        zg (zin v314 L) (zl (xs v314.toNatClampNeg) fun v315 =>
        zl (x3 + (2 : Int32)) fun v316 =>
        zg (zin v316 L) (zl (xs v316.toNatClampNeg) fun v317 =>
        zl (x3 + (3 : Int32)) fun v318 =>
        zg (zin v318 L) (zl (xs v318.toNatClampNeg) fun v319 =>
        zb2 (f_X8_fittingCut k ms_ so_ v315 v317 v319) fun v320 so321 =>
        if v313 = v320 then
          zl (x3 + (5 : Int32)) fun v322 =>
          f_L_law_b18 k L xs n f_ g_ nx_ hz_ sw_ fl_ sg_ pl_ pa_ pk_ pn_ pf_ pg_ ms_ ah_ hi_ kp_ sl_ sv_ pd_ ln_ so321 po_ wr_ to_ v322
        else
          some (0 : Int32)))))))
      else
      if v3 = (20 : Int32) then
        zb1 (f_X7_ifFrost k f_) fun v323 =>
        zb1 (f_X8_ifFrost k ms_) fun v324 =>
        if v323 = v324 then
          zl (x3 + (5 : Int32)) fun v325 =>
          f_L_law_b18 k L xs n f_ g_ nx_ hz_ sw_ fl_ sg_ pl_ pa_ pk_ pn_ pf_ pg_ ms_ ah_ hi_ kp_ sl_ sv_ pd_ ln_ so_ po_ wr_ to_ v325
        else
          some (0 : Int32)
      else
      if v3 = (21 : Int32) then
        zl (x3 + (1 : Int32)) fun v326 =>
        zg (zin v326 L) (zl (xs v326.toNatClampNeg) fun v327 =>
        zl (x3 + (2 : Int32)) fun v328 =>
        zg (zin v328 L) (zl (xs v328.toNatClampNeg) fun v329 =>
        zb1 (f_X7_bestPlace k f_ v327 v329) fun v330 =>
        zl (x3 + (1 : Int32)) fun v331 =>
        zg (zin v331 L) (zl (xs v331.toNatClampNeg) fun v332 =>
        zl (x3 + (2 : Int32)) fun v333 =>
        zg (zin v333 L) (zl (xs v333.toNatClampNeg) fun v334 =>
        zb1 (f_X8_bestPlace k ms_ v332 v334) fun v335 =>
        if v330 = v335 then
          zl (x3 + (5 : Int32)) fun v336 =>
          f_L_law_b18 k L xs n f_ g_ nx_ hz_ sw_ fl_ sg_ pl_ pa_ pk_ pn_ pf_ pg_ ms_ ah_ hi_ kp_ sl_ sv_ pd_ ln_ so_ po_ wr_ to_ v336
        else
          some (0 : Int32)))))
      else
      if v3 = (22 : Int32) then
        zl (x3 + (1 : Int32)) fun v337 =>
        zg (zin v337 L) (zl (xs v337.toNatClampNeg) fun v338 =>
        zl (v338.toInt64) fun v339 =>
        zl (v339 <<< ((32 : Int32).toInt64 &&& 63)) fun v340 =>
        zl (x3 + (2 : Int32)) fun v341 =>
        zg (zin v341 L) (zl (xs v341.toNatClampNeg) fun v342 =>
        zl (v342.toInt64) fun v343 =>
        zl (v343 &&& (4294967295 : Int64)) fun v344 =>
        zl (v340 ||| v344) fun v345 =>
        zb3 (f_X7_put k sg_ pl_ v345) fun v346 sg347 pl348 =>
        zl (x3 + (1 : Int32)) fun v349 =>
        zg (zin v349 L) (zl (xs v349.toNatClampNeg) fun v350 =>
        zl (v350.toInt64) fun v351 =>
        zl (v351 <<< ((32 : Int32).toInt64 &&& 63)) fun v352 =>
        zl (x3 + (2 : Int32)) fun v353 =>
        zg (zin v353 L) (zl (xs v353.toNatClampNeg) fun v354 =>
        zl (v354.toInt64) fun v355 =>
        zl (v355 &&& (4294967295 : Int64)) fun v356 =>
        zl (v352 ||| v356) fun v357 =>
        zb3 (f_X8_put k pd_ ln_ v357) fun v358 pd359 ln360 =>
        if v346 = v358 then
          zl (x3 + (5 : Int32)) fun v361 =>
          f_L_law_b18 k L xs n f_ g_ nx_ hz_ sw_ fl_ sg347 pl348 pa_ pk_ pn_ pf_ pg_ ms_ ah_ hi_ kp_ sl_ sv_ pd359 ln360 so_ po_ wr_ to_ v361
        else
          some (0 : Int32)))))
      else
      if v3 = (23 : Int32) then
        zb2 (f_X7_wipe k pl_) fun v362 pl363 =>
        zb2 (f_X8_wipe k ln_) fun v364 ln365 =>
        if v362 = v364 then
          zl (x3 + (5 : Int32)) fun v366 =>
          f_L_law_b18 k L xs n f_ g_ nx_ hz_ sw_ fl_ sg_ pl363 pa_ pk_ pn_ pf_ pg_ ms_ ah_ hi_ kp_ sl_ sv_ pd_ ln365 so_ po_ wr_ to_ v366
        else
          some (0 : Int32)
      else
      if v3 = (24 : Int32) then
        zb6 (f_X7_fault k sg_ pl_ pa_ pk_ pn_ pf_ pg_) fun v367 pa368 pk369 pn370 pf371 pg372 =>
        zb6 (f_X8_fault k ms_ pd_ ln_ so_ po_ wr_ to_) fun v373 ms374 so375 po376 wr377 to378 =>
        if v367 = v373 then
          zl (x3 + (5 : Int32)) fun v379 =>
          f_L_law_b18 k L xs n f_ g_ nx_ hz_ sw_ fl_ sg_ pl_ pa368 pk369 pn370 pf371 pg372 ms374 ah_ hi_ kp_ sl_ sv_ pd_ ln_ so375 po376 wr377 to378 v379
        else
          some (0 : Int32)
      else
      if v3 = (25 : Int32) then
        zb11 (f_X7_carryOut k f_ g_ nx_ hz_ sg_ pl_ pa_ pk_ pn_ pf_ pg_) fun v380 f381 g382 nx383 hz384 pl385 pa386 pk387 pn388 pf389 pg390 =>
        zb10 (f_X8_carryOut k ms_ ah_ hi_ kp_ pd_ ln_ so_ po_ wr_ to_) fun v391 ms392 ah393 hi394 kp395 ln396 so397 po398 wr399 to400 =>
        if v380 = v391 then
          zl (x3 + (5 : Int32)) fun v401 =>
          f_L_law_b18 k L xs n f381 g382 nx383 hz384 sw_ fl_ sg_ pl385 pa386 pk387 pn388 pf389 pg390 ms392 ah393 hi394 kp395 sl_ sv_ pd_ ln396 so397 po398 wr399 to400 v401
        else
          some (0 : Int32)
      else
      if v3 = (26 : Int32) then
        zb4 (f_X7_undo k f_ g_ nx_ hz_) fun v402 f403 nx404 hz405 =>
        zb3 (f_X8_undo k ms_ hi_ kp_) fun v406 ms407 kp408 =>
        if v402 = v406 then
          zl (x3 + (5 : Int32)) fun v409 =>
          f_L_law_b18 k L xs n f403 g_ nx404 hz405 sw_ fl_ sg_ pl_ pa_ pk_ pn_ pf_ pg_ ms407 ah_ hi_ kp408 sl_ sv_ pd_ ln_ so_ po_ wr_ to_ v409
        else
          some (0 : Int32)
      else
      if v3 = (27 : Int32) then
        zl (x3 + (1 : Int32)) fun v410 =>
        zg (zin v410 L) (zl (xs v410.toNatClampNeg) fun v411 =>
        zb3 (f_X7_save k f_ sw_ fl_ v411) fun v412 sw413 fl414 =>
        zl (x3 + (1 : Int32)) fun v415 =>
        zg (zin v415 L) (zl (xs v415.toNatClampNeg) fun v416 =>
        zb3 (f_X8_save k ms_ sl_ sv_ v416) fun v417 sl418 sv419 =>
        if v412 = v417 then
          zl (x3 + (5 : Int32)) fun v420 =>
          f_L_law_b18 k L xs n f_ g_ nx_ hz_ sw413 fl414 sg_ pl_ pa_ pk_ pn_ pf_ pg_ ms_ ah_ hi_ kp_ sl418 sv419 pd_ ln_ so_ po_ wr_ to_ v420
        else
          some (0 : Int32)))
      else
      if v3 = (28 : Int32) then
        zl (x3 + (1 : Int32)) fun v421 =>
        zg (zin v421 L) (zl (xs v421.toNatClampNeg) fun v422 =>
        zb5 (f_X7_restore k f_ g_ nx_ hz_ sw_ fl_ v422) fun v423 f424 g425 nx426 hz427 =>
        zl (x3 + (1 : Int32)) fun v428 =>
        zg (zin v428 L) (zl (xs v428.toNatClampNeg) fun v429 =>
        zb5 (f_X8_restore k ms_ ah_ hi_ kp_ sl_ sv_ v429) fun v430 ms431 ah432 hi433 kp434 =>
        if v423 = v430 then
          zl (x3 + (5 : Int32)) fun v435 =>
          f_L_law_b18 k L xs n f424 g425 nx426 hz427 sw_ fl_ sg_ pl_ pa_ pk_ pn_ pf_ pg_ ms431 ah432 hi433 kp434 sl_ sv_ pd_ ln_ so_ po_ wr_ to_ v435
        else
          some (0 : Int32)))
      else
        zl (x3 + (5 : Int32)) fun v436 =>
        f_L_law_b18 k L xs n f_ g_ nx_ hz_ sw_ fl_ sg_ pl_ pa_ pk_ pn_ pf_ pg_ ms_ ah_ hi_ kp_ sl_ sv_ pd_ ln_ so_ po_ wr_ to_ v436)
def f_law (k : Nat) (L : Nat) (xs : Nat → Int32) (f : Nat → Int32) (g : Nat → Nat → Int32) (nx : Int32) (hz : Int32) (sw : Nat → Nat → Int32) (fl : Nat → Int32) (sg : Nat → Int32) (pl : Int32) (pa : Int32) (pk : Int32) (pn : Nat → Int32) (pf : Int32) (pg : Int32) (ms : Nat → Int32) (ah : Nat → Int32) (hi : Nat → Int32) (kp : Int32) (sl : Nat → Int32) (sv : Nat → Int32) (pd : Nat → Int32) (ln : Int32) (so : Nat → Int32) (po : Int32) (wr : Int32) (to : Nat → Int32) : Option Int32 :=
  f_L_law_b18 k L xs k f g nx hz sw fl sg pl pa pk pn pf pg ms ah hi kp sl sv pd ln so po wr to (0 : Int32)
set_option maxRecDepth 100000 in
set_option maxHeartbeats 16000000 in
theorem law_walk (l : Launch) (D : va_G) (ct a st : Nat → Nat) {p : Program} {e : Env} {s : State} {m : MethodId} {below : List Frame} {meth : Method} {c : Code} {Q : State → Prop} {A : Nat → Prop} {a0 : Cond} {b L cells slots : Nat} {xs : Nat → Int32} (f : Nat → Int32) (g : Nat → Nat → Int32) (nx : Int32) (hz : Int32) (sw : Nat → Nat → Int32) (fl : Nat → Int32) (sg : Nat → Int32) (pl : Int32) (pa : Int32) (pk : Int32) (pn : Nat → Int32) (pf : Int32) (pg : Int32) (ms : Nat → Int32) (ah : Nat → Int32) (hi : Nat → Int32) (kp : Int32) (sl : Nat → Int32) (sv : Nat → Int32) (pd : Nat → Int32) (ln : Int32) (so : Nat → Int32) (po : Int32) (wr : Int32) (to : Nat → Int32)
    (hx : p.tables.exec = Jvm.exec) (hb : c.code = cL_law) (hml : c.maxLocals = 4) (hown : s.vm.findClass RL = some m.cls) (hts : ∀ w ∈ a0 :: zT, w.before #[Value.ref b] s = true) (hK : zK D (zTys ct) s) (hZ : zZ st A s s.heap) (hA : ∀ q : Nat, s.heap.size ≤ q → A q) (hX : va_X b L xs s s.heap) (hbl : b < s.heap.size) (hbA : ¬ A b) (hcl : cells ≤ 600000) (hsl : slots ≤ 7302250)
    (kret : ∀ (H : Heap) (locs : List Loc) (ls : Array Slot), va_S A s.heap H locs → W p l e room_1 s m #[Value.ref b] below meth c H locs cells slots Q (F0 m 1009 ls [.int 1]))
    (k : Nat) (h : f_law k L xs f g nx hz sw fl sg pl pa pk pn pf pg ms ah hi kp sl sv pd ln so po wr to = some 1) {H : Heap} {locs : List Loc} (hP : va_P D vwCl ((wX7 ct a f g nx hz sw fl sg pl pa pk pn pf pg ++ wX8 ct a ms ah hi kp sl sv pd ln so po wr to)) H) (hD : va_D A ((wX7 ct a f g nx hz sw fl sg pl pa pk pn pf pg ++ wX8 ct a ms ah hi kp sl sv pd ln so po wr to))) (hS : va_S A s.heap H locs) {ls : Array Slot} (hl : lv_has ls 4 [(0, .ref b), (1, .ref (a 0)), (2, .ref (a 30))]) :
    W p l e room_1 s m #[Value.ref b] below meth c H locs cells slots Q (F0 m 16 ls []) := by
  have B18 : ∀ (n : Nat), ∀ (f_ : Nat → Int32) (g_ : Nat → Nat → Int32) (nx_ : Int32) (hz_ : Int32) (sw_ : Nat → Nat → Int32) (fl_ : Nat → Int32) (sg_ : Nat → Int32) (pl_ : Int32) (pa_ : Int32) (pk_ : Int32) (pn_ : Nat → Int32) (pf_ : Int32) (pg_ : Int32) (ms_ : Nat → Int32) (ah_ : Nat → Int32) (hi_ : Nat → Int32) (kp_ : Int32) (sl_ : Nat → Int32) (sv_ : Nat → Int32) (pd_ : Nat → Int32) (ln_ : Int32) (so_ : Nat → Int32) (po_ : Int32) (wr_ : Int32) (to_ : Nat → Int32) (x3 : Int32), f_L_law_b18 k L xs n f_ g_ nx_ hz_ sw_ fl_ sg_ pl_ pa_ pk_ pn_ pf_ pg_ ms_ ah_ hi_ kp_ sl_ sv_ pd_ ln_ so_ po_ wr_ to_ x3 = some (1 : Int32) → ∀ (H : Heap) (locs : List Loc), va_P D vwCl ((wX7 ct a f_ g_ nx_ hz_ sw_ fl_ sg_ pl_ pa_ pk_ pn_ pf_ pg_ ++ wX8 ct a ms_ ah_ hi_ kp_ sl_ sv_ pd_ ln_ so_ po_ wr_ to_)) H → va_D A ((wX7 ct a f_ g_ nx_ hz_ sw_ fl_ sg_ pl_ pa_ pk_ pn_ pf_ pg_ ++ wX8 ct a ms_ ah_ hi_ kp_ sl_ sv_ pd_ ln_ so_ po_ wr_ to_)) → va_S A s.heap H locs → ∀ (ls : Array Slot), lv_has ls 4 [(0, .ref (b)), (1, .ref (a 0)), (2, .ref (a 30)), (3, .int x3)] → W p l e room_1 s m #[Value.ref b] below meth c H locs cells slots (Q) (F0 m 18 ls []) := by
    intro n
    induction n with
    | zero => intro f_ g_ nx_ hz_ sw_ fl_ sg_ pl_ pa_ pk_ pn_ pf_ pg_ ms_ ah_ hi_ kp_ sl_ sv_ pd_ ln_ so_ po_ wr_ to_ x3 h; exact absurd h (by rw [f_L_law_b18]; exact fun q => nomatch q)
    | succ n ih18 =>
      intro f_ g_ nx_ hz_ sw_ fl_ sg_ pl_ pa_ pk_ pn_ pf_ pg_ ms_ ah_ hi_ kp_ sl_ sv_ pd_ ln_ so_ po_ wr_ to_ x3 h H locs hP hD hS ls hl
      rw [f_L_law_b18] at h
      refine lv_iload_n hx hb dL_law_18 rfl (lv_at hl 3 rfl) ?_
      refine lv_aload_n hx hb dL_law_19 rfl (lv_at hl 0 rfl) ?_
      refine va_slen hx hb hX hbl hbA hS dL_law_20 ?_
      refine lv_iconst (v := (5 : Int32)) hx hb dL_law_21 (by decide) ?_
      refine o_isub hx hb dL_law_22 h (fun v1 h => ?_)
      refine zc_gt (tgt := 1008) hx hb dL_law_23 (by decide) h (fun h => ?_) (fun h => ?_)
      · refine lv_iconst (v := (1 : Int32)) hx hb dL_law_1008 (by decide) ?_
        exact kret H locs ls hS
      · refine lv_aload_n hx hb dL_law_26 rfl (lv_at hl 0 rfl) ?_
        refine lv_iload_n hx hb dL_law_27 rfl (lv_at hl 3 rfl) ?_
        refine o_sld hx hb hX hbl hbA hS h dL_law_28 (fun v2 h => ?_)
        refine lv_bipush (v := (31 : Int32)) hx hb dL_law_29 (by decide) ?_
        refine o_iand hx hb dL_law_31 h (fun v3 h => ?_)
        refine o_sw h (fun q0 h => ?_) (fun q0 h => ?_)
        · refine lv_tableIn (off := (132 : Int)) (tgt := 164) hx hb dL_law_32 (by rw [q0]; decide) (by rw [q0]; decide) (by rw [q0]; decide) (by decide) ?_
          refine lv_aload_n hx hb dL_law_164 rfl (lv_at hl 1 rfl) ?_
          refine lv_aload_n hx hb dL_law_165 rfl (lv_at hl 0 rfl) ?_
          refine lv_iload_n hx hb dL_law_166 rfl (lv_at hl 3 rfl) ?_
          refine lv_iconst (v := (1 : Int32)) hx hb dL_law_167 (by decide) ?_
          refine o_iadd hx hb dL_law_168 h (fun v4 h => ?_)
          refine o_sld hx hb hX hbl hbA hS h dL_law_169 (fun v5 h => ?_)
          refine lv_aload_n hx hb dL_law_170 rfl (lv_at hl 0 rfl) ?_
          refine lv_iload_n hx hb dL_law_171 rfl (lv_at hl 3 rfl) ?_
          refine lv_iconst (v := (2 : Int32)) hx hb dL_law_172 (by decide) ?_
          refine o_iadd hx hb dL_law_173 h (fun v6 h => ?_)
          refine o_sld hx hb hX hbl hbA hS h dL_law_174 (fun v7 h => ?_)
          obtain ⟨v8, f9, g10, nx11, hz12, hc, h⟩ := zb5_s h
          refine zG_i (w1 := wX7 ct a f9 g10 nx11 hz12 sw_ fl_ sg_ pl_ pa_ pk_ pn_ pf_ pg_) (ws' := (wX7 ct a f9 g10 nx11 hz12 sw_ fl_ sg_ pl_ pa_ pk_ pn_ pf_ pg_ ++ wX8 ct a ms_ ah_ hi_ kp_ sl_ sv_ pd_ ln_ so_ po_ wr_ to_)) hP hD hS hA [0, 1, 2, 3, 4, 5, 6, 7, 8, 9, 10, 11, 12, 13, 14, 15, 16, 17, 18, 19, 20, 21] [22, 23, 24, 25, 26, 27, 28, 29, 30] [9, 10, 11, 12, 13, 14, 15, 16, 17, 18, 19, 20, 21, 22, 23, 24, 25, 26, 27, 28, 29, 30, 0, 1, 2, 3, 4, 5, 6, 7, 8] rfl rfl (by decide) (by decide) rfl (by decide) (zrV (C := RX7) (As := [.int v5, .int v7]) (rest := []) hx hb hml hown hts tw207 mv_X7_set ⟨Nat.le_of_ble_eq_true rfl, Nat.le_of_ble_eq_true rfl⟩ rfl rfl (ct_X7_set l D ct a st f_ g_ nx_ hz_ sw_ fl_ sg_ pl_ pa_ pk_ pn_ pf_ pg_ _ v5 v7 k v8 f9 g10 nx11 hz12 hc) (z_zv hZ hK hP hD hS hA [0, 1, 2, 3, 4, 5, 6, 7, 8, 9, 10, 11, 12, 13, 14, 15, 16, 17, 18, 19, 20, 21] (by decide) rfl 0 rfl rfl) hl.1 rfl rfl (Nat.le_of_ble_eq_true rfl) dL_law_175 ⟨hcl, hsl⟩) (fun H locs hP hD hS => ?_)
          refine lv_aload_n hx hb dL_law_178 rfl (lv_at hl 2 rfl) ?_
          refine lv_aload_n hx hb dL_law_179 rfl (lv_at hl 0 rfl) ?_
          refine lv_iload_n hx hb dL_law_180 rfl (lv_at hl 3 rfl) ?_
          refine lv_iconst (v := (1 : Int32)) hx hb dL_law_181 (by decide) ?_
          refine o_iadd hx hb dL_law_182 h (fun v13 h => ?_)
          refine o_sld hx hb hX hbl hbA hS h dL_law_183 (fun v14 h => ?_)
          refine lv_aload_n hx hb dL_law_184 rfl (lv_at hl 0 rfl) ?_
          refine lv_iload_n hx hb dL_law_185 rfl (lv_at hl 3 rfl) ?_
          refine lv_iconst (v := (2 : Int32)) hx hb dL_law_186 (by decide) ?_
          refine o_iadd hx hb dL_law_187 h (fun v15 h => ?_)
          refine o_sld hx hb hX hbl hbA hS h dL_law_188 (fun v16 h => ?_)
          obtain ⟨v17, ms18, ah19, hi20, kp21, hc, h⟩ := zb5_s h
          refine zG_i (w1 := wX8 ct a ms18 ah19 hi20 kp21 sl_ sv_ pd_ ln_ so_ po_ wr_ to_) (ws' := (wX7 ct a f9 g10 nx11 hz12 sw_ fl_ sg_ pl_ pa_ pk_ pn_ pf_ pg_ ++ wX8 ct a ms18 ah19 hi20 kp21 sl_ sv_ pd_ ln_ so_ po_ wr_ to_)) hP hD hS hA [22, 23, 24, 25, 26, 27, 28, 29, 30] [0, 1, 2, 3, 4, 5, 6, 7, 8, 9, 10, 11, 12, 13, 14, 15, 16, 17, 18, 19, 20, 21] [0, 1, 2, 3, 4, 5, 6, 7, 8, 9, 10, 11, 12, 13, 14, 15, 16, 17, 18, 19, 20, 21, 22, 23, 24, 25, 26, 27, 28, 29, 30] rfl rfl (by decide) (by decide) rfl (by decide) (zrV (C := RX8) (As := [.int v14, .int v16]) (rest := [.int v8]) hx hb hml hown hts tw832 mv_X8_set ⟨Nat.le_of_ble_eq_true rfl, Nat.le_of_ble_eq_true rfl⟩ rfl rfl (ct_X8_set l D ct a ms_ ah_ hi_ kp_ sl_ sv_ pd_ ln_ so_ po_ wr_ to_ _ v14 v16 k v17 ms18 ah19 hi20 kp21 hc) (z_wv hK hP hD [22, 23, 24, 25, 26, 27, 28, 29, 30] (by decide) rfl 22 rfl rfl) hl.1 rfl rfl (Nat.le_of_ble_eq_true rfl) dL_law_189 ⟨hcl, hsl⟩) (fun H locs hP hD hS => ?_)
          refine zc_eq (tgt := 1002) hx hb dL_law_192 (by decide) h (fun h => ?_) (fun h => ?_)
          · refine o_nm h (fun v22 ey h => ?_)
            refine lv_iinc (v := v22) (lv' := [(3, .int v22), (0, .ref (b)), (1, .ref (a 0)), (2, .ref (a 30))]) hx hb dL_law_1002 hl (k := 3) rfl (Eq.trans rfl ey) (by decide) rfl (fun ls hl => ?_)
            refine lv_goto (tgt := 18) hx hb dL_law_1005 (by decide) ?_
            exact ih18 f9 g10 nx11 hz12 sw_ fl_ sg_ pl_ pa_ pk_ pn_ pf_ pg_ ms18 ah19 hi20 kp21 sl_ sv_ pd_ ln_ so_ po_ wr_ to_ v22 h _ _ hP hD hS ls (lv_sub hl [1, 2, 3, 0] rfl)
          · refine lv_iconst (v := (0 : Int32)) hx hb dL_law_195 (by decide) ?_
            exact absurd h (by decide)
        refine o_sw h (fun q1 h => ?_) (fun q1 h => ?_)
        · refine lv_tableIn (off := (165 : Int)) (tgt := 197) hx hb dL_law_32 (by rw [q1]; decide) (by rw [q1]; decide) (by rw [q1]; decide) (by decide) ?_
          refine lv_aload_n hx hb dL_law_197 rfl (lv_at hl 1 rfl) ?_
          refine lv_aload_n hx hb dL_law_198 rfl (lv_at hl 0 rfl) ?_
          refine lv_iload_n hx hb dL_law_199 rfl (lv_at hl 3 rfl) ?_
          refine lv_iconst (v := (1 : Int32)) hx hb dL_law_200 (by decide) ?_
          refine o_iadd hx hb dL_law_201 h (fun v23 h => ?_)
          refine o_sld hx hb hX hbl hbA hS h dL_law_202 (fun v24 h => ?_)
          refine lv_aload_n hx hb dL_law_203 rfl (lv_at hl 0 rfl) ?_
          refine lv_iload_n hx hb dL_law_204 rfl (lv_at hl 3 rfl) ?_
          refine lv_iconst (v := (2 : Int32)) hx hb dL_law_205 (by decide) ?_
          refine o_iadd hx hb dL_law_206 h (fun v25 h => ?_)
          refine o_sld hx hb hX hbl hbA hS h dL_law_207 (fun v26 h => ?_)
          refine lv_aload_n hx hb dL_law_208 rfl (lv_at hl 0 rfl) ?_
          refine lv_iload_n hx hb dL_law_209 rfl (lv_at hl 3 rfl) ?_
          refine lv_iconst (v := (3 : Int32)) hx hb dL_law_210 (by decide) ?_
          refine o_iadd hx hb dL_law_211 h (fun v27 h => ?_)
          refine o_sld hx hb hX hbl hbA hS h dL_law_212 (fun v28 h => ?_)
          refine lv_aload_n hx hb dL_law_213 rfl (lv_at hl 0 rfl) ?_
          refine lv_iload_n hx hb dL_law_214 rfl (lv_at hl 3 rfl) ?_
          refine lv_iconst (v := (4 : Int32)) hx hb dL_law_215 (by decide) ?_
          refine o_iadd hx hb dL_law_216 h (fun v29 h => ?_)
          refine o_sld hx hb hX hbl hbA hS h dL_law_217 (fun v30 h => ?_)
          obtain ⟨v31, f32, g33, nx34, hz35, hc, h⟩ := zb5_s h
          refine zG_i (w1 := wX7 ct a f32 g33 nx34 hz35 sw_ fl_ sg_ pl_ pa_ pk_ pn_ pf_ pg_) (ws' := (wX7 ct a f32 g33 nx34 hz35 sw_ fl_ sg_ pl_ pa_ pk_ pn_ pf_ pg_ ++ wX8 ct a ms_ ah_ hi_ kp_ sl_ sv_ pd_ ln_ so_ po_ wr_ to_)) hP hD hS hA [0, 1, 2, 3, 4, 5, 6, 7, 8, 9, 10, 11, 12, 13, 14, 15, 16, 17, 18, 19, 20, 21] [22, 23, 24, 25, 26, 27, 28, 29, 30] [9, 10, 11, 12, 13, 14, 15, 16, 17, 18, 19, 20, 21, 22, 23, 24, 25, 26, 27, 28, 29, 30, 0, 1, 2, 3, 4, 5, 6, 7, 8] rfl rfl (by decide) (by decide) rfl (by decide) (zrV (C := RX7) (As := [.int v24, .int v26, .int v28, .int v30]) (rest := []) hx hb hml hown hts tw249 mv_X7_quarry ⟨Nat.le_of_ble_eq_true rfl, Nat.le_of_ble_eq_true rfl⟩ rfl rfl (ct_X7_quarry l D ct a f_ g_ nx_ hz_ sw_ fl_ sg_ pl_ pa_ pk_ pn_ pf_ pg_ _ v24 v26 v28 v30 k v31 f32 g33 nx34 hz35 hc) (z_wv hK hP hD [0, 1, 2, 3, 4, 5, 6, 7, 8, 9, 10, 11, 12, 13, 14, 15, 16, 17, 18, 19, 20, 21] (by decide) rfl 0 rfl rfl) hl.1 rfl rfl (Nat.le_of_ble_eq_true rfl) dL_law_218 ⟨hcl, hsl⟩) (fun H locs hP hD hS => ?_)
          refine lv_aload_n hx hb dL_law_221 rfl (lv_at hl 2 rfl) ?_
          refine lv_aload_n hx hb dL_law_222 rfl (lv_at hl 0 rfl) ?_
          refine lv_iload_n hx hb dL_law_223 rfl (lv_at hl 3 rfl) ?_
          refine lv_iconst (v := (1 : Int32)) hx hb dL_law_224 (by decide) ?_
          refine o_iadd hx hb dL_law_225 h (fun v36 h => ?_)
          refine o_sld hx hb hX hbl hbA hS h dL_law_226 (fun v37 h => ?_)
          refine lv_aload_n hx hb dL_law_227 rfl (lv_at hl 0 rfl) ?_
          refine lv_iload_n hx hb dL_law_228 rfl (lv_at hl 3 rfl) ?_
          refine lv_iconst (v := (2 : Int32)) hx hb dL_law_229 (by decide) ?_
          refine o_iadd hx hb dL_law_230 h (fun v38 h => ?_)
          refine o_sld hx hb hX hbl hbA hS h dL_law_231 (fun v39 h => ?_)
          refine lv_aload_n hx hb dL_law_232 rfl (lv_at hl 0 rfl) ?_
          refine lv_iload_n hx hb dL_law_233 rfl (lv_at hl 3 rfl) ?_
          refine lv_iconst (v := (3 : Int32)) hx hb dL_law_234 (by decide) ?_
          refine o_iadd hx hb dL_law_235 h (fun v40 h => ?_)
          refine o_sld hx hb hX hbl hbA hS h dL_law_236 (fun v41 h => ?_)
          refine lv_aload_n hx hb dL_law_237 rfl (lv_at hl 0 rfl) ?_
          refine lv_iload_n hx hb dL_law_238 rfl (lv_at hl 3 rfl) ?_
          refine lv_iconst (v := (4 : Int32)) hx hb dL_law_239 (by decide) ?_
          refine o_iadd hx hb dL_law_240 h (fun v42 h => ?_)
          refine o_sld hx hb hX hbl hbA hS h dL_law_241 (fun v43 h => ?_)
          obtain ⟨v44, ms45, ah46, hi47, kp48, so49, hc, h⟩ := zb6_s h
          refine zG_i (w1 := wX8 ct a ms45 ah46 hi47 kp48 sl_ sv_ pd_ ln_ so49 po_ wr_ to_) (ws' := (wX7 ct a f32 g33 nx34 hz35 sw_ fl_ sg_ pl_ pa_ pk_ pn_ pf_ pg_ ++ wX8 ct a ms45 ah46 hi47 kp48 sl_ sv_ pd_ ln_ so49 po_ wr_ to_)) hP hD hS hA [22, 23, 24, 25, 26, 27, 28, 29, 30] [0, 1, 2, 3, 4, 5, 6, 7, 8, 9, 10, 11, 12, 13, 14, 15, 16, 17, 18, 19, 20, 21] [0, 1, 2, 3, 4, 5, 6, 7, 8, 9, 10, 11, 12, 13, 14, 15, 16, 17, 18, 19, 20, 21, 22, 23, 24, 25, 26, 27, 28, 29, 30] rfl rfl (by decide) (by decide) rfl (by decide) (zrV (C := RX8) (As := [.int v37, .int v39, .int v41, .int v43]) (rest := [.int v31]) hx hb hml hown hts tw851 mv_X8_quarry ⟨Nat.le_of_ble_eq_true rfl, Nat.le_of_ble_eq_true rfl⟩ rfl rfl (ct_X8_quarry l D ct a ms_ ah_ hi_ kp_ sl_ sv_ pd_ ln_ so_ po_ wr_ to_ _ v37 v39 v41 v43 k v44 ms45 ah46 hi47 kp48 so49 hc) (z_wv hK hP hD [22, 23, 24, 25, 26, 27, 28, 29, 30] (by decide) rfl 22 rfl rfl) hl.1 rfl rfl (Nat.le_of_ble_eq_true rfl) dL_law_242 ⟨hcl, hsl⟩) (fun H locs hP hD hS => ?_)
          refine zc_eq (tgt := 1002) hx hb dL_law_245 (by decide) h (fun h => ?_) (fun h => ?_)
          · refine o_nm h (fun v50 ey h => ?_)
            refine lv_iinc (v := v50) (lv' := [(3, .int v50), (0, .ref (b)), (1, .ref (a 0)), (2, .ref (a 30))]) hx hb dL_law_1002 hl (k := 3) rfl (Eq.trans rfl ey) (by decide) rfl (fun ls hl => ?_)
            refine lv_goto (tgt := 18) hx hb dL_law_1005 (by decide) ?_
            exact ih18 f32 g33 nx34 hz35 sw_ fl_ sg_ pl_ pa_ pk_ pn_ pf_ pg_ ms45 ah46 hi47 kp48 sl_ sv_ pd_ ln_ so49 po_ wr_ to_ v50 h _ _ hP hD hS ls (lv_sub hl [1, 2, 3, 0] rfl)
          · refine lv_iconst (v := (0 : Int32)) hx hb dL_law_248 (by decide) ?_
            exact absurd h (by decide)
        refine o_sw h (fun q2 h => ?_) (fun q2 h => ?_)
        · refine lv_tableIn (off := (218 : Int)) (tgt := 250) hx hb dL_law_32 (by rw [q2]; decide) (by rw [q2]; decide) (by rw [q2]; decide) (by decide) ?_
          refine lv_aload_n hx hb dL_law_250 rfl (lv_at hl 1 rfl) ?_
          refine lv_aload_n hx hb dL_law_251 rfl (lv_at hl 0 rfl) ?_
          refine lv_iload_n hx hb dL_law_252 rfl (lv_at hl 3 rfl) ?_
          refine lv_iconst (v := (1 : Int32)) hx hb dL_law_253 (by decide) ?_
          refine o_iadd hx hb dL_law_254 h (fun v51 h => ?_)
          refine o_sld hx hb hX hbl hbA hS h dL_law_255 (fun v52 h => ?_)
          refine lv_aload_n hx hb dL_law_256 rfl (lv_at hl 0 rfl) ?_
          refine lv_iload_n hx hb dL_law_257 rfl (lv_at hl 3 rfl) ?_
          refine lv_iconst (v := (2 : Int32)) hx hb dL_law_258 (by decide) ?_
          refine o_iadd hx hb dL_law_259 h (fun v53 h => ?_)
          refine o_sld hx hb hX hbl hbA hS h dL_law_260 (fun v54 h => ?_)
          refine lv_aload_n hx hb dL_law_261 rfl (lv_at hl 0 rfl) ?_
          refine lv_iload_n hx hb dL_law_262 rfl (lv_at hl 3 rfl) ?_
          refine lv_iconst (v := (3 : Int32)) hx hb dL_law_263 (by decide) ?_
          refine o_iadd hx hb dL_law_264 h (fun v55 h => ?_)
          refine o_sld hx hb hX hbl hbA hS h dL_law_265 (fun v56 h => ?_)
          obtain ⟨v57, f58, g59, nx60, hz61, hc, h⟩ := zb5_s h
          refine zG_i (w1 := wX7 ct a f58 g59 nx60 hz61 sw_ fl_ sg_ pl_ pa_ pk_ pn_ pf_ pg_) (ws' := (wX7 ct a f58 g59 nx60 hz61 sw_ fl_ sg_ pl_ pa_ pk_ pn_ pf_ pg_ ++ wX8 ct a ms_ ah_ hi_ kp_ sl_ sv_ pd_ ln_ so_ po_ wr_ to_)) hP hD hS hA [0, 1, 2, 3, 4, 5, 6, 7, 8, 9, 10, 11, 12, 13, 14, 15, 16, 17, 18, 19, 20, 21] [22, 23, 24, 25, 26, 27, 28, 29, 30] [9, 10, 11, 12, 13, 14, 15, 16, 17, 18, 19, 20, 21, 22, 23, 24, 25, 26, 27, 28, 29, 30, 0, 1, 2, 3, 4, 5, 6, 7, 8] rfl rfl (by decide) (by decide) rfl (by decide) (zrV (C := RX7) (As := [.int v52, .int v54, .int v56]) (rest := []) hx hb hml hown hts tw268 mv_X7_cut ⟨Nat.le_of_ble_eq_true rfl, Nat.le_of_ble_eq_true rfl⟩ rfl rfl (ct_X7_cut l D ct a f_ g_ nx_ hz_ sw_ fl_ sg_ pl_ pa_ pk_ pn_ pf_ pg_ _ v52 v54 v56 k v57 f58 g59 nx60 hz61 hc) (z_wv hK hP hD [0, 1, 2, 3, 4, 5, 6, 7, 8, 9, 10, 11, 12, 13, 14, 15, 16, 17, 18, 19, 20, 21] (by decide) rfl 0 rfl rfl) hl.1 rfl rfl (Nat.le_of_ble_eq_true rfl) dL_law_266 ⟨hcl, hsl⟩) (fun H locs hP hD hS => ?_)
          refine lv_aload_n hx hb dL_law_269 rfl (lv_at hl 2 rfl) ?_
          refine lv_aload_n hx hb dL_law_270 rfl (lv_at hl 0 rfl) ?_
          refine lv_iload_n hx hb dL_law_271 rfl (lv_at hl 3 rfl) ?_
          refine lv_iconst (v := (1 : Int32)) hx hb dL_law_272 (by decide) ?_
          refine o_iadd hx hb dL_law_273 h (fun v62 h => ?_)
          refine o_sld hx hb hX hbl hbA hS h dL_law_274 (fun v63 h => ?_)
          refine lv_aload_n hx hb dL_law_275 rfl (lv_at hl 0 rfl) ?_
          refine lv_iload_n hx hb dL_law_276 rfl (lv_at hl 3 rfl) ?_
          refine lv_iconst (v := (2 : Int32)) hx hb dL_law_277 (by decide) ?_
          refine o_iadd hx hb dL_law_278 h (fun v64 h => ?_)
          refine o_sld hx hb hX hbl hbA hS h dL_law_279 (fun v65 h => ?_)
          refine lv_aload_n hx hb dL_law_280 rfl (lv_at hl 0 rfl) ?_
          refine lv_iload_n hx hb dL_law_281 rfl (lv_at hl 3 rfl) ?_
          refine lv_iconst (v := (3 : Int32)) hx hb dL_law_282 (by decide) ?_
          refine o_iadd hx hb dL_law_283 h (fun v66 h => ?_)
          refine o_sld hx hb hX hbl hbA hS h dL_law_284 (fun v67 h => ?_)
          obtain ⟨v68, ms69, ah70, hi71, kp72, so73, hc, h⟩ := zb6_s h
          refine zG_i (w1 := wX8 ct a ms69 ah70 hi71 kp72 sl_ sv_ pd_ ln_ so73 po_ wr_ to_) (ws' := (wX7 ct a f58 g59 nx60 hz61 sw_ fl_ sg_ pl_ pa_ pk_ pn_ pf_ pg_ ++ wX8 ct a ms69 ah70 hi71 kp72 sl_ sv_ pd_ ln_ so73 po_ wr_ to_)) hP hD hS hA [22, 23, 24, 25, 26, 27, 28, 29, 30] [0, 1, 2, 3, 4, 5, 6, 7, 8, 9, 10, 11, 12, 13, 14, 15, 16, 17, 18, 19, 20, 21] [0, 1, 2, 3, 4, 5, 6, 7, 8, 9, 10, 11, 12, 13, 14, 15, 16, 17, 18, 19, 20, 21, 22, 23, 24, 25, 26, 27, 28, 29, 30] rfl rfl (by decide) (by decide) rfl (by decide) (zrV (C := RX8) (As := [.int v63, .int v65, .int v67]) (rest := [.int v57]) hx hb hml hown hts tw992 mv_X8_cut ⟨Nat.le_of_ble_eq_true rfl, Nat.le_of_ble_eq_true rfl⟩ rfl rfl (ct_X8_cut l D ct a ms_ ah_ hi_ kp_ sl_ sv_ pd_ ln_ so_ po_ wr_ to_ _ v63 v65 v67 k v68 ms69 ah70 hi71 kp72 so73 hc) (z_wv hK hP hD [22, 23, 24, 25, 26, 27, 28, 29, 30] (by decide) rfl 22 rfl rfl) hl.1 rfl rfl (Nat.le_of_ble_eq_true rfl) dL_law_285 ⟨hcl, hsl⟩) (fun H locs hP hD hS => ?_)
          refine zc_eq (tgt := 1002) hx hb dL_law_288 (by decide) h (fun h => ?_) (fun h => ?_)
          · refine o_nm h (fun v74 ey h => ?_)
            refine lv_iinc (v := v74) (lv' := [(3, .int v74), (0, .ref (b)), (1, .ref (a 0)), (2, .ref (a 30))]) hx hb dL_law_1002 hl (k := 3) rfl (Eq.trans rfl ey) (by decide) rfl (fun ls hl => ?_)
            refine lv_goto (tgt := 18) hx hb dL_law_1005 (by decide) ?_
            exact ih18 f58 g59 nx60 hz61 sw_ fl_ sg_ pl_ pa_ pk_ pn_ pf_ pg_ ms69 ah70 hi71 kp72 sl_ sv_ pd_ ln_ so73 po_ wr_ to_ v74 h _ _ hP hD hS ls (lv_sub hl [1, 2, 3, 0] rfl)
          · refine lv_iconst (v := (0 : Int32)) hx hb dL_law_291 (by decide) ?_
            exact absurd h (by decide)
        refine o_sw h (fun q3 h => ?_) (fun q3 h => ?_)
        · refine lv_tableIn (off := (261 : Int)) (tgt := 293) hx hb dL_law_32 (by rw [q3]; decide) (by rw [q3]; decide) (by rw [q3]; decide) (by decide) ?_
          refine lv_aload_n hx hb dL_law_293 rfl (lv_at hl 1 rfl) ?_
          refine lv_aload_n hx hb dL_law_294 rfl (lv_at hl 0 rfl) ?_
          refine lv_iload_n hx hb dL_law_295 rfl (lv_at hl 3 rfl) ?_
          refine lv_iconst (v := (1 : Int32)) hx hb dL_law_296 (by decide) ?_
          refine o_iadd hx hb dL_law_297 h (fun v75 h => ?_)
          refine o_sld hx hb hX hbl hbA hS h dL_law_298 (fun v76 h => ?_)
          obtain ⟨v77, f78, g79, nx80, hz81, hc, h⟩ := zb5_s h
          refine zG_i (w1 := wX7 ct a f78 g79 nx80 hz81 sw_ fl_ sg_ pl_ pa_ pk_ pn_ pf_ pg_) (ws' := (wX7 ct a f78 g79 nx80 hz81 sw_ fl_ sg_ pl_ pa_ pk_ pn_ pf_ pg_ ++ wX8 ct a ms_ ah_ hi_ kp_ sl_ sv_ pd_ ln_ so_ po_ wr_ to_)) hP hD hS hA [0, 1, 2, 3, 4, 5, 6, 7, 8, 9, 10, 11, 12, 13, 14, 15, 16, 17, 18, 19, 20, 21] [22, 23, 24, 25, 26, 27, 28, 29, 30] [9, 10, 11, 12, 13, 14, 15, 16, 17, 18, 19, 20, 21, 22, 23, 24, 25, 26, 27, 28, 29, 30, 0, 1, 2, 3, 4, 5, 6, 7, 8] rfl rfl (by decide) (by decide) rfl (by decide) (zrV (C := RX7) (As := [.int v76]) (rest := []) hx hb hml hown hts tw314 mv_X7_shelter ⟨Nat.le_of_ble_eq_true rfl, Nat.le_of_ble_eq_true rfl⟩ rfl rfl (ct_X7_shelter l D ct a f_ g_ nx_ hz_ sw_ fl_ sg_ pl_ pa_ pk_ pn_ pf_ pg_ _ v76 k v77 f78 g79 nx80 hz81 hc) (z_wv hK hP hD [0, 1, 2, 3, 4, 5, 6, 7, 8, 9, 10, 11, 12, 13, 14, 15, 16, 17, 18, 19, 20, 21] (by decide) rfl 0 rfl rfl) hl.1 rfl rfl (Nat.le_of_ble_eq_true rfl) dL_law_299 ⟨hcl, hsl⟩) (fun H locs hP hD hS => ?_)
          refine lv_aload_n hx hb dL_law_302 rfl (lv_at hl 2 rfl) ?_
          refine lv_aload_n hx hb dL_law_303 rfl (lv_at hl 0 rfl) ?_
          refine lv_iload_n hx hb dL_law_304 rfl (lv_at hl 3 rfl) ?_
          refine lv_iconst (v := (1 : Int32)) hx hb dL_law_305 (by decide) ?_
          refine o_iadd hx hb dL_law_306 h (fun v82 h => ?_)
          refine o_sld hx hb hX hbl hbA hS h dL_law_307 (fun v83 h => ?_)
          obtain ⟨v84, ms85, ah86, hi87, kp88, hc, h⟩ := zb5_s h
          refine zG_i (w1 := wX8 ct a ms85 ah86 hi87 kp88 sl_ sv_ pd_ ln_ so_ po_ wr_ to_) (ws' := (wX7 ct a f78 g79 nx80 hz81 sw_ fl_ sg_ pl_ pa_ pk_ pn_ pf_ pg_ ++ wX8 ct a ms85 ah86 hi87 kp88 sl_ sv_ pd_ ln_ so_ po_ wr_ to_)) hP hD hS hA [22, 23, 24, 25, 26, 27, 28, 29, 30] [0, 1, 2, 3, 4, 5, 6, 7, 8, 9, 10, 11, 12, 13, 14, 15, 16, 17, 18, 19, 20, 21] [0, 1, 2, 3, 4, 5, 6, 7, 8, 9, 10, 11, 12, 13, 14, 15, 16, 17, 18, 19, 20, 21, 22, 23, 24, 25, 26, 27, 28, 29, 30] rfl rfl (by decide) (by decide) rfl (by decide) (zrV (C := RX8) (As := [.int v83]) (rest := [.int v77]) hx hb hml hown hts tw996 mv_X8_shelter ⟨Nat.le_of_ble_eq_true rfl, Nat.le_of_ble_eq_true rfl⟩ rfl rfl (ct_X8_shelter l D ct a ms_ ah_ hi_ kp_ sl_ sv_ pd_ ln_ so_ po_ wr_ to_ _ v83 k v84 ms85 ah86 hi87 kp88 hc) (z_wv hK hP hD [22, 23, 24, 25, 26, 27, 28, 29, 30] (by decide) rfl 22 rfl rfl) hl.1 rfl rfl (Nat.le_of_ble_eq_true rfl) dL_law_308 ⟨hcl, hsl⟩) (fun H locs hP hD hS => ?_)
          refine zc_eq (tgt := 1002) hx hb dL_law_311 (by decide) h (fun h => ?_) (fun h => ?_)
          · refine o_nm h (fun v89 ey h => ?_)
            refine lv_iinc (v := v89) (lv' := [(3, .int v89), (0, .ref (b)), (1, .ref (a 0)), (2, .ref (a 30))]) hx hb dL_law_1002 hl (k := 3) rfl (Eq.trans rfl ey) (by decide) rfl (fun ls hl => ?_)
            refine lv_goto (tgt := 18) hx hb dL_law_1005 (by decide) ?_
            exact ih18 f78 g79 nx80 hz81 sw_ fl_ sg_ pl_ pa_ pk_ pn_ pf_ pg_ ms85 ah86 hi87 kp88 sl_ sv_ pd_ ln_ so_ po_ wr_ to_ v89 h _ _ hP hD hS ls (lv_sub hl [1, 2, 3, 0] rfl)
          · refine lv_iconst (v := (0 : Int32)) hx hb dL_law_314 (by decide) ?_
            exact absurd h (by decide)
        refine o_sw h (fun q4 h => ?_) (fun q4 h => ?_)
        · refine lv_tableIn (off := (284 : Int)) (tgt := 316) hx hb dL_law_32 (by rw [q4]; decide) (by rw [q4]; decide) (by rw [q4]; decide) (by decide) ?_
          refine lv_aload_n hx hb dL_law_316 rfl (lv_at hl 1 rfl) ?_
          refine lv_aload_n hx hb dL_law_317 rfl (lv_at hl 0 rfl) ?_
          refine lv_iload_n hx hb dL_law_318 rfl (lv_at hl 3 rfl) ?_
          refine lv_iconst (v := (1 : Int32)) hx hb dL_law_319 (by decide) ?_
          refine o_iadd hx hb dL_law_320 h (fun v90 h => ?_)
          refine o_sld hx hb hX hbl hbA hS h dL_law_321 (fun v91 h => ?_)
          refine lv_aload_n hx hb dL_law_322 rfl (lv_at hl 0 rfl) ?_
          refine lv_iload_n hx hb dL_law_323 rfl (lv_at hl 3 rfl) ?_
          refine lv_iconst (v := (2 : Int32)) hx hb dL_law_324 (by decide) ?_
          refine o_iadd hx hb dL_law_325 h (fun v92 h => ?_)
          refine o_sld hx hb hX hbl hbA hS h dL_law_326 (fun v93 h => ?_)
          refine lv_aload_n hx hb dL_law_327 rfl (lv_at hl 0 rfl) ?_
          refine lv_iload_n hx hb dL_law_328 rfl (lv_at hl 3 rfl) ?_
          refine lv_iconst (v := (3 : Int32)) hx hb dL_law_329 (by decide) ?_
          refine o_iadd hx hb dL_law_330 h (fun v94 h => ?_)
          refine o_sld hx hb hX hbl hbA hS h dL_law_331 (fun v95 h => ?_)
          obtain ⟨v96, f97, g98, nx99, hz100, hc, h⟩ := zb5_s h
          refine zG_i (w1 := wX7 ct a f97 g98 nx99 hz100 sw_ fl_ sg_ pl_ pa_ pk_ pn_ pf_ pg_) (ws' := (wX7 ct a f97 g98 nx99 hz100 sw_ fl_ sg_ pl_ pa_ pk_ pn_ pf_ pg_ ++ wX8 ct a ms_ ah_ hi_ kp_ sl_ sv_ pd_ ln_ so_ po_ wr_ to_)) hP hD hS hA [0, 1, 2, 3, 4, 5, 6, 7, 8, 9, 10, 11, 12, 13, 14, 15, 16, 17, 18, 19, 20, 21] [22, 23, 24, 25, 26, 27, 28, 29, 30] [9, 10, 11, 12, 13, 14, 15, 16, 17, 18, 19, 20, 21, 22, 23, 24, 25, 26, 27, 28, 29, 30, 0, 1, 2, 3, 4, 5, 6, 7, 8] rfl rfl (by decide) (by decide) rfl (by decide) (zrV (C := RX7) (As := [.int v91, .int v93, .int v95]) (rest := []) hx hb hml hown hts tw323 mv_X7_order ⟨Nat.le_of_ble_eq_true rfl, Nat.le_of_ble_eq_true rfl⟩ rfl rfl (ct_X7_order l D ct a f_ g_ nx_ hz_ sw_ fl_ sg_ pl_ pa_ pk_ pn_ pf_ pg_ _ v91 v93 v95 k v96 f97 g98 nx99 hz100 hc) (z_wv hK hP hD [0, 1, 2, 3, 4, 5, 6, 7, 8, 9, 10, 11, 12, 13, 14, 15, 16, 17, 18, 19, 20, 21] (by decide) rfl 0 rfl rfl) hl.1 rfl rfl (Nat.le_of_ble_eq_true rfl) dL_law_332 ⟨hcl, hsl⟩) (fun H locs hP hD hS => ?_)
          refine lv_aload_n hx hb dL_law_335 rfl (lv_at hl 2 rfl) ?_
          refine lv_aload_n hx hb dL_law_336 rfl (lv_at hl 0 rfl) ?_
          refine lv_iload_n hx hb dL_law_337 rfl (lv_at hl 3 rfl) ?_
          refine lv_iconst (v := (1 : Int32)) hx hb dL_law_338 (by decide) ?_
          refine o_iadd hx hb dL_law_339 h (fun v101 h => ?_)
          refine o_sld hx hb hX hbl hbA hS h dL_law_340 (fun v102 h => ?_)
          refine lv_aload_n hx hb dL_law_341 rfl (lv_at hl 0 rfl) ?_
          refine lv_iload_n hx hb dL_law_342 rfl (lv_at hl 3 rfl) ?_
          refine lv_iconst (v := (2 : Int32)) hx hb dL_law_343 (by decide) ?_
          refine o_iadd hx hb dL_law_344 h (fun v103 h => ?_)
          refine o_sld hx hb hX hbl hbA hS h dL_law_345 (fun v104 h => ?_)
          refine lv_aload_n hx hb dL_law_346 rfl (lv_at hl 0 rfl) ?_
          refine lv_iload_n hx hb dL_law_347 rfl (lv_at hl 3 rfl) ?_
          refine lv_iconst (v := (3 : Int32)) hx hb dL_law_348 (by decide) ?_
          refine o_iadd hx hb dL_law_349 h (fun v105 h => ?_)
          refine o_sld hx hb hX hbl hbA hS h dL_law_350 (fun v106 h => ?_)
          obtain ⟨v107, ms108, ah109, hi110, kp111, so112, hc, h⟩ := zb6_s h
          refine zG_i (w1 := wX8 ct a ms108 ah109 hi110 kp111 sl_ sv_ pd_ ln_ so112 po_ wr_ to_) (ws' := (wX7 ct a f97 g98 nx99 hz100 sw_ fl_ sg_ pl_ pa_ pk_ pn_ pf_ pg_ ++ wX8 ct a ms108 ah109 hi110 kp111 sl_ sv_ pd_ ln_ so112 po_ wr_ to_)) hP hD hS hA [22, 23, 24, 25, 26, 27, 28, 29, 30] [0, 1, 2, 3, 4, 5, 6, 7, 8, 9, 10, 11, 12, 13, 14, 15, 16, 17, 18, 19, 20, 21] [0, 1, 2, 3, 4, 5, 6, 7, 8, 9, 10, 11, 12, 13, 14, 15, 16, 17, 18, 19, 20, 21, 22, 23, 24, 25, 26, 27, 28, 29, 30] rfl rfl (by decide) (by decide) rfl (by decide) (zrV (C := RX8) (As := [.int v102, .int v104, .int v106]) (rest := [.int v96]) hx hb hml hown hts tw1000 mv_X8_order ⟨Nat.le_of_ble_eq_true rfl, Nat.le_of_ble_eq_true rfl⟩ rfl rfl (ct_X8_order l D ct a ms_ ah_ hi_ kp_ sl_ sv_ pd_ ln_ so_ po_ wr_ to_ _ v102 v104 v106 k v107 ms108 ah109 hi110 kp111 so112 hc) (z_wv hK hP hD [22, 23, 24, 25, 26, 27, 28, 29, 30] (by decide) rfl 22 rfl rfl) hl.1 rfl rfl (Nat.le_of_ble_eq_true rfl) dL_law_351 ⟨hcl, hsl⟩) (fun H locs hP hD hS => ?_)
          refine zc_eq (tgt := 1002) hx hb dL_law_354 (by decide) h (fun h => ?_) (fun h => ?_)
          · refine o_nm h (fun v113 ey h => ?_)
            refine lv_iinc (v := v113) (lv' := [(3, .int v113), (0, .ref (b)), (1, .ref (a 0)), (2, .ref (a 30))]) hx hb dL_law_1002 hl (k := 3) rfl (Eq.trans rfl ey) (by decide) rfl (fun ls hl => ?_)
            refine lv_goto (tgt := 18) hx hb dL_law_1005 (by decide) ?_
            exact ih18 f97 g98 nx99 hz100 sw_ fl_ sg_ pl_ pa_ pk_ pn_ pf_ pg_ ms108 ah109 hi110 kp111 sl_ sv_ pd_ ln_ so112 po_ wr_ to_ v113 h _ _ hP hD hS ls (lv_sub hl [1, 2, 3, 0] rfl)
          · refine lv_iconst (v := (0 : Int32)) hx hb dL_law_357 (by decide) ?_
            exact absurd h (by decide)
        refine o_sw h (fun q5 h => ?_) (fun q5 h => ?_)
        · refine lv_tableIn (off := (327 : Int)) (tgt := 359) hx hb dL_law_32 (by rw [q5]; decide) (by rw [q5]; decide) (by rw [q5]; decide) (by decide) ?_
          refine lv_aload_n hx hb dL_law_359 rfl (lv_at hl 1 rfl) ?_
          refine lv_aload_n hx hb dL_law_360 rfl (lv_at hl 0 rfl) ?_
          refine lv_iload_n hx hb dL_law_361 rfl (lv_at hl 3 rfl) ?_
          refine lv_iconst (v := (1 : Int32)) hx hb dL_law_362 (by decide) ?_
          refine o_iadd hx hb dL_law_363 h (fun v114 h => ?_)
          refine o_sld hx hb hX hbl hbA hS h dL_law_364 (fun v115 h => ?_)
          refine lv_aload_n hx hb dL_law_365 rfl (lv_at hl 0 rfl) ?_
          refine lv_iload_n hx hb dL_law_366 rfl (lv_at hl 3 rfl) ?_
          refine lv_iconst (v := (2 : Int32)) hx hb dL_law_367 (by decide) ?_
          refine o_iadd hx hb dL_law_368 h (fun v116 h => ?_)
          refine o_sld hx hb hX hbl hbA hS h dL_law_369 (fun v117 h => ?_)
          obtain ⟨v118, f119, g120, nx121, hz122, hc, h⟩ := zb5_s h
          refine zG_i (w1 := wX7 ct a f119 g120 nx121 hz122 sw_ fl_ sg_ pl_ pa_ pk_ pn_ pf_ pg_) (ws' := (wX7 ct a f119 g120 nx121 hz122 sw_ fl_ sg_ pl_ pa_ pk_ pn_ pf_ pg_ ++ wX8 ct a ms_ ah_ hi_ kp_ sl_ sv_ pd_ ln_ so_ po_ wr_ to_)) hP hD hS hA [0, 1, 2, 3, 4, 5, 6, 7, 8, 9, 10, 11, 12, 13, 14, 15, 16, 17, 18, 19, 20, 21] [22, 23, 24, 25, 26, 27, 28, 29, 30] [9, 10, 11, 12, 13, 14, 15, 16, 17, 18, 19, 20, 21, 22, 23, 24, 25, 26, 27, 28, 29, 30, 0, 1, 2, 3, 4, 5, 6, 7, 8] rfl rfl (by decide) (by decide) rfl (by decide) (zrV (C := RX7) (As := [.int v115, .int v117]) (rest := []) hx hb hml hown hts tw350 mv_X7_give ⟨Nat.le_of_ble_eq_true rfl, Nat.le_of_ble_eq_true rfl⟩ rfl rfl (ct_X7_give l D ct a f_ g_ nx_ hz_ sw_ fl_ sg_ pl_ pa_ pk_ pn_ pf_ pg_ _ v115 v117 k v118 f119 g120 nx121 hz122 hc) (z_wv hK hP hD [0, 1, 2, 3, 4, 5, 6, 7, 8, 9, 10, 11, 12, 13, 14, 15, 16, 17, 18, 19, 20, 21] (by decide) rfl 0 rfl rfl) hl.1 rfl rfl (Nat.le_of_ble_eq_true rfl) dL_law_370 ⟨hcl, hsl⟩) (fun H locs hP hD hS => ?_)
          refine lv_aload_n hx hb dL_law_373 rfl (lv_at hl 2 rfl) ?_
          refine lv_aload_n hx hb dL_law_374 rfl (lv_at hl 0 rfl) ?_
          refine lv_iload_n hx hb dL_law_375 rfl (lv_at hl 3 rfl) ?_
          refine lv_iconst (v := (1 : Int32)) hx hb dL_law_376 (by decide) ?_
          refine o_iadd hx hb dL_law_377 h (fun v123 h => ?_)
          refine o_sld hx hb hX hbl hbA hS h dL_law_378 (fun v124 h => ?_)
          refine lv_aload_n hx hb dL_law_379 rfl (lv_at hl 0 rfl) ?_
          refine lv_iload_n hx hb dL_law_380 rfl (lv_at hl 3 rfl) ?_
          refine lv_iconst (v := (2 : Int32)) hx hb dL_law_381 (by decide) ?_
          refine o_iadd hx hb dL_law_382 h (fun v125 h => ?_)
          refine o_sld hx hb hX hbl hbA hS h dL_law_383 (fun v126 h => ?_)
          obtain ⟨v127, ms128, ah129, hi130, kp131, so132, hc, h⟩ := zb6_s h
          refine zG_i (w1 := wX8 ct a ms128 ah129 hi130 kp131 sl_ sv_ pd_ ln_ so132 po_ wr_ to_) (ws' := (wX7 ct a f119 g120 nx121 hz122 sw_ fl_ sg_ pl_ pa_ pk_ pn_ pf_ pg_ ++ wX8 ct a ms128 ah129 hi130 kp131 sl_ sv_ pd_ ln_ so132 po_ wr_ to_)) hP hD hS hA [22, 23, 24, 25, 26, 27, 28, 29, 30] [0, 1, 2, 3, 4, 5, 6, 7, 8, 9, 10, 11, 12, 13, 14, 15, 16, 17, 18, 19, 20, 21] [0, 1, 2, 3, 4, 5, 6, 7, 8, 9, 10, 11, 12, 13, 14, 15, 16, 17, 18, 19, 20, 21, 22, 23, 24, 25, 26, 27, 28, 29, 30] rfl rfl (by decide) (by decide) rfl (by decide) (zrV (C := RX8) (As := [.int v124, .int v126]) (rest := [.int v118]) hx hb hml hown hts tw1004 mv_X8_give ⟨Nat.le_of_ble_eq_true rfl, Nat.le_of_ble_eq_true rfl⟩ rfl rfl (ct_X8_give l D ct a ms_ ah_ hi_ kp_ sl_ sv_ pd_ ln_ so_ po_ wr_ to_ _ v124 v126 k v127 ms128 ah129 hi130 kp131 so132 hc) (z_wv hK hP hD [22, 23, 24, 25, 26, 27, 28, 29, 30] (by decide) rfl 22 rfl rfl) hl.1 rfl rfl (Nat.le_of_ble_eq_true rfl) dL_law_384 ⟨hcl, hsl⟩) (fun H locs hP hD hS => ?_)
          refine zc_eq (tgt := 1002) hx hb dL_law_387 (by decide) h (fun h => ?_) (fun h => ?_)
          · refine o_nm h (fun v133 ey h => ?_)
            refine lv_iinc (v := v133) (lv' := [(3, .int v133), (0, .ref (b)), (1, .ref (a 0)), (2, .ref (a 30))]) hx hb dL_law_1002 hl (k := 3) rfl (Eq.trans rfl ey) (by decide) rfl (fun ls hl => ?_)
            refine lv_goto (tgt := 18) hx hb dL_law_1005 (by decide) ?_
            exact ih18 f119 g120 nx121 hz122 sw_ fl_ sg_ pl_ pa_ pk_ pn_ pf_ pg_ ms128 ah129 hi130 kp131 sl_ sv_ pd_ ln_ so132 po_ wr_ to_ v133 h _ _ hP hD hS ls (lv_sub hl [1, 2, 3, 0] rfl)
          · refine lv_iconst (v := (0 : Int32)) hx hb dL_law_390 (by decide) ?_
            exact absurd h (by decide)
        refine o_sw h (fun q6 h => ?_) (fun q6 h => ?_)
        · refine lv_tableIn (off := (360 : Int)) (tgt := 392) hx hb dL_law_32 (by rw [q6]; decide) (by rw [q6]; decide) (by rw [q6]; decide) (by decide) ?_
          refine lv_aload_n hx hb dL_law_392 rfl (lv_at hl 1 rfl) ?_
          refine lv_aload_n hx hb dL_law_393 rfl (lv_at hl 0 rfl) ?_
          refine lv_iload_n hx hb dL_law_394 rfl (lv_at hl 3 rfl) ?_
          refine lv_iconst (v := (1 : Int32)) hx hb dL_law_395 (by decide) ?_
          refine o_iadd hx hb dL_law_396 h (fun v134 h => ?_)
          refine o_sld hx hb hX hbl hbA hS h dL_law_397 (fun v135 h => ?_)
          obtain ⟨v136, f137, g138, nx139, hz140, hc, h⟩ := zb5_s h
          refine zG_i (w1 := wX7 ct a f137 g138 nx139 hz140 sw_ fl_ sg_ pl_ pa_ pk_ pn_ pf_ pg_) (ws' := (wX7 ct a f137 g138 nx139 hz140 sw_ fl_ sg_ pl_ pa_ pk_ pn_ pf_ pg_ ++ wX8 ct a ms_ ah_ hi_ kp_ sl_ sv_ pd_ ln_ so_ po_ wr_ to_)) hP hD hS hA [0, 1, 2, 3, 4, 5, 6, 7, 8, 9, 10, 11, 12, 13, 14, 15, 16, 17, 18, 19, 20, 21] [22, 23, 24, 25, 26, 27, 28, 29, 30] [9, 10, 11, 12, 13, 14, 15, 16, 17, 18, 19, 20, 21, 22, 23, 24, 25, 26, 27, 28, 29, 30, 0, 1, 2, 3, 4, 5, 6, 7, 8] rfl rfl (by decide) (by decide) rfl (by decide) (zrV (C := RX7) (As := [.int v135]) (rest := []) hx hb hml hown hts tw381 mv_X7_takeBack ⟨Nat.le_of_ble_eq_true rfl, Nat.le_of_ble_eq_true rfl⟩ rfl rfl (ct_X7_takeBack l D ct a f_ g_ nx_ hz_ sw_ fl_ sg_ pl_ pa_ pk_ pn_ pf_ pg_ _ v135 k v136 f137 g138 nx139 hz140 hc) (z_wv hK hP hD [0, 1, 2, 3, 4, 5, 6, 7, 8, 9, 10, 11, 12, 13, 14, 15, 16, 17, 18, 19, 20, 21] (by decide) rfl 0 rfl rfl) hl.1 rfl rfl (Nat.le_of_ble_eq_true rfl) dL_law_398 ⟨hcl, hsl⟩) (fun H locs hP hD hS => ?_)
          refine lv_aload_n hx hb dL_law_401 rfl (lv_at hl 2 rfl) ?_
          refine lv_aload_n hx hb dL_law_402 rfl (lv_at hl 0 rfl) ?_
          refine lv_iload_n hx hb dL_law_403 rfl (lv_at hl 3 rfl) ?_
          refine lv_iconst (v := (1 : Int32)) hx hb dL_law_404 (by decide) ?_
          refine o_iadd hx hb dL_law_405 h (fun v141 h => ?_)
          refine o_sld hx hb hX hbl hbA hS h dL_law_406 (fun v142 h => ?_)
          obtain ⟨v143, ms144, ah145, hi146, kp147, hc, h⟩ := zb5_s h
          refine zG_i (w1 := wX8 ct a ms144 ah145 hi146 kp147 sl_ sv_ pd_ ln_ so_ po_ wr_ to_) (ws' := (wX7 ct a f137 g138 nx139 hz140 sw_ fl_ sg_ pl_ pa_ pk_ pn_ pf_ pg_ ++ wX8 ct a ms144 ah145 hi146 kp147 sl_ sv_ pd_ ln_ so_ po_ wr_ to_)) hP hD hS hA [22, 23, 24, 25, 26, 27, 28, 29, 30] [0, 1, 2, 3, 4, 5, 6, 7, 8, 9, 10, 11, 12, 13, 14, 15, 16, 17, 18, 19, 20, 21] [0, 1, 2, 3, 4, 5, 6, 7, 8, 9, 10, 11, 12, 13, 14, 15, 16, 17, 18, 19, 20, 21, 22, 23, 24, 25, 26, 27, 28, 29, 30] rfl rfl (by decide) (by decide) rfl (by decide) (zrV (C := RX8) (As := [.int v142]) (rest := [.int v136]) hx hb hml hown hts tw1008 mv_X8_takeBack ⟨Nat.le_of_ble_eq_true rfl, Nat.le_of_ble_eq_true rfl⟩ rfl rfl (ct_X8_takeBack l D ct a ms_ ah_ hi_ kp_ sl_ sv_ pd_ ln_ so_ po_ wr_ to_ _ v142 k v143 ms144 ah145 hi146 kp147 hc) (z_wv hK hP hD [22, 23, 24, 25, 26, 27, 28, 29, 30] (by decide) rfl 22 rfl rfl) hl.1 rfl rfl (Nat.le_of_ble_eq_true rfl) dL_law_407 ⟨hcl, hsl⟩) (fun H locs hP hD hS => ?_)
          refine zc_eq (tgt := 1002) hx hb dL_law_410 (by decide) h (fun h => ?_) (fun h => ?_)
          · refine o_nm h (fun v148 ey h => ?_)
            refine lv_iinc (v := v148) (lv' := [(3, .int v148), (0, .ref (b)), (1, .ref (a 0)), (2, .ref (a 30))]) hx hb dL_law_1002 hl (k := 3) rfl (Eq.trans rfl ey) (by decide) rfl (fun ls hl => ?_)
            refine lv_goto (tgt := 18) hx hb dL_law_1005 (by decide) ?_
            exact ih18 f137 g138 nx139 hz140 sw_ fl_ sg_ pl_ pa_ pk_ pn_ pf_ pg_ ms144 ah145 hi146 kp147 sl_ sv_ pd_ ln_ so_ po_ wr_ to_ v148 h _ _ hP hD hS ls (lv_sub hl [1, 2, 3, 0] rfl)
          · refine lv_iconst (v := (0 : Int32)) hx hb dL_law_413 (by decide) ?_
            exact absurd h (by decide)
        refine o_sw h (fun q7 h => ?_) (fun q7 h => ?_)
        · refine lv_tableIn (off := (383 : Int)) (tgt := 415) hx hb dL_law_32 (by rw [q7]; decide) (by rw [q7]; decide) (by rw [q7]; decide) (by decide) ?_
          refine lv_aload_n hx hb dL_law_415 rfl (lv_at hl 1 rfl) ?_
          refine lv_aload_n hx hb dL_law_416 rfl (lv_at hl 0 rfl) ?_
          refine lv_iload_n hx hb dL_law_417 rfl (lv_at hl 3 rfl) ?_
          refine lv_iconst (v := (1 : Int32)) hx hb dL_law_418 (by decide) ?_
          refine o_iadd hx hb dL_law_419 h (fun v149 h => ?_)
          refine o_sld hx hb hX hbl hbA hS h dL_law_420 (fun v150 h => ?_)
          refine lv_aload_n hx hb dL_law_421 rfl (lv_at hl 0 rfl) ?_
          refine lv_iload_n hx hb dL_law_422 rfl (lv_at hl 3 rfl) ?_
          refine lv_iconst (v := (2 : Int32)) hx hb dL_law_423 (by decide) ?_
          refine o_iadd hx hb dL_law_424 h (fun v151 h => ?_)
          refine o_sld hx hb hX hbl hbA hS h dL_law_425 (fun v152 h => ?_)
          refine lv_aload_n hx hb dL_law_426 rfl (lv_at hl 0 rfl) ?_
          refine lv_iload_n hx hb dL_law_427 rfl (lv_at hl 3 rfl) ?_
          refine lv_iconst (v := (3 : Int32)) hx hb dL_law_428 (by decide) ?_
          refine o_iadd hx hb dL_law_429 h (fun v153 h => ?_)
          refine o_sld hx hb hX hbl hbA hS h dL_law_430 (fun v154 h => ?_)
          refine lv_aload_n hx hb dL_law_431 rfl (lv_at hl 0 rfl) ?_
          refine lv_iload_n hx hb dL_law_432 rfl (lv_at hl 3 rfl) ?_
          refine lv_iconst (v := (4 : Int32)) hx hb dL_law_433 (by decide) ?_
          refine o_iadd hx hb dL_law_434 h (fun v155 h => ?_)
          refine o_sld hx hb hX hbl hbA hS h dL_law_435 (fun v156 h => ?_)
          obtain ⟨v157, f158, g159, nx160, hz161, hc, h⟩ := zb5_s h
          refine zG_i (w1 := wX7 ct a f158 g159 nx160 hz161 sw_ fl_ sg_ pl_ pa_ pk_ pn_ pf_ pg_) (ws' := (wX7 ct a f158 g159 nx160 hz161 sw_ fl_ sg_ pl_ pa_ pk_ pn_ pf_ pg_ ++ wX8 ct a ms_ ah_ hi_ kp_ sl_ sv_ pd_ ln_ so_ po_ wr_ to_)) hP hD hS hA [0, 1, 2, 3, 4, 5, 6, 7, 8, 9, 10, 11, 12, 13, 14, 15, 16, 17, 18, 19, 20, 21] [22, 23, 24, 25, 26, 27, 28, 29, 30] [9, 10, 11, 12, 13, 14, 15, 16, 17, 18, 19, 20, 21, 22, 23, 24, 25, 26, 27, 28, 29, 30, 0, 1, 2, 3, 4, 5, 6, 7, 8] rfl rfl (by decide) (by decide) rfl (by decide) (zrV (C := RX7) (As := [.int v150, .int v152, .int v154, .int v156]) (rest := []) hx hb hml hown hts tw390 mv_X7_limits ⟨Nat.le_of_ble_eq_true rfl, Nat.le_of_ble_eq_true rfl⟩ rfl rfl (ct_X7_limits l D ct a f_ g_ nx_ hz_ sw_ fl_ sg_ pl_ pa_ pk_ pn_ pf_ pg_ _ v150 v152 v154 v156 k v157 f158 g159 nx160 hz161 hc) (z_wv hK hP hD [0, 1, 2, 3, 4, 5, 6, 7, 8, 9, 10, 11, 12, 13, 14, 15, 16, 17, 18, 19, 20, 21] (by decide) rfl 0 rfl rfl) hl.1 rfl rfl (Nat.le_of_ble_eq_true rfl) dL_law_436 ⟨hcl, hsl⟩) (fun H locs hP hD hS => ?_)
          refine lv_aload_n hx hb dL_law_439 rfl (lv_at hl 2 rfl) ?_
          refine lv_aload_n hx hb dL_law_440 rfl (lv_at hl 0 rfl) ?_
          refine lv_iload_n hx hb dL_law_441 rfl (lv_at hl 3 rfl) ?_
          refine lv_iconst (v := (1 : Int32)) hx hb dL_law_442 (by decide) ?_
          refine o_iadd hx hb dL_law_443 h (fun v162 h => ?_)
          refine o_sld hx hb hX hbl hbA hS h dL_law_444 (fun v163 h => ?_)
          refine lv_aload_n hx hb dL_law_445 rfl (lv_at hl 0 rfl) ?_
          refine lv_iload_n hx hb dL_law_446 rfl (lv_at hl 3 rfl) ?_
          refine lv_iconst (v := (2 : Int32)) hx hb dL_law_447 (by decide) ?_
          refine o_iadd hx hb dL_law_448 h (fun v164 h => ?_)
          refine o_sld hx hb hX hbl hbA hS h dL_law_449 (fun v165 h => ?_)
          refine lv_aload_n hx hb dL_law_450 rfl (lv_at hl 0 rfl) ?_
          refine lv_iload_n hx hb dL_law_451 rfl (lv_at hl 3 rfl) ?_
          refine lv_iconst (v := (3 : Int32)) hx hb dL_law_452 (by decide) ?_
          refine o_iadd hx hb dL_law_453 h (fun v166 h => ?_)
          refine o_sld hx hb hX hbl hbA hS h dL_law_454 (fun v167 h => ?_)
          refine lv_aload_n hx hb dL_law_455 rfl (lv_at hl 0 rfl) ?_
          refine lv_iload_n hx hb dL_law_456 rfl (lv_at hl 3 rfl) ?_
          refine lv_iconst (v := (4 : Int32)) hx hb dL_law_457 (by decide) ?_
          refine o_iadd hx hb dL_law_458 h (fun v168 h => ?_)
          refine o_sld hx hb hX hbl hbA hS h dL_law_459 (fun v169 h => ?_)
          obtain ⟨v170, ms171, ah172, hi173, kp174, hc, h⟩ := zb5_s h
          refine zG_i (w1 := wX8 ct a ms171 ah172 hi173 kp174 sl_ sv_ pd_ ln_ so_ po_ wr_ to_) (ws' := (wX7 ct a f158 g159 nx160 hz161 sw_ fl_ sg_ pl_ pa_ pk_ pn_ pf_ pg_ ++ wX8 ct a ms171 ah172 hi173 kp174 sl_ sv_ pd_ ln_ so_ po_ wr_ to_)) hP hD hS hA [22, 23, 24, 25, 26, 27, 28, 29, 30] [0, 1, 2, 3, 4, 5, 6, 7, 8, 9, 10, 11, 12, 13, 14, 15, 16, 17, 18, 19, 20, 21] [0, 1, 2, 3, 4, 5, 6, 7, 8, 9, 10, 11, 12, 13, 14, 15, 16, 17, 18, 19, 20, 21, 22, 23, 24, 25, 26, 27, 28, 29, 30] rfl rfl (by decide) (by decide) rfl (by decide) (zrV (C := RX8) (As := [.int v163, .int v165, .int v167, .int v169]) (rest := [.int v157]) hx hb hml hown hts tw1012 mv_X8_limits ⟨Nat.le_of_ble_eq_true rfl, Nat.le_of_ble_eq_true rfl⟩ rfl rfl (ct_X8_limits l D ct a ms_ ah_ hi_ kp_ sl_ sv_ pd_ ln_ so_ po_ wr_ to_ _ v163 v165 v167 v169 k v170 ms171 ah172 hi173 kp174 hc) (z_wv hK hP hD [22, 23, 24, 25, 26, 27, 28, 29, 30] (by decide) rfl 22 rfl rfl) hl.1 rfl rfl (Nat.le_of_ble_eq_true rfl) dL_law_460 ⟨hcl, hsl⟩) (fun H locs hP hD hS => ?_)
          refine zc_eq (tgt := 1002) hx hb dL_law_463 (by decide) h (fun h => ?_) (fun h => ?_)
          · refine o_nm h (fun v175 ey h => ?_)
            refine lv_iinc (v := v175) (lv' := [(3, .int v175), (0, .ref (b)), (1, .ref (a 0)), (2, .ref (a 30))]) hx hb dL_law_1002 hl (k := 3) rfl (Eq.trans rfl ey) (by decide) rfl (fun ls hl => ?_)
            refine lv_goto (tgt := 18) hx hb dL_law_1005 (by decide) ?_
            exact ih18 f158 g159 nx160 hz161 sw_ fl_ sg_ pl_ pa_ pk_ pn_ pf_ pg_ ms171 ah172 hi173 kp174 sl_ sv_ pd_ ln_ so_ po_ wr_ to_ v175 h _ _ hP hD hS ls (lv_sub hl [1, 2, 3, 0] rfl)
          · refine lv_iconst (v := (0 : Int32)) hx hb dL_law_466 (by decide) ?_
            exact absurd h (by decide)
        refine o_sw h (fun q8 h => ?_) (fun q8 h => ?_)
        · refine lv_tableIn (off := (436 : Int)) (tgt := 468) hx hb dL_law_32 (by rw [q8]; decide) (by rw [q8]; decide) (by rw [q8]; decide) (by decide) ?_
          refine lv_aload_n hx hb dL_law_468 rfl (lv_at hl 1 rfl) ?_
          refine lv_aload_n hx hb dL_law_469 rfl (lv_at hl 0 rfl) ?_
          refine lv_iload_n hx hb dL_law_470 rfl (lv_at hl 3 rfl) ?_
          refine lv_iconst (v := (1 : Int32)) hx hb dL_law_471 (by decide) ?_
          refine o_iadd hx hb dL_law_472 h (fun v176 h => ?_)
          refine o_sld hx hb hX hbl hbA hS h dL_law_473 (fun v177 h => ?_)
          refine lv_aload_n hx hb dL_law_474 rfl (lv_at hl 0 rfl) ?_
          refine lv_iload_n hx hb dL_law_475 rfl (lv_at hl 3 rfl) ?_
          refine lv_iconst (v := (2 : Int32)) hx hb dL_law_476 (by decide) ?_
          refine o_iadd hx hb dL_law_477 h (fun v178 h => ?_)
          refine o_sld hx hb hX hbl hbA hS h dL_law_478 (fun v179 h => ?_)
          refine lv_aload_n hx hb dL_law_479 rfl (lv_at hl 0 rfl) ?_
          refine lv_iload_n hx hb dL_law_480 rfl (lv_at hl 3 rfl) ?_
          refine lv_iconst (v := (3 : Int32)) hx hb dL_law_481 (by decide) ?_
          refine o_iadd hx hb dL_law_482 h (fun v180 h => ?_)
          refine o_sld hx hb hX hbl hbA hS h dL_law_483 (fun v181 h => ?_)
          obtain ⟨v182, f183, g184, nx185, hz186, hc, h⟩ := zb5_s h
          refine zG_i (w1 := wX7 ct a f183 g184 nx185 hz186 sw_ fl_ sg_ pl_ pa_ pk_ pn_ pf_ pg_) (ws' := (wX7 ct a f183 g184 nx185 hz186 sw_ fl_ sg_ pl_ pa_ pk_ pn_ pf_ pg_ ++ wX8 ct a ms_ ah_ hi_ kp_ sl_ sv_ pd_ ln_ so_ po_ wr_ to_)) hP hD hS hA [0, 1, 2, 3, 4, 5, 6, 7, 8, 9, 10, 11, 12, 13, 14, 15, 16, 17, 18, 19, 20, 21] [22, 23, 24, 25, 26, 27, 28, 29, 30] [9, 10, 11, 12, 13, 14, 15, 16, 17, 18, 19, 20, 21, 22, 23, 24, 25, 26, 27, 28, 29, 30, 0, 1, 2, 3, 4, 5, 6, 7, 8] rfl rfl (by decide) (by decide) rfl (by decide) (zrV (C := RX7) (As := [.int v177, .int v179, .int v181]) (rest := []) hx hb hml hown hts tw405 mv_X7_load ⟨Nat.le_of_ble_eq_true rfl, Nat.le_of_ble_eq_true rfl⟩ rfl rfl (ct_X7_load l D ct a f_ g_ nx_ hz_ sw_ fl_ sg_ pl_ pa_ pk_ pn_ pf_ pg_ _ v177 v179 v181 k v182 f183 g184 nx185 hz186 hc) (z_wv hK hP hD [0, 1, 2, 3, 4, 5, 6, 7, 8, 9, 10, 11, 12, 13, 14, 15, 16, 17, 18, 19, 20, 21] (by decide) rfl 0 rfl rfl) hl.1 rfl rfl (Nat.le_of_ble_eq_true rfl) dL_law_484 ⟨hcl, hsl⟩) (fun H locs hP hD hS => ?_)
          refine lv_aload_n hx hb dL_law_487 rfl (lv_at hl 2 rfl) ?_
          refine lv_aload_n hx hb dL_law_488 rfl (lv_at hl 0 rfl) ?_
          refine lv_iload_n hx hb dL_law_489 rfl (lv_at hl 3 rfl) ?_
          refine lv_iconst (v := (1 : Int32)) hx hb dL_law_490 (by decide) ?_
          refine o_iadd hx hb dL_law_491 h (fun v187 h => ?_)
          refine o_sld hx hb hX hbl hbA hS h dL_law_492 (fun v188 h => ?_)
          refine lv_aload_n hx hb dL_law_493 rfl (lv_at hl 0 rfl) ?_
          refine lv_iload_n hx hb dL_law_494 rfl (lv_at hl 3 rfl) ?_
          refine lv_iconst (v := (2 : Int32)) hx hb dL_law_495 (by decide) ?_
          refine o_iadd hx hb dL_law_496 h (fun v189 h => ?_)
          refine o_sld hx hb hX hbl hbA hS h dL_law_497 (fun v190 h => ?_)
          refine lv_aload_n hx hb dL_law_498 rfl (lv_at hl 0 rfl) ?_
          refine lv_iload_n hx hb dL_law_499 rfl (lv_at hl 3 rfl) ?_
          refine lv_iconst (v := (3 : Int32)) hx hb dL_law_500 (by decide) ?_
          refine o_iadd hx hb dL_law_501 h (fun v191 h => ?_)
          refine o_sld hx hb hX hbl hbA hS h dL_law_502 (fun v192 h => ?_)
          obtain ⟨v193, ms194, ah195, hi196, kp197, so198, hc, h⟩ := zb6_s h
          refine zG_i (w1 := wX8 ct a ms194 ah195 hi196 kp197 sl_ sv_ pd_ ln_ so198 po_ wr_ to_) (ws' := (wX7 ct a f183 g184 nx185 hz186 sw_ fl_ sg_ pl_ pa_ pk_ pn_ pf_ pg_ ++ wX8 ct a ms194 ah195 hi196 kp197 sl_ sv_ pd_ ln_ so198 po_ wr_ to_)) hP hD hS hA [22, 23, 24, 25, 26, 27, 28, 29, 30] [0, 1, 2, 3, 4, 5, 6, 7, 8, 9, 10, 11, 12, 13, 14, 15, 16, 17, 18, 19, 20, 21] [0, 1, 2, 3, 4, 5, 6, 7, 8, 9, 10, 11, 12, 13, 14, 15, 16, 17, 18, 19, 20, 21, 22, 23, 24, 25, 26, 27, 28, 29, 30] rfl rfl (by decide) (by decide) rfl (by decide) (zrV (C := RX8) (As := [.int v188, .int v190, .int v192]) (rest := [.int v182]) hx hb hml hown hts tw1016 mv_X8_load ⟨Nat.le_of_ble_eq_true rfl, Nat.le_of_ble_eq_true rfl⟩ rfl rfl (ct_X8_load l D ct a ms_ ah_ hi_ kp_ sl_ sv_ pd_ ln_ so_ po_ wr_ to_ _ v188 v190 v192 k v193 ms194 ah195 hi196 kp197 so198 hc) (z_wv hK hP hD [22, 23, 24, 25, 26, 27, 28, 29, 30] (by decide) rfl 22 rfl rfl) hl.1 rfl rfl (Nat.le_of_ble_eq_true rfl) dL_law_503 ⟨hcl, hsl⟩) (fun H locs hP hD hS => ?_)
          refine zc_eq (tgt := 1002) hx hb dL_law_506 (by decide) h (fun h => ?_) (fun h => ?_)
          · refine o_nm h (fun v199 ey h => ?_)
            refine lv_iinc (v := v199) (lv' := [(3, .int v199), (0, .ref (b)), (1, .ref (a 0)), (2, .ref (a 30))]) hx hb dL_law_1002 hl (k := 3) rfl (Eq.trans rfl ey) (by decide) rfl (fun ls hl => ?_)
            refine lv_goto (tgt := 18) hx hb dL_law_1005 (by decide) ?_
            exact ih18 f183 g184 nx185 hz186 sw_ fl_ sg_ pl_ pa_ pk_ pn_ pf_ pg_ ms194 ah195 hi196 kp197 sl_ sv_ pd_ ln_ so198 po_ wr_ to_ v199 h _ _ hP hD hS ls (lv_sub hl [1, 2, 3, 0] rfl)
          · refine lv_iconst (v := (0 : Int32)) hx hb dL_law_509 (by decide) ?_
            exact absurd h (by decide)
        refine o_sw h (fun q9 h => ?_) (fun q9 h => ?_)
        · refine lv_tableIn (off := (479 : Int)) (tgt := 511) hx hb dL_law_32 (by rw [q9]; decide) (by rw [q9]; decide) (by rw [q9]; decide) (by decide) ?_
          refine lv_aload_n hx hb dL_law_511 rfl (lv_at hl 1 rfl) ?_
          refine lv_aload_n hx hb dL_law_512 rfl (lv_at hl 0 rfl) ?_
          refine lv_iload_n hx hb dL_law_513 rfl (lv_at hl 3 rfl) ?_
          refine lv_iconst (v := (1 : Int32)) hx hb dL_law_514 (by decide) ?_
          refine o_iadd hx hb dL_law_515 h (fun v200 h => ?_)
          refine o_sld hx hb hX hbl hbA hS h dL_law_516 (fun v201 h => ?_)
          obtain ⟨v202, f203, g204, nx205, hz206, hc, h⟩ := zb5_s h
          refine zG_i (w1 := wX7 ct a f203 g204 nx205 hz206 sw_ fl_ sg_ pl_ pa_ pk_ pn_ pf_ pg_) (ws' := (wX7 ct a f203 g204 nx205 hz206 sw_ fl_ sg_ pl_ pa_ pk_ pn_ pf_ pg_ ++ wX8 ct a ms_ ah_ hi_ kp_ sl_ sv_ pd_ ln_ so_ po_ wr_ to_)) hP hD hS hA [0, 1, 2, 3, 4, 5, 6, 7, 8, 9, 10, 11, 12, 13, 14, 15, 16, 17, 18, 19, 20, 21] [22, 23, 24, 25, 26, 27, 28, 29, 30] [9, 10, 11, 12, 13, 14, 15, 16, 17, 18, 19, 20, 21, 22, 23, 24, 25, 26, 27, 28, 29, 30, 0, 1, 2, 3, 4, 5, 6, 7, 8] rfl rfl (by decide) (by decide) rfl (by decide) (zrV (C := RX7) (As := [.int v201]) (rest := []) hx hb hml hown hts tw429 mv_X7_unload ⟨Nat.le_of_ble_eq_true rfl, Nat.le_of_ble_eq_true rfl⟩ rfl rfl (ct_X7_unload l D ct a f_ g_ nx_ hz_ sw_ fl_ sg_ pl_ pa_ pk_ pn_ pf_ pg_ _ v201 k v202 f203 g204 nx205 hz206 hc) (z_wv hK hP hD [0, 1, 2, 3, 4, 5, 6, 7, 8, 9, 10, 11, 12, 13, 14, 15, 16, 17, 18, 19, 20, 21] (by decide) rfl 0 rfl rfl) hl.1 rfl rfl (Nat.le_of_ble_eq_true rfl) dL_law_517 ⟨hcl, hsl⟩) (fun H locs hP hD hS => ?_)
          refine lv_aload_n hx hb dL_law_520 rfl (lv_at hl 2 rfl) ?_
          refine lv_aload_n hx hb dL_law_521 rfl (lv_at hl 0 rfl) ?_
          refine lv_iload_n hx hb dL_law_522 rfl (lv_at hl 3 rfl) ?_
          refine lv_iconst (v := (1 : Int32)) hx hb dL_law_523 (by decide) ?_
          refine o_iadd hx hb dL_law_524 h (fun v207 h => ?_)
          refine o_sld hx hb hX hbl hbA hS h dL_law_525 (fun v208 h => ?_)
          obtain ⟨v209, ms210, ah211, hi212, kp213, hc, h⟩ := zb5_s h
          refine zG_i (w1 := wX8 ct a ms210 ah211 hi212 kp213 sl_ sv_ pd_ ln_ so_ po_ wr_ to_) (ws' := (wX7 ct a f203 g204 nx205 hz206 sw_ fl_ sg_ pl_ pa_ pk_ pn_ pf_ pg_ ++ wX8 ct a ms210 ah211 hi212 kp213 sl_ sv_ pd_ ln_ so_ po_ wr_ to_)) hP hD hS hA [22, 23, 24, 25, 26, 27, 28, 29, 30] [0, 1, 2, 3, 4, 5, 6, 7, 8, 9, 10, 11, 12, 13, 14, 15, 16, 17, 18, 19, 20, 21] [0, 1, 2, 3, 4, 5, 6, 7, 8, 9, 10, 11, 12, 13, 14, 15, 16, 17, 18, 19, 20, 21, 22, 23, 24, 25, 26, 27, 28, 29, 30] rfl rfl (by decide) (by decide) rfl (by decide) (zrV (C := RX8) (As := [.int v208]) (rest := [.int v202]) hx hb hml hown hts tw1020 mv_X8_unload ⟨Nat.le_of_ble_eq_true rfl, Nat.le_of_ble_eq_true rfl⟩ rfl rfl (ct_X8_unload l D ct a ms_ ah_ hi_ kp_ sl_ sv_ pd_ ln_ so_ po_ wr_ to_ _ v208 k v209 ms210 ah211 hi212 kp213 hc) (z_wv hK hP hD [22, 23, 24, 25, 26, 27, 28, 29, 30] (by decide) rfl 22 rfl rfl) hl.1 rfl rfl (Nat.le_of_ble_eq_true rfl) dL_law_526 ⟨hcl, hsl⟩) (fun H locs hP hD hS => ?_)
          refine zc_eq (tgt := 1002) hx hb dL_law_529 (by decide) h (fun h => ?_) (fun h => ?_)
          · refine o_nm h (fun v214 ey h => ?_)
            refine lv_iinc (v := v214) (lv' := [(3, .int v214), (0, .ref (b)), (1, .ref (a 0)), (2, .ref (a 30))]) hx hb dL_law_1002 hl (k := 3) rfl (Eq.trans rfl ey) (by decide) rfl (fun ls hl => ?_)
            refine lv_goto (tgt := 18) hx hb dL_law_1005 (by decide) ?_
            exact ih18 f203 g204 nx205 hz206 sw_ fl_ sg_ pl_ pa_ pk_ pn_ pf_ pg_ ms210 ah211 hi212 kp213 sl_ sv_ pd_ ln_ so_ po_ wr_ to_ v214 h _ _ hP hD hS ls (lv_sub hl [1, 2, 3, 0] rfl)
          · refine lv_iconst (v := (0 : Int32)) hx hb dL_law_532 (by decide) ?_
            exact absurd h (by decide)
        refine o_sw h (fun q10 h => ?_) (fun q10 h => ?_)
        · refine lv_tableIn (off := (502 : Int)) (tgt := 534) hx hb dL_law_32 (by rw [q10]; decide) (by rw [q10]; decide) (by rw [q10]; decide) (by decide) ?_
          refine lv_aload_n hx hb dL_law_534 rfl (lv_at hl 1 rfl) ?_
          refine lv_aload_n hx hb dL_law_535 rfl (lv_at hl 0 rfl) ?_
          refine lv_iload_n hx hb dL_law_536 rfl (lv_at hl 3 rfl) ?_
          refine lv_iconst (v := (1 : Int32)) hx hb dL_law_537 (by decide) ?_
          refine o_iadd hx hb dL_law_538 h (fun v215 h => ?_)
          refine o_sld hx hb hX hbl hbA hS h dL_law_539 (fun v216 h => ?_)
          obtain ⟨v217, f218, g219, nx220, hz221, hc, h⟩ := zb5_s h
          refine zG_i (w1 := wX7 ct a f218 g219 nx220 hz221 sw_ fl_ sg_ pl_ pa_ pk_ pn_ pf_ pg_) (ws' := (wX7 ct a f218 g219 nx220 hz221 sw_ fl_ sg_ pl_ pa_ pk_ pn_ pf_ pg_ ++ wX8 ct a ms_ ah_ hi_ kp_ sl_ sv_ pd_ ln_ so_ po_ wr_ to_)) hP hD hS hA [0, 1, 2, 3, 4, 5, 6, 7, 8, 9, 10, 11, 12, 13, 14, 15, 16, 17, 18, 19, 20, 21] [22, 23, 24, 25, 26, 27, 28, 29, 30] [9, 10, 11, 12, 13, 14, 15, 16, 17, 18, 19, 20, 21, 22, 23, 24, 25, 26, 27, 28, 29, 30, 0, 1, 2, 3, 4, 5, 6, 7, 8] rfl rfl (by decide) (by decide) rfl (by decide) (zrV (C := RX7) (As := [.int v216]) (rest := []) hx hb hml hown hts tw437 mv_X7_leave ⟨Nat.le_of_ble_eq_true rfl, Nat.le_of_ble_eq_true rfl⟩ rfl rfl (ct_X7_leave l D ct a f_ g_ nx_ hz_ sw_ fl_ sg_ pl_ pa_ pk_ pn_ pf_ pg_ _ v216 k v217 f218 g219 nx220 hz221 hc) (z_wv hK hP hD [0, 1, 2, 3, 4, 5, 6, 7, 8, 9, 10, 11, 12, 13, 14, 15, 16, 17, 18, 19, 20, 21] (by decide) rfl 0 rfl rfl) hl.1 rfl rfl (Nat.le_of_ble_eq_true rfl) dL_law_540 ⟨hcl, hsl⟩) (fun H locs hP hD hS => ?_)
          refine lv_aload_n hx hb dL_law_543 rfl (lv_at hl 2 rfl) ?_
          refine lv_aload_n hx hb dL_law_544 rfl (lv_at hl 0 rfl) ?_
          refine lv_iload_n hx hb dL_law_545 rfl (lv_at hl 3 rfl) ?_
          refine lv_iconst (v := (1 : Int32)) hx hb dL_law_546 (by decide) ?_
          refine o_iadd hx hb dL_law_547 h (fun v222 h => ?_)
          refine o_sld hx hb hX hbl hbA hS h dL_law_548 (fun v223 h => ?_)
          obtain ⟨v224, ms225, ah226, hi227, kp228, so229, hc, h⟩ := zb6_s h
          refine zG_i (w1 := wX8 ct a ms225 ah226 hi227 kp228 sl_ sv_ pd_ ln_ so229 po_ wr_ to_) (ws' := (wX7 ct a f218 g219 nx220 hz221 sw_ fl_ sg_ pl_ pa_ pk_ pn_ pf_ pg_ ++ wX8 ct a ms225 ah226 hi227 kp228 sl_ sv_ pd_ ln_ so229 po_ wr_ to_)) hP hD hS hA [22, 23, 24, 25, 26, 27, 28, 29, 30] [0, 1, 2, 3, 4, 5, 6, 7, 8, 9, 10, 11, 12, 13, 14, 15, 16, 17, 18, 19, 20, 21] [0, 1, 2, 3, 4, 5, 6, 7, 8, 9, 10, 11, 12, 13, 14, 15, 16, 17, 18, 19, 20, 21, 22, 23, 24, 25, 26, 27, 28, 29, 30] rfl rfl (by decide) (by decide) rfl (by decide) (zrV (C := RX8) (As := [.int v223]) (rest := [.int v217]) hx hb hml hown hts tw1024 mv_X8_leave ⟨Nat.le_of_ble_eq_true rfl, Nat.le_of_ble_eq_true rfl⟩ rfl rfl (ct_X8_leave l D ct a ms_ ah_ hi_ kp_ sl_ sv_ pd_ ln_ so_ po_ wr_ to_ _ v223 k v224 ms225 ah226 hi227 kp228 so229 hc) (z_wv hK hP hD [22, 23, 24, 25, 26, 27, 28, 29, 30] (by decide) rfl 22 rfl rfl) hl.1 rfl rfl (Nat.le_of_ble_eq_true rfl) dL_law_549 ⟨hcl, hsl⟩) (fun H locs hP hD hS => ?_)
          refine zc_eq (tgt := 1002) hx hb dL_law_552 (by decide) h (fun h => ?_) (fun h => ?_)
          · refine o_nm h (fun v230 ey h => ?_)
            refine lv_iinc (v := v230) (lv' := [(3, .int v230), (0, .ref (b)), (1, .ref (a 0)), (2, .ref (a 30))]) hx hb dL_law_1002 hl (k := 3) rfl (Eq.trans rfl ey) (by decide) rfl (fun ls hl => ?_)
            refine lv_goto (tgt := 18) hx hb dL_law_1005 (by decide) ?_
            exact ih18 f218 g219 nx220 hz221 sw_ fl_ sg_ pl_ pa_ pk_ pn_ pf_ pg_ ms225 ah226 hi227 kp228 sl_ sv_ pd_ ln_ so229 po_ wr_ to_ v230 h _ _ hP hD hS ls (lv_sub hl [1, 2, 3, 0] rfl)
          · refine lv_iconst (v := (0 : Int32)) hx hb dL_law_555 (by decide) ?_
            exact absurd h (by decide)
        refine o_sw h (fun q11 h => ?_) (fun q11 h => ?_)
        · refine lv_tableIn (off := (525 : Int)) (tgt := 557) hx hb dL_law_32 (by rw [q11]; decide) (by rw [q11]; decide) (by rw [q11]; decide) (by decide) ?_
          refine lv_aload_n hx hb dL_law_557 rfl (lv_at hl 1 rfl) ?_
          refine lv_aload_n hx hb dL_law_558 rfl (lv_at hl 0 rfl) ?_
          refine lv_iload_n hx hb dL_law_559 rfl (lv_at hl 3 rfl) ?_
          refine lv_iconst (v := (1 : Int32)) hx hb dL_law_560 (by decide) ?_
          refine o_iadd hx hb dL_law_561 h (fun v231 h => ?_)
          refine o_sld hx hb hX hbl hbA hS h dL_law_562 (fun v232 h => ?_)
          obtain ⟨v233, f234, g235, nx236, hz237, hc, h⟩ := zb5_s h
          refine zG_i (w1 := wX7 ct a f234 g235 nx236 hz237 sw_ fl_ sg_ pl_ pa_ pk_ pn_ pf_ pg_) (ws' := (wX7 ct a f234 g235 nx236 hz237 sw_ fl_ sg_ pl_ pa_ pk_ pn_ pf_ pg_ ++ wX8 ct a ms_ ah_ hi_ kp_ sl_ sv_ pd_ ln_ so_ po_ wr_ to_)) hP hD hS hA [0, 1, 2, 3, 4, 5, 6, 7, 8, 9, 10, 11, 12, 13, 14, 15, 16, 17, 18, 19, 20, 21] [22, 23, 24, 25, 26, 27, 28, 29, 30] [9, 10, 11, 12, 13, 14, 15, 16, 17, 18, 19, 20, 21, 22, 23, 24, 25, 26, 27, 28, 29, 30, 0, 1, 2, 3, 4, 5, 6, 7, 8] rfl rfl (by decide) (by decide) rfl (by decide) (zrV (C := RX7) (As := [.int v232]) (rest := []) hx hb hml hown hts tw472 mv_X7_night ⟨Nat.le_of_ble_eq_true rfl, Nat.le_of_ble_eq_true rfl⟩ rfl rfl (ct_X7_night l D ct a f_ g_ nx_ hz_ sw_ fl_ sg_ pl_ pa_ pk_ pn_ pf_ pg_ _ v232 k v233 f234 g235 nx236 hz237 hc) (z_wv hK hP hD [0, 1, 2, 3, 4, 5, 6, 7, 8, 9, 10, 11, 12, 13, 14, 15, 16, 17, 18, 19, 20, 21] (by decide) rfl 0 rfl rfl) hl.1 rfl rfl (Nat.le_of_ble_eq_true rfl) dL_law_563 ⟨hcl, hsl⟩) (fun H locs hP hD hS => ?_)
          refine lv_aload_n hx hb dL_law_566 rfl (lv_at hl 2 rfl) ?_
          refine lv_aload_n hx hb dL_law_567 rfl (lv_at hl 0 rfl) ?_
          refine lv_iload_n hx hb dL_law_568 rfl (lv_at hl 3 rfl) ?_
          refine lv_iconst (v := (1 : Int32)) hx hb dL_law_569 (by decide) ?_
          refine o_iadd hx hb dL_law_570 h (fun v238 h => ?_)
          refine o_sld hx hb hX hbl hbA hS h dL_law_571 (fun v239 h => ?_)
          obtain ⟨v240, ms241, ah242, hi243, kp244, so245, hc, h⟩ := zb6_s h
          refine zG_i (w1 := wX8 ct a ms241 ah242 hi243 kp244 sl_ sv_ pd_ ln_ so245 po_ wr_ to_) (ws' := (wX7 ct a f234 g235 nx236 hz237 sw_ fl_ sg_ pl_ pa_ pk_ pn_ pf_ pg_ ++ wX8 ct a ms241 ah242 hi243 kp244 sl_ sv_ pd_ ln_ so245 po_ wr_ to_)) hP hD hS hA [22, 23, 24, 25, 26, 27, 28, 29, 30] [0, 1, 2, 3, 4, 5, 6, 7, 8, 9, 10, 11, 12, 13, 14, 15, 16, 17, 18, 19, 20, 21] [0, 1, 2, 3, 4, 5, 6, 7, 8, 9, 10, 11, 12, 13, 14, 15, 16, 17, 18, 19, 20, 21, 22, 23, 24, 25, 26, 27, 28, 29, 30] rfl rfl (by decide) (by decide) rfl (by decide) (zrV (C := RX8) (As := [.int v239]) (rest := [.int v233]) hx hb hml hown hts tw1028 mv_X8_night ⟨Nat.le_of_ble_eq_true rfl, Nat.le_of_ble_eq_true rfl⟩ rfl rfl (ct_X8_night l D ct a ms_ ah_ hi_ kp_ sl_ sv_ pd_ ln_ so_ po_ wr_ to_ _ v239 k v240 ms241 ah242 hi243 kp244 so245 hc) (z_wv hK hP hD [22, 23, 24, 25, 26, 27, 28, 29, 30] (by decide) rfl 22 rfl rfl) hl.1 rfl rfl (Nat.le_of_ble_eq_true rfl) dL_law_572 ⟨hcl, hsl⟩) (fun H locs hP hD hS => ?_)
          refine zc_eq (tgt := 1002) hx hb dL_law_575 (by decide) h (fun h => ?_) (fun h => ?_)
          · refine o_nm h (fun v246 ey h => ?_)
            refine lv_iinc (v := v246) (lv' := [(3, .int v246), (0, .ref (b)), (1, .ref (a 0)), (2, .ref (a 30))]) hx hb dL_law_1002 hl (k := 3) rfl (Eq.trans rfl ey) (by decide) rfl (fun ls hl => ?_)
            refine lv_goto (tgt := 18) hx hb dL_law_1005 (by decide) ?_
            exact ih18 f234 g235 nx236 hz237 sw_ fl_ sg_ pl_ pa_ pk_ pn_ pf_ pg_ ms241 ah242 hi243 kp244 sl_ sv_ pd_ ln_ so245 po_ wr_ to_ v246 h _ _ hP hD hS ls (lv_sub hl [1, 2, 3, 0] rfl)
          · refine lv_iconst (v := (0 : Int32)) hx hb dL_law_578 (by decide) ?_
            exact absurd h (by decide)
        refine o_sw h (fun q12 h => ?_) (fun q12 h => ?_)
        · refine lv_tableIn (off := (548 : Int)) (tgt := 580) hx hb dL_law_32 (by rw [q12]; decide) (by rw [q12]; decide) (by rw [q12]; decide) (by decide) ?_
          refine lv_aload_n hx hb dL_law_580 rfl (lv_at hl 1 rfl) ?_
          refine lv_aload_n hx hb dL_law_581 rfl (lv_at hl 0 rfl) ?_
          refine lv_iload_n hx hb dL_law_582 rfl (lv_at hl 3 rfl) ?_
          refine lv_iconst (v := (1 : Int32)) hx hb dL_law_583 (by decide) ?_
          refine o_iadd hx hb dL_law_584 h (fun v247 h => ?_)
          refine o_sld hx hb hX hbl hbA hS h dL_law_585 (fun v248 h => ?_)
          refine lv_aload_n hx hb dL_law_586 rfl (lv_at hl 0 rfl) ?_
          refine lv_iload_n hx hb dL_law_587 rfl (lv_at hl 3 rfl) ?_
          refine lv_iconst (v := (2 : Int32)) hx hb dL_law_588 (by decide) ?_
          refine o_iadd hx hb dL_law_589 h (fun v249 h => ?_)
          refine o_sld hx hb hX hbl hbA hS h dL_law_590 (fun v250 h => ?_)
          obtain ⟨v251, hc, h⟩ := zb1_s h
          refine zE_i (zrV (C := RX7) (As := [.int v248, .int v250]) (rest := []) hx hb hml hown hts tw494 mv_X7_of ⟨Nat.le_of_ble_eq_true rfl, Nat.le_of_ble_eq_true rfl⟩ rfl rfl (ct_X7_of l D ct a f_ g_ nx_ hz_ sw_ fl_ sg_ pl_ pa_ pk_ pn_ pf_ pg_ v248 v250 k v251 hc) (z_pv hK hP [0, 1, 2, 3, 4, 5, 6, 7, 8, 9, 10, 11, 12, 13, 14, 15, 16, 17, 18, 19, 20, 21] rfl 0 rfl rfl) hl.1 rfl rfl (Nat.le_of_ble_eq_true rfl) dL_law_591 ⟨hcl, hsl⟩) ?_
          refine lv_aload_n hx hb dL_law_594 rfl (lv_at hl 2 rfl) ?_
          refine lv_aload_n hx hb dL_law_595 rfl (lv_at hl 0 rfl) ?_
          refine lv_iload_n hx hb dL_law_596 rfl (lv_at hl 3 rfl) ?_
          refine lv_iconst (v := (1 : Int32)) hx hb dL_law_597 (by decide) ?_
          refine o_iadd hx hb dL_law_598 h (fun v252 h => ?_)
          refine o_sld hx hb hX hbl hbA hS h dL_law_599 (fun v253 h => ?_)
          refine lv_aload_n hx hb dL_law_600 rfl (lv_at hl 0 rfl) ?_
          refine lv_iload_n hx hb dL_law_601 rfl (lv_at hl 3 rfl) ?_
          refine lv_iconst (v := (2 : Int32)) hx hb dL_law_602 (by decide) ?_
          refine o_iadd hx hb dL_law_603 h (fun v254 h => ?_)
          refine o_sld hx hb hX hbl hbA hS h dL_law_604 (fun v255 h => ?_)
          obtain ⟨v256, hc, h⟩ := zb1_s h
          refine zE_i (zrV (C := RX8) (As := [.int v253, .int v255]) (rest := [.int v251]) hx hb hml hown hts tw1032 mv_X8_of ⟨Nat.le_of_ble_eq_true rfl, Nat.le_of_ble_eq_true rfl⟩ rfl rfl (ct_X8_of l D ct a ms_ ah_ hi_ kp_ sl_ sv_ pd_ ln_ so_ po_ wr_ to_ v253 v255 k v256 hc) (z_pv hK hP [22, 23, 24, 25, 26, 27, 28, 29, 30] rfl 22 rfl rfl) hl.1 rfl rfl (Nat.le_of_ble_eq_true rfl) dL_law_605 ⟨hcl, hsl⟩) ?_
          refine zc_eq (tgt := 1002) hx hb dL_law_608 (by decide) h (fun h => ?_) (fun h => ?_)
          · refine o_nm h (fun v257 ey h => ?_)
            refine lv_iinc (v := v257) (lv' := [(3, .int v257), (0, .ref (b)), (1, .ref (a 0)), (2, .ref (a 30))]) hx hb dL_law_1002 hl (k := 3) rfl (Eq.trans rfl ey) (by decide) rfl (fun ls hl => ?_)
            refine lv_goto (tgt := 18) hx hb dL_law_1005 (by decide) ?_
            exact ih18 f_ g_ nx_ hz_ sw_ fl_ sg_ pl_ pa_ pk_ pn_ pf_ pg_ ms_ ah_ hi_ kp_ sl_ sv_ pd_ ln_ so_ po_ wr_ to_ v257 h _ _ hP hD hS ls (lv_sub hl [1, 2, 3, 0] rfl)
          · refine lv_iconst (v := (0 : Int32)) hx hb dL_law_611 (by decide) ?_
            exact absurd h (by decide)
        refine o_sw h (fun q13 h => ?_) (fun q13 h => ?_)
        · refine lv_tableIn (off := (581 : Int)) (tgt := 613) hx hb dL_law_32 (by rw [q13]; decide) (by rw [q13]; decide) (by rw [q13]; decide) (by decide) ?_
          refine lv_aload_n hx hb dL_law_613 rfl (lv_at hl 1 rfl) ?_
          refine lv_aload_n hx hb dL_law_614 rfl (lv_at hl 0 rfl) ?_
          refine lv_iload_n hx hb dL_law_615 rfl (lv_at hl 3 rfl) ?_
          refine lv_iconst (v := (1 : Int32)) hx hb dL_law_616 (by decide) ?_
          refine o_iadd hx hb dL_law_617 h (fun v258 h => ?_)
          refine o_sld hx hb hX hbl hbA hS h dL_law_618 (fun v259 h => ?_)
          refine lv_aload_n hx hb dL_law_619 rfl (lv_at hl 0 rfl) ?_
          refine lv_iload_n hx hb dL_law_620 rfl (lv_at hl 3 rfl) ?_
          refine lv_iconst (v := (2 : Int32)) hx hb dL_law_621 (by decide) ?_
          refine o_iadd hx hb dL_law_622 h (fun v260 h => ?_)
          refine o_sld hx hb hX hbl hbA hS h dL_law_623 (fun v261 h => ?_)
          obtain ⟨v262, hc, h⟩ := zb1_s h
          refine zE_i (zrV (C := RX7) (As := [.int v259, .int v261]) (rest := []) hx hb hml hown hts tw500 mv_X7_ofOrder ⟨Nat.le_of_ble_eq_true rfl, Nat.le_of_ble_eq_true rfl⟩ rfl rfl (ct_X7_ofOrder l D ct a f_ g_ nx_ hz_ sw_ fl_ sg_ pl_ pa_ pk_ pn_ pf_ pg_ v259 v261 k v262 hc) (z_pv hK hP [0, 1, 2, 3, 4, 5, 6, 7, 8, 9, 10, 11, 12, 13, 14, 15, 16, 17, 18, 19, 20, 21] rfl 0 rfl rfl) hl.1 rfl rfl (Nat.le_of_ble_eq_true rfl) dL_law_624 ⟨hcl, hsl⟩) ?_
          refine lv_aload_n hx hb dL_law_627 rfl (lv_at hl 2 rfl) ?_
          refine lv_aload_n hx hb dL_law_628 rfl (lv_at hl 0 rfl) ?_
          refine lv_iload_n hx hb dL_law_629 rfl (lv_at hl 3 rfl) ?_
          refine lv_iconst (v := (1 : Int32)) hx hb dL_law_630 (by decide) ?_
          refine o_iadd hx hb dL_law_631 h (fun v263 h => ?_)
          refine o_sld hx hb hX hbl hbA hS h dL_law_632 (fun v264 h => ?_)
          refine lv_aload_n hx hb dL_law_633 rfl (lv_at hl 0 rfl) ?_
          refine lv_iload_n hx hb dL_law_634 rfl (lv_at hl 3 rfl) ?_
          refine lv_iconst (v := (2 : Int32)) hx hb dL_law_635 (by decide) ?_
          refine o_iadd hx hb dL_law_636 h (fun v265 h => ?_)
          refine o_sld hx hb hX hbl hbA hS h dL_law_637 (fun v266 h => ?_)
          obtain ⟨v267, so268, hc, h⟩ := zb2_s h
          refine zG_i (w1 := wX8 ct a ms_ ah_ hi_ kp_ sl_ sv_ pd_ ln_ so268 po_ wr_ to_) (ws' := (wX7 ct a f_ g_ nx_ hz_ sw_ fl_ sg_ pl_ pa_ pk_ pn_ pf_ pg_ ++ wX8 ct a ms_ ah_ hi_ kp_ sl_ sv_ pd_ ln_ so268 po_ wr_ to_)) hP hD hS hA [22, 23, 24, 25, 26, 27, 28, 29, 30] [0, 1, 2, 3, 4, 5, 6, 7, 8, 9, 10, 11, 12, 13, 14, 15, 16, 17, 18, 19, 20, 21] [0, 1, 2, 3, 4, 5, 6, 7, 8, 9, 10, 11, 12, 13, 14, 15, 16, 17, 18, 19, 20, 21, 22, 23, 24, 25, 26, 27, 28, 29, 30] rfl rfl (by decide) (by decide) rfl (by decide) (zrV (C := RX8) (As := [.int v264, .int v266]) (rest := [.int v262]) hx hb hml hown hts tw1036 mv_X8_ofOrder ⟨Nat.le_of_ble_eq_true rfl, Nat.le_of_ble_eq_true rfl⟩ rfl rfl (ct_X8_ofOrder l D ct a ms_ ah_ hi_ kp_ sl_ sv_ pd_ ln_ so_ po_ wr_ to_ _ v264 v266 k v267 so268 hc) (z_wv hK hP hD [22, 23, 24, 25, 26, 27, 28, 29, 30] (by decide) rfl 22 rfl rfl) hl.1 rfl rfl (Nat.le_of_ble_eq_true rfl) dL_law_638 ⟨hcl, hsl⟩) (fun H locs hP hD hS => ?_)
          refine zc_eq (tgt := 1002) hx hb dL_law_641 (by decide) h (fun h => ?_) (fun h => ?_)
          · refine o_nm h (fun v269 ey h => ?_)
            refine lv_iinc (v := v269) (lv' := [(3, .int v269), (0, .ref (b)), (1, .ref (a 0)), (2, .ref (a 30))]) hx hb dL_law_1002 hl (k := 3) rfl (Eq.trans rfl ey) (by decide) rfl (fun ls hl => ?_)
            refine lv_goto (tgt := 18) hx hb dL_law_1005 (by decide) ?_
            exact ih18 f_ g_ nx_ hz_ sw_ fl_ sg_ pl_ pa_ pk_ pn_ pf_ pg_ ms_ ah_ hi_ kp_ sl_ sv_ pd_ ln_ so268 po_ wr_ to_ v269 h _ _ hP hD hS ls (lv_sub hl [1, 2, 3, 0] rfl)
          · refine lv_iconst (v := (0 : Int32)) hx hb dL_law_644 (by decide) ?_
            exact absurd h (by decide)
        refine o_sw h (fun q14 h => ?_) (fun q14 h => ?_)
        · refine lv_tableIn (off := (614 : Int)) (tgt := 646) hx hb dL_law_32 (by rw [q14]; decide) (by rw [q14]; decide) (by rw [q14]; decide) (by decide) ?_
          refine lv_aload_n hx hb dL_law_646 rfl (lv_at hl 1 rfl) ?_
          refine lv_aload_n hx hb dL_law_647 rfl (lv_at hl 0 rfl) ?_
          refine lv_iload_n hx hb dL_law_648 rfl (lv_at hl 3 rfl) ?_
          refine lv_iconst (v := (1 : Int32)) hx hb dL_law_649 (by decide) ?_
          refine o_iadd hx hb dL_law_650 h (fun v270 h => ?_)
          refine o_sld hx hb hX hbl hbA hS h dL_law_651 (fun v271 h => ?_)
          refine lv_aload_n hx hb dL_law_652 rfl (lv_at hl 0 rfl) ?_
          refine lv_iload_n hx hb dL_law_653 rfl (lv_at hl 3 rfl) ?_
          refine lv_iconst (v := (2 : Int32)) hx hb dL_law_654 (by decide) ?_
          refine o_iadd hx hb dL_law_655 h (fun v272 h => ?_)
          refine o_sld hx hb hX hbl hbA hS h dL_law_656 (fun v273 h => ?_)
          obtain ⟨v274, hc, h⟩ := zb1_s h
          refine zE_i (zrV (C := RX7) (As := [.int v271, .int v273]) (rest := []) hx hb hml hown hts tw511 mv_X7_ofLorry ⟨Nat.le_of_ble_eq_true rfl, Nat.le_of_ble_eq_true rfl⟩ rfl rfl (ct_X7_ofLorry l D ct a f_ g_ nx_ hz_ sw_ fl_ sg_ pl_ pa_ pk_ pn_ pf_ pg_ v271 v273 k v274 hc) (z_pv hK hP [0, 1, 2, 3, 4, 5, 6, 7, 8, 9, 10, 11, 12, 13, 14, 15, 16, 17, 18, 19, 20, 21] rfl 0 rfl rfl) hl.1 rfl rfl (Nat.le_of_ble_eq_true rfl) dL_law_657 ⟨hcl, hsl⟩) ?_
          refine lv_aload_n hx hb dL_law_660 rfl (lv_at hl 2 rfl) ?_
          refine lv_aload_n hx hb dL_law_661 rfl (lv_at hl 0 rfl) ?_
          refine lv_iload_n hx hb dL_law_662 rfl (lv_at hl 3 rfl) ?_
          refine lv_iconst (v := (1 : Int32)) hx hb dL_law_663 (by decide) ?_
          refine o_iadd hx hb dL_law_664 h (fun v275 h => ?_)
          refine o_sld hx hb hX hbl hbA hS h dL_law_665 (fun v276 h => ?_)
          refine lv_aload_n hx hb dL_law_666 rfl (lv_at hl 0 rfl) ?_
          refine lv_iload_n hx hb dL_law_667 rfl (lv_at hl 3 rfl) ?_
          refine lv_iconst (v := (2 : Int32)) hx hb dL_law_668 (by decide) ?_
          refine o_iadd hx hb dL_law_669 h (fun v277 h => ?_)
          refine o_sld hx hb hX hbl hbA hS h dL_law_670 (fun v278 h => ?_)
          obtain ⟨v279, hc, h⟩ := zb1_s h
          refine zE_i (zrV (C := RX8) (As := [.int v276, .int v278]) (rest := [.int v274]) hx hb hml hown hts tw1044 mv_X8_ofLorry ⟨Nat.le_of_ble_eq_true rfl, Nat.le_of_ble_eq_true rfl⟩ rfl rfl (ct_X8_ofLorry l D ct a ms_ ah_ hi_ kp_ sl_ sv_ pd_ ln_ so_ po_ wr_ to_ v276 v278 k v279 hc) (z_pv hK hP [22, 23, 24, 25, 26, 27, 28, 29, 30] rfl 22 rfl rfl) hl.1 rfl rfl (Nat.le_of_ble_eq_true rfl) dL_law_671 ⟨hcl, hsl⟩) ?_
          refine zc_eq (tgt := 1002) hx hb dL_law_674 (by decide) h (fun h => ?_) (fun h => ?_)
          · refine o_nm h (fun v280 ey h => ?_)
            refine lv_iinc (v := v280) (lv' := [(3, .int v280), (0, .ref (b)), (1, .ref (a 0)), (2, .ref (a 30))]) hx hb dL_law_1002 hl (k := 3) rfl (Eq.trans rfl ey) (by decide) rfl (fun ls hl => ?_)
            refine lv_goto (tgt := 18) hx hb dL_law_1005 (by decide) ?_
            exact ih18 f_ g_ nx_ hz_ sw_ fl_ sg_ pl_ pa_ pk_ pn_ pf_ pg_ ms_ ah_ hi_ kp_ sl_ sv_ pd_ ln_ so_ po_ wr_ to_ v280 h _ _ hP hD hS ls (lv_sub hl [1, 2, 3, 0] rfl)
          · refine lv_iconst (v := (0 : Int32)) hx hb dL_law_677 (by decide) ?_
            exact absurd h (by decide)
        refine o_sw h (fun q15 h => ?_) (fun q15 h => ?_)
        · refine lv_tableIn (off := (647 : Int)) (tgt := 679) hx hb dL_law_32 (by rw [q15]; decide) (by rw [q15]; decide) (by rw [q15]; decide) (by decide) ?_
          refine lv_aload_n hx hb dL_law_679 rfl (lv_at hl 1 rfl) ?_
          refine lv_aload_n hx hb dL_law_680 rfl (lv_at hl 0 rfl) ?_
          refine lv_iload_n hx hb dL_law_681 rfl (lv_at hl 3 rfl) ?_
          refine lv_iconst (v := (1 : Int32)) hx hb dL_law_682 (by decide) ?_
          refine o_iadd hx hb dL_law_683 h (fun v281 h => ?_)
          refine o_sld hx hb hX hbl hbA hS h dL_law_684 (fun v282 h => ?_)
          obtain ⟨v283, hc, h⟩ := zb1_s h
          refine zE_i (zrV (C := RX7) (As := [.int v282]) (rest := []) hx hb hml hown hts tw525 mv_X7_count ⟨Nat.le_of_ble_eq_true rfl, Nat.le_of_ble_eq_true rfl⟩ rfl rfl (ct_X7_count l D ct a f_ g_ nx_ hz_ sw_ fl_ sg_ pl_ pa_ pk_ pn_ pf_ pg_ v282 k v283 hc) (z_pv hK hP [0, 1, 2, 3, 4, 5, 6, 7, 8, 9, 10, 11, 12, 13, 14, 15, 16, 17, 18, 19, 20, 21] rfl 0 rfl rfl) hl.1 rfl rfl (Nat.le_of_ble_eq_true rfl) dL_law_685 ⟨hcl, hsl⟩) ?_
          refine lv_aload_n hx hb dL_law_688 rfl (lv_at hl 2 rfl) ?_
          refine lv_aload_n hx hb dL_law_689 rfl (lv_at hl 0 rfl) ?_
          refine lv_iload_n hx hb dL_law_690 rfl (lv_at hl 3 rfl) ?_
          refine lv_iconst (v := (1 : Int32)) hx hb dL_law_691 (by decide) ?_
          refine o_iadd hx hb dL_law_692 h (fun v284 h => ?_)
          refine o_sld hx hb hX hbl hbA hS h dL_law_693 (fun v285 h => ?_)
          obtain ⟨v286, hc, h⟩ := zb1_s h
          refine zE_i (zrV (C := RX8) (As := [.int v285]) (rest := [.int v283]) hx hb hml hown hts tw1054 mv_X8_count ⟨Nat.le_of_ble_eq_true rfl, Nat.le_of_ble_eq_true rfl⟩ rfl rfl (ct_X8_count l D ct a ms_ ah_ hi_ kp_ sl_ sv_ pd_ ln_ so_ po_ wr_ to_ v285 k v286 hc) (z_pv hK hP [22, 23, 24, 25, 26, 27, 28, 29, 30] rfl 22 rfl rfl) hl.1 rfl rfl (Nat.le_of_ble_eq_true rfl) dL_law_694 ⟨hcl, hsl⟩) ?_
          refine zc_eq (tgt := 1002) hx hb dL_law_697 (by decide) h (fun h => ?_) (fun h => ?_)
          · refine o_nm h (fun v287 ey h => ?_)
            refine lv_iinc (v := v287) (lv' := [(3, .int v287), (0, .ref (b)), (1, .ref (a 0)), (2, .ref (a 30))]) hx hb dL_law_1002 hl (k := 3) rfl (Eq.trans rfl ey) (by decide) rfl (fun ls hl => ?_)
            refine lv_goto (tgt := 18) hx hb dL_law_1005 (by decide) ?_
            exact ih18 f_ g_ nx_ hz_ sw_ fl_ sg_ pl_ pa_ pk_ pn_ pf_ pg_ ms_ ah_ hi_ kp_ sl_ sv_ pd_ ln_ so_ po_ wr_ to_ v287 h _ _ hP hD hS ls (lv_sub hl [1, 2, 3, 0] rfl)
          · refine lv_iconst (v := (0 : Int32)) hx hb dL_law_700 (by decide) ?_
            exact absurd h (by decide)
        refine o_sw h (fun q16 h => ?_) (fun q16 h => ?_)
        · refine lv_tableIn (off := (670 : Int)) (tgt := 702) hx hb dL_law_32 (by rw [q16]; decide) (by rw [q16]; decide) (by rw [q16]; decide) (by decide) ?_
          refine lv_aload_n hx hb dL_law_702 rfl (lv_at hl 1 rfl) ?_
          obtain ⟨v288, hc, h⟩ := zb1_s h
          refine zE_l (zrV (C := RX7) (As := []) (rest := []) hx hb hml hown hts tw563 mv_X7_meanWeight ⟨Nat.le_of_ble_eq_true rfl, Nat.le_of_ble_eq_true rfl⟩ rfl rfl (ct_X7_meanWeight l D ct a f_ g_ nx_ hz_ sw_ fl_ sg_ pl_ pa_ pk_ pn_ pf_ pg_ k v288 hc) (z_pv hK hP [0, 1, 2, 3, 4, 5, 6, 7, 8, 9, 10, 11, 12, 13, 14, 15, 16, 17, 18, 19, 20, 21] rfl 0 rfl rfl) hl.1 rfl rfl (Nat.le_of_ble_eq_true rfl) dL_law_703 ⟨hcl, hsl⟩) ?_
          refine lv_aload_n hx hb dL_law_706 rfl (lv_at hl 2 rfl) ?_
          obtain ⟨v289, hc, h⟩ := zb1_s h
          refine zE_l (zrV (C := RX8) (As := []) (rest := [.long v288]) hx hb hml hown hts tw1066 mv_X8_meanWeight ⟨Nat.le_of_ble_eq_true rfl, Nat.le_of_ble_eq_true rfl⟩ rfl rfl (ct_X8_meanWeight l D ct a ms_ ah_ hi_ kp_ sl_ sv_ pd_ ln_ so_ po_ wr_ to_ k v289 hc) (z_pv hK hP [22, 23, 24, 25, 26, 27, 28, 29, 30] rfl 22 rfl rfl) hl.1 rfl rfl (Nat.le_of_ble_eq_true rfl) dL_law_707 ⟨hcl, hsl⟩) ?_
          refine o_lcmp hx hb dL_law_710 h (fun v290 h => ?_)
          refine zi_eq (tgt := 1002) hx hb dL_law_711 (by decide) h (fun h => ?_) (fun h => ?_)
          · refine o_nm h (fun v291 ey h => ?_)
            refine lv_iinc (v := v291) (lv' := [(3, .int v291), (0, .ref (b)), (1, .ref (a 0)), (2, .ref (a 30))]) hx hb dL_law_1002 hl (k := 3) rfl (Eq.trans rfl ey) (by decide) rfl (fun ls hl => ?_)
            refine lv_goto (tgt := 18) hx hb dL_law_1005 (by decide) ?_
            exact ih18 f_ g_ nx_ hz_ sw_ fl_ sg_ pl_ pa_ pk_ pn_ pf_ pg_ ms_ ah_ hi_ kp_ sl_ sv_ pd_ ln_ so_ po_ wr_ to_ v291 h _ _ hP hD hS ls (lv_sub hl [1, 2, 3, 0] rfl)
          · refine lv_iconst (v := (0 : Int32)) hx hb dL_law_714 (by decide) ?_
            exact absurd h (by decide)
        refine o_sw h (fun q17 h => ?_) (fun q17 h => ?_)
        · refine lv_tableIn (off := (684 : Int)) (tgt := 716) hx hb dL_law_32 (by rw [q17]; decide) (by rw [q17]; decide) (by rw [q17]; decide) (by decide) ?_
          refine lv_aload_n hx hb dL_law_716 rfl (lv_at hl 1 rfl) ?_
          refine lv_aload_n hx hb dL_law_717 rfl (lv_at hl 0 rfl) ?_
          refine lv_iload_n hx hb dL_law_718 rfl (lv_at hl 3 rfl) ?_
          refine lv_iconst (v := (1 : Int32)) hx hb dL_law_719 (by decide) ?_
          refine o_iadd hx hb dL_law_720 h (fun v292 h => ?_)
          refine o_sld hx hb hX hbl hbA hS h dL_law_721 (fun v293 h => ?_)
          obtain ⟨v294, hc, h⟩ := zb1_s h
          refine zE_i (zrV (C := RX7) (As := [.int v293]) (rest := []) hx hb hml hown hts tw574 mv_X7_why ⟨Nat.le_of_ble_eq_true rfl, Nat.le_of_ble_eq_true rfl⟩ rfl rfl (ct_X7_why l D ct a f_ g_ nx_ hz_ sw_ fl_ sg_ pl_ pa_ pk_ pn_ pf_ pg_ v293 k v294 hc) (z_pv hK hP [0, 1, 2, 3, 4, 5, 6, 7, 8, 9, 10, 11, 12, 13, 14, 15, 16, 17, 18, 19, 20, 21] rfl 0 rfl rfl) hl.1 rfl rfl (Nat.le_of_ble_eq_true rfl) dL_law_722 ⟨hcl, hsl⟩) ?_
          refine lv_aload_n hx hb dL_law_725 rfl (lv_at hl 2 rfl) ?_
          refine lv_aload_n hx hb dL_law_726 rfl (lv_at hl 0 rfl) ?_
          refine lv_iload_n hx hb dL_law_727 rfl (lv_at hl 3 rfl) ?_
          refine lv_iconst (v := (1 : Int32)) hx hb dL_law_728 (by decide) ?_
          refine o_iadd hx hb dL_law_729 h (fun v295 h => ?_)
          refine o_sld hx hb hX hbl hbA hS h dL_law_730 (fun v296 h => ?_)
          obtain ⟨v297, hc, h⟩ := zb1_s h
          refine zE_i (zrV (C := RX8) (As := [.int v296]) (rest := [.int v294]) hx hb hml hown hts tw1078 mv_X8_why ⟨Nat.le_of_ble_eq_true rfl, Nat.le_of_ble_eq_true rfl⟩ rfl rfl (ct_X8_why l D ct a ms_ ah_ hi_ kp_ sl_ sv_ pd_ ln_ so_ po_ wr_ to_ v296 k v297 hc) (z_pv hK hP [22, 23, 24, 25, 26, 27, 28, 29, 30] rfl 22 rfl rfl) hl.1 rfl rfl (Nat.le_of_ble_eq_true rfl) dL_law_731 ⟨hcl, hsl⟩) ?_
          refine zc_eq (tgt := 1002) hx hb dL_law_734 (by decide) h (fun h => ?_) (fun h => ?_)
          · refine o_nm h (fun v298 ey h => ?_)
            refine lv_iinc (v := v298) (lv' := [(3, .int v298), (0, .ref (b)), (1, .ref (a 0)), (2, .ref (a 30))]) hx hb dL_law_1002 hl (k := 3) rfl (Eq.trans rfl ey) (by decide) rfl (fun ls hl => ?_)
            refine lv_goto (tgt := 18) hx hb dL_law_1005 (by decide) ?_
            exact ih18 f_ g_ nx_ hz_ sw_ fl_ sg_ pl_ pa_ pk_ pn_ pf_ pg_ ms_ ah_ hi_ kp_ sl_ sv_ pd_ ln_ so_ po_ wr_ to_ v298 h _ _ hP hD hS ls (lv_sub hl [1, 2, 3, 0] rfl)
          · refine lv_iconst (v := (0 : Int32)) hx hb dL_law_737 (by decide) ?_
            exact absurd h (by decide)
        refine o_sw h (fun q18 h => ?_) (fun q18 h => ?_)
        · refine lv_tableIn (off := (707 : Int)) (tgt := 739) hx hb dL_law_32 (by rw [q18]; decide) (by rw [q18]; decide) (by rw [q18]; decide) (by decide) ?_
          refine lv_aload_n hx hb dL_law_739 rfl (lv_at hl 1 rfl) ?_
          refine lv_aload_n hx hb dL_law_740 rfl (lv_at hl 0 rfl) ?_
          refine lv_iload_n hx hb dL_law_741 rfl (lv_at hl 3 rfl) ?_
          refine lv_iconst (v := (1 : Int32)) hx hb dL_law_742 (by decide) ?_
          refine o_iadd hx hb dL_law_743 h (fun v299 h => ?_)
          refine o_sld hx hb hX hbl hbA hS h dL_law_744 (fun v300 h => ?_)
          obtain ⟨v301, hc, h⟩ := zb1_s h
          refine zE_i (zrV (C := RX7) (As := [.int v300]) (rest := []) hx hb hml hown hts tw579 mv_X7_bestBlock ⟨Nat.le_of_ble_eq_true rfl, Nat.le_of_ble_eq_true rfl⟩ rfl rfl (ct_X7_bestBlock l D ct a f_ g_ nx_ hz_ sw_ fl_ sg_ pl_ pa_ pk_ pn_ pf_ pg_ v300 k v301 hc) (z_pv hK hP [0, 1, 2, 3, 4, 5, 6, 7, 8, 9, 10, 11, 12, 13, 14, 15, 16, 17, 18, 19, 20, 21] rfl 0 rfl rfl) hl.1 rfl rfl (Nat.le_of_ble_eq_true rfl) dL_law_745 ⟨hcl, hsl⟩) ?_
          refine lv_aload_n hx hb dL_law_748 rfl (lv_at hl 2 rfl) ?_
          refine lv_aload_n hx hb dL_law_749 rfl (lv_at hl 0 rfl) ?_
          refine lv_iload_n hx hb dL_law_750 rfl (lv_at hl 3 rfl) ?_
          refine lv_iconst (v := (1 : Int32)) hx hb dL_law_751 (by decide) ?_
          refine o_iadd hx hb dL_law_752 h (fun v302 h => ?_)
          refine o_sld hx hb hX hbl hbA hS h dL_law_753 (fun v303 h => ?_)
          obtain ⟨v304, so305, hc, h⟩ := zb2_s h
          refine zG_i (w1 := wX8 ct a ms_ ah_ hi_ kp_ sl_ sv_ pd_ ln_ so305 po_ wr_ to_) (ws' := (wX7 ct a f_ g_ nx_ hz_ sw_ fl_ sg_ pl_ pa_ pk_ pn_ pf_ pg_ ++ wX8 ct a ms_ ah_ hi_ kp_ sl_ sv_ pd_ ln_ so305 po_ wr_ to_)) hP hD hS hA [22, 23, 24, 25, 26, 27, 28, 29, 30] [0, 1, 2, 3, 4, 5, 6, 7, 8, 9, 10, 11, 12, 13, 14, 15, 16, 17, 18, 19, 20, 21] [0, 1, 2, 3, 4, 5, 6, 7, 8, 9, 10, 11, 12, 13, 14, 15, 16, 17, 18, 19, 20, 21, 22, 23, 24, 25, 26, 27, 28, 29, 30] rfl rfl (by decide) (by decide) rfl (by decide) (zrV (C := RX8) (As := [.int v303]) (rest := [.int v301]) hx hb hml hown hts tw1082 mv_X8_bestBlock ⟨Nat.le_of_ble_eq_true rfl, Nat.le_of_ble_eq_true rfl⟩ rfl rfl (ct_X8_bestBlock l D ct a ms_ ah_ hi_ kp_ sl_ sv_ pd_ ln_ so_ po_ wr_ to_ _ v303 k v304 so305 hc) (z_wv hK hP hD [22, 23, 24, 25, 26, 27, 28, 29, 30] (by decide) rfl 22 rfl rfl) hl.1 rfl rfl (Nat.le_of_ble_eq_true rfl) dL_law_754 ⟨hcl, hsl⟩) (fun H locs hP hD hS => ?_)
          refine zc_eq (tgt := 1002) hx hb dL_law_757 (by decide) h (fun h => ?_) (fun h => ?_)
          · refine o_nm h (fun v306 ey h => ?_)
            refine lv_iinc (v := v306) (lv' := [(3, .int v306), (0, .ref (b)), (1, .ref (a 0)), (2, .ref (a 30))]) hx hb dL_law_1002 hl (k := 3) rfl (Eq.trans rfl ey) (by decide) rfl (fun ls hl => ?_)
            refine lv_goto (tgt := 18) hx hb dL_law_1005 (by decide) ?_
            exact ih18 f_ g_ nx_ hz_ sw_ fl_ sg_ pl_ pa_ pk_ pn_ pf_ pg_ ms_ ah_ hi_ kp_ sl_ sv_ pd_ ln_ so305 po_ wr_ to_ v306 h _ _ hP hD hS ls (lv_sub hl [1, 2, 3, 0] rfl)
          · refine lv_iconst (v := (0 : Int32)) hx hb dL_law_760 (by decide) ?_
            exact absurd h (by decide)
        refine o_sw h (fun q19 h => ?_) (fun q19 h => ?_)
        · refine lv_tableIn (off := (730 : Int)) (tgt := 762) hx hb dL_law_32 (by rw [q19]; decide) (by rw [q19]; decide) (by rw [q19]; decide) (by decide) ?_
          refine lv_aload_n hx hb dL_law_762 rfl (lv_at hl 1 rfl) ?_
          refine lv_aload_n hx hb dL_law_763 rfl (lv_at hl 0 rfl) ?_
          refine lv_iload_n hx hb dL_law_764 rfl (lv_at hl 3 rfl) ?_
          refine lv_iconst (v := (1 : Int32)) hx hb dL_law_765 (by decide) ?_
          refine o_iadd hx hb dL_law_766 h (fun v307 h => ?_)
          refine o_sld hx hb hX hbl hbA hS h dL_law_767 (fun v308 h => ?_)
          refine lv_aload_n hx hb dL_law_768 rfl (lv_at hl 0 rfl) ?_
          refine lv_iload_n hx hb dL_law_769 rfl (lv_at hl 3 rfl) ?_
          refine lv_iconst (v := (2 : Int32)) hx hb dL_law_770 (by decide) ?_
          refine o_iadd hx hb dL_law_771 h (fun v309 h => ?_)
          refine o_sld hx hb hX hbl hbA hS h dL_law_772 (fun v310 h => ?_)
          refine lv_aload_n hx hb dL_law_773 rfl (lv_at hl 0 rfl) ?_
          refine lv_iload_n hx hb dL_law_774 rfl (lv_at hl 3 rfl) ?_
          refine lv_iconst (v := (3 : Int32)) hx hb dL_law_775 (by decide) ?_
          refine o_iadd hx hb dL_law_776 h (fun v311 h => ?_)
          refine o_sld hx hb hX hbl hbA hS h dL_law_777 (fun v312 h => ?_)
          obtain ⟨v313, hc, h⟩ := zb1_s h
          refine zE_i (zrV (C := RX7) (As := [.int v308, .int v310, .int v312]) (rest := []) hx hb hml hown hts tw587 mv_X7_fittingCut ⟨Nat.le_of_ble_eq_true rfl, Nat.le_of_ble_eq_true rfl⟩ rfl rfl (ct_X7_fittingCut l D ct a f_ g_ nx_ hz_ sw_ fl_ sg_ pl_ pa_ pk_ pn_ pf_ pg_ v308 v310 v312 k v313 hc) (z_pv hK hP [0, 1, 2, 3, 4, 5, 6, 7, 8, 9, 10, 11, 12, 13, 14, 15, 16, 17, 18, 19, 20, 21] rfl 0 rfl rfl) hl.1 rfl rfl (Nat.le_of_ble_eq_true rfl) dL_law_778 ⟨hcl, hsl⟩) ?_
          refine lv_aload_n hx hb dL_law_781 rfl (lv_at hl 2 rfl) ?_
          refine lv_aload_n hx hb dL_law_782 rfl (lv_at hl 0 rfl) ?_
          refine lv_iload_n hx hb dL_law_783 rfl (lv_at hl 3 rfl) ?_
          refine lv_iconst (v := (1 : Int32)) hx hb dL_law_784 (by decide) ?_
          refine o_iadd hx hb dL_law_785 h (fun v314 h => ?_)
          refine o_sld hx hb hX hbl hbA hS h dL_law_786 (fun v315 h => ?_)
          refine lv_aload_n hx hb dL_law_787 rfl (lv_at hl 0 rfl) ?_
          refine lv_iload_n hx hb dL_law_788 rfl (lv_at hl 3 rfl) ?_
          refine lv_iconst (v := (2 : Int32)) hx hb dL_law_789 (by decide) ?_
          refine o_iadd hx hb dL_law_790 h (fun v316 h => ?_)
          refine o_sld hx hb hX hbl hbA hS h dL_law_791 (fun v317 h => ?_)
          refine lv_aload_n hx hb dL_law_792 rfl (lv_at hl 0 rfl) ?_
          refine lv_iload_n hx hb dL_law_793 rfl (lv_at hl 3 rfl) ?_
          refine lv_iconst (v := (3 : Int32)) hx hb dL_law_794 (by decide) ?_
          refine o_iadd hx hb dL_law_795 h (fun v318 h => ?_)
          refine o_sld hx hb hX hbl hbA hS h dL_law_796 (fun v319 h => ?_)
          obtain ⟨v320, so321, hc, h⟩ := zb2_s h
          refine zG_i (w1 := wX8 ct a ms_ ah_ hi_ kp_ sl_ sv_ pd_ ln_ so321 po_ wr_ to_) (ws' := (wX7 ct a f_ g_ nx_ hz_ sw_ fl_ sg_ pl_ pa_ pk_ pn_ pf_ pg_ ++ wX8 ct a ms_ ah_ hi_ kp_ sl_ sv_ pd_ ln_ so321 po_ wr_ to_)) hP hD hS hA [22, 23, 24, 25, 26, 27, 28, 29, 30] [0, 1, 2, 3, 4, 5, 6, 7, 8, 9, 10, 11, 12, 13, 14, 15, 16, 17, 18, 19, 20, 21] [0, 1, 2, 3, 4, 5, 6, 7, 8, 9, 10, 11, 12, 13, 14, 15, 16, 17, 18, 19, 20, 21, 22, 23, 24, 25, 26, 27, 28, 29, 30] rfl rfl (by decide) (by decide) rfl (by decide) (zrV (C := RX8) (As := [.int v315, .int v317, .int v319]) (rest := [.int v313]) hx hb hml hown hts tw1086 mv_X8_fittingCut ⟨Nat.le_of_ble_eq_true rfl, Nat.le_of_ble_eq_true rfl⟩ rfl rfl (ct_X8_fittingCut l D ct a ms_ ah_ hi_ kp_ sl_ sv_ pd_ ln_ so_ po_ wr_ to_ _ v315 v317 v319 k v320 so321 hc) (z_wv hK hP hD [22, 23, 24, 25, 26, 27, 28, 29, 30] (by decide) rfl 22 rfl rfl) hl.1 rfl rfl (Nat.le_of_ble_eq_true rfl) dL_law_797 ⟨hcl, hsl⟩) (fun H locs hP hD hS => ?_)
          refine zc_eq (tgt := 1002) hx hb dL_law_800 (by decide) h (fun h => ?_) (fun h => ?_)
          · refine o_nm h (fun v322 ey h => ?_)
            refine lv_iinc (v := v322) (lv' := [(3, .int v322), (0, .ref (b)), (1, .ref (a 0)), (2, .ref (a 30))]) hx hb dL_law_1002 hl (k := 3) rfl (Eq.trans rfl ey) (by decide) rfl (fun ls hl => ?_)
            refine lv_goto (tgt := 18) hx hb dL_law_1005 (by decide) ?_
            exact ih18 f_ g_ nx_ hz_ sw_ fl_ sg_ pl_ pa_ pk_ pn_ pf_ pg_ ms_ ah_ hi_ kp_ sl_ sv_ pd_ ln_ so321 po_ wr_ to_ v322 h _ _ hP hD hS ls (lv_sub hl [1, 2, 3, 0] rfl)
          · refine lv_iconst (v := (0 : Int32)) hx hb dL_law_803 (by decide) ?_
            exact absurd h (by decide)
        refine o_sw h (fun q20 h => ?_) (fun q20 h => ?_)
        · refine lv_tableIn (off := (773 : Int)) (tgt := 805) hx hb dL_law_32 (by rw [q20]; decide) (by rw [q20]; decide) (by rw [q20]; decide) (by decide) ?_
          refine lv_aload_n hx hb dL_law_805 rfl (lv_at hl 1 rfl) ?_
          obtain ⟨v323, hc, h⟩ := zb1_s h
          refine zE_i (zrV (C := RX7) (As := []) (rest := []) hx hb hml hown hts tw596 mv_X7_ifFrost ⟨Nat.le_of_ble_eq_true rfl, Nat.le_of_ble_eq_true rfl⟩ rfl rfl (ct_X7_ifFrost l D ct a f_ g_ nx_ hz_ sw_ fl_ sg_ pl_ pa_ pk_ pn_ pf_ pg_ k v323 hc) (z_pv hK hP [0, 1, 2, 3, 4, 5, 6, 7, 8, 9, 10, 11, 12, 13, 14, 15, 16, 17, 18, 19, 20, 21] rfl 0 rfl rfl) hl.1 rfl rfl (Nat.le_of_ble_eq_true rfl) dL_law_806 ⟨hcl, hsl⟩) ?_
          refine lv_aload_n hx hb dL_law_809 rfl (lv_at hl 2 rfl) ?_
          obtain ⟨v324, hc, h⟩ := zb1_s h
          refine zE_i (zrV (C := RX8) (As := []) (rest := [.int v323]) hx hb hml hown hts tw1094 mv_X8_ifFrost ⟨Nat.le_of_ble_eq_true rfl, Nat.le_of_ble_eq_true rfl⟩ rfl rfl (ct_X8_ifFrost l D ct a ms_ ah_ hi_ kp_ sl_ sv_ pd_ ln_ so_ po_ wr_ to_ k v324 hc) (z_pv hK hP [22, 23, 24, 25, 26, 27, 28, 29, 30] rfl 22 rfl rfl) hl.1 rfl rfl (Nat.le_of_ble_eq_true rfl) dL_law_810 ⟨hcl, hsl⟩) ?_
          refine zc_eq (tgt := 1002) hx hb dL_law_813 (by decide) h (fun h => ?_) (fun h => ?_)
          · refine o_nm h (fun v325 ey h => ?_)
            refine lv_iinc (v := v325) (lv' := [(3, .int v325), (0, .ref (b)), (1, .ref (a 0)), (2, .ref (a 30))]) hx hb dL_law_1002 hl (k := 3) rfl (Eq.trans rfl ey) (by decide) rfl (fun ls hl => ?_)
            refine lv_goto (tgt := 18) hx hb dL_law_1005 (by decide) ?_
            exact ih18 f_ g_ nx_ hz_ sw_ fl_ sg_ pl_ pa_ pk_ pn_ pf_ pg_ ms_ ah_ hi_ kp_ sl_ sv_ pd_ ln_ so_ po_ wr_ to_ v325 h _ _ hP hD hS ls (lv_sub hl [1, 2, 3, 0] rfl)
          · refine lv_iconst (v := (0 : Int32)) hx hb dL_law_816 (by decide) ?_
            exact absurd h (by decide)
        refine o_sw h (fun q21 h => ?_) (fun q21 h => ?_)
        · refine lv_tableIn (off := (786 : Int)) (tgt := 818) hx hb dL_law_32 (by rw [q21]; decide) (by rw [q21]; decide) (by rw [q21]; decide) (by decide) ?_
          refine lv_aload_n hx hb dL_law_818 rfl (lv_at hl 1 rfl) ?_
          refine lv_aload_n hx hb dL_law_819 rfl (lv_at hl 0 rfl) ?_
          refine lv_iload_n hx hb dL_law_820 rfl (lv_at hl 3 rfl) ?_
          refine lv_iconst (v := (1 : Int32)) hx hb dL_law_821 (by decide) ?_
          refine o_iadd hx hb dL_law_822 h (fun v326 h => ?_)
          refine o_sld hx hb hX hbl hbA hS h dL_law_823 (fun v327 h => ?_)
          refine lv_aload_n hx hb dL_law_824 rfl (lv_at hl 0 rfl) ?_
          refine lv_iload_n hx hb dL_law_825 rfl (lv_at hl 3 rfl) ?_
          refine lv_iconst (v := (2 : Int32)) hx hb dL_law_826 (by decide) ?_
          refine o_iadd hx hb dL_law_827 h (fun v328 h => ?_)
          refine o_sld hx hb hX hbl hbA hS h dL_law_828 (fun v329 h => ?_)
          obtain ⟨v330, hc, h⟩ := zb1_s h
          refine zE_i (zrV (C := RX7) (As := [.int v327, .int v329]) (rest := []) hx hb hml hown hts tw601 mv_X7_bestPlace ⟨Nat.le_of_ble_eq_true rfl, Nat.le_of_ble_eq_true rfl⟩ rfl rfl (ct_X7_bestPlace l D ct a f_ g_ nx_ hz_ sw_ fl_ sg_ pl_ pa_ pk_ pn_ pf_ pg_ v327 v329 k v330 hc) (z_pv hK hP [0, 1, 2, 3, 4, 5, 6, 7, 8, 9, 10, 11, 12, 13, 14, 15, 16, 17, 18, 19, 20, 21] rfl 0 rfl rfl) hl.1 rfl rfl (Nat.le_of_ble_eq_true rfl) dL_law_829 ⟨hcl, hsl⟩) ?_
          refine lv_aload_n hx hb dL_law_832 rfl (lv_at hl 2 rfl) ?_
          refine lv_aload_n hx hb dL_law_833 rfl (lv_at hl 0 rfl) ?_
          refine lv_iload_n hx hb dL_law_834 rfl (lv_at hl 3 rfl) ?_
          refine lv_iconst (v := (1 : Int32)) hx hb dL_law_835 (by decide) ?_
          refine o_iadd hx hb dL_law_836 h (fun v331 h => ?_)
          refine o_sld hx hb hX hbl hbA hS h dL_law_837 (fun v332 h => ?_)
          refine lv_aload_n hx hb dL_law_838 rfl (lv_at hl 0 rfl) ?_
          refine lv_iload_n hx hb dL_law_839 rfl (lv_at hl 3 rfl) ?_
          refine lv_iconst (v := (2 : Int32)) hx hb dL_law_840 (by decide) ?_
          refine o_iadd hx hb dL_law_841 h (fun v333 h => ?_)
          refine o_sld hx hb hX hbl hbA hS h dL_law_842 (fun v334 h => ?_)
          obtain ⟨v335, hc, h⟩ := zb1_s h
          refine zE_i (zrV (C := RX8) (As := [.int v332, .int v334]) (rest := [.int v330]) hx hb hml hown hts tw1098 mv_X8_bestPlace ⟨Nat.le_of_ble_eq_true rfl, Nat.le_of_ble_eq_true rfl⟩ rfl rfl (ct_X8_bestPlace l D ct a ms_ ah_ hi_ kp_ sl_ sv_ pd_ ln_ so_ po_ wr_ to_ v332 v334 k v335 hc) (z_pv hK hP [22, 23, 24, 25, 26, 27, 28, 29, 30] rfl 22 rfl rfl) hl.1 rfl rfl (Nat.le_of_ble_eq_true rfl) dL_law_843 ⟨hcl, hsl⟩) ?_
          refine zc_eq (tgt := 1002) hx hb dL_law_846 (by decide) h (fun h => ?_) (fun h => ?_)
          · refine o_nm h (fun v336 ey h => ?_)
            refine lv_iinc (v := v336) (lv' := [(3, .int v336), (0, .ref (b)), (1, .ref (a 0)), (2, .ref (a 30))]) hx hb dL_law_1002 hl (k := 3) rfl (Eq.trans rfl ey) (by decide) rfl (fun ls hl => ?_)
            refine lv_goto (tgt := 18) hx hb dL_law_1005 (by decide) ?_
            exact ih18 f_ g_ nx_ hz_ sw_ fl_ sg_ pl_ pa_ pk_ pn_ pf_ pg_ ms_ ah_ hi_ kp_ sl_ sv_ pd_ ln_ so_ po_ wr_ to_ v336 h _ _ hP hD hS ls (lv_sub hl [1, 2, 3, 0] rfl)
          · refine lv_iconst (v := (0 : Int32)) hx hb dL_law_849 (by decide) ?_
            exact absurd h (by decide)
        refine o_sw h (fun q22 h => ?_) (fun q22 h => ?_)
        · refine lv_tableIn (off := (819 : Int)) (tgt := 851) hx hb dL_law_32 (by rw [q22]; decide) (by rw [q22]; decide) (by rw [q22]; decide) (by decide) ?_
          refine lv_aload_n hx hb dL_law_851 rfl (lv_at hl 1 rfl) ?_
          refine lv_aload_n hx hb dL_law_852 rfl (lv_at hl 0 rfl) ?_
          refine lv_iload_n hx hb dL_law_853 rfl (lv_at hl 3 rfl) ?_
          refine lv_iconst (v := (1 : Int32)) hx hb dL_law_854 (by decide) ?_
          refine o_iadd hx hb dL_law_855 h (fun v337 h => ?_)
          refine o_sld hx hb hX hbl hbA hS h dL_law_856 (fun v338 h => ?_)
          refine o_i2l hx hb dL_law_857 h (fun v339 h => ?_)
          refine lv_bipush (v := (32 : Int32)) hx hb dL_law_858 (by decide) ?_
          refine o_lshl hx hb dL_law_860 h (fun v340 h => ?_)
          refine lv_aload_n hx hb dL_law_861 rfl (lv_at hl 0 rfl) ?_
          refine lv_iload_n hx hb dL_law_862 rfl (lv_at hl 3 rfl) ?_
          refine lv_iconst (v := (2 : Int32)) hx hb dL_law_863 (by decide) ?_
          refine o_iadd hx hb dL_law_864 h (fun v341 h => ?_)
          refine o_sld hx hb hX hbl hbA hS h dL_law_865 (fun v342 h => ?_)
          refine o_i2l hx hb dL_law_866 h (fun v343 h => ?_)
          refine lv_ldc2 (v := (4294967295 : Int64)) hx hb hown (hts _ (List.mem_cons_of_mem _ tw1159)) dL_law_867 ?_
          refine o_land hx hb dL_law_870 h (fun v344 h => ?_)
          refine o_lor hx hb dL_law_871 h (fun v345 h => ?_)
          obtain ⟨v346, sg347, pl348, hc, h⟩ := zb3_s h
          refine zG_i (w1 := wX7 ct a f_ g_ nx_ hz_ sw_ fl_ sg347 pl348 pa_ pk_ pn_ pf_ pg_) (ws' := (wX7 ct a f_ g_ nx_ hz_ sw_ fl_ sg347 pl348 pa_ pk_ pn_ pf_ pg_ ++ wX8 ct a ms_ ah_ hi_ kp_ sl_ sv_ pd_ ln_ so_ po_ wr_ to_)) hP hD hS hA [0, 1, 2, 3, 4, 5, 6, 7, 8, 9, 10, 11, 12, 13, 14, 15, 16, 17, 18, 19, 20, 21] [22, 23, 24, 25, 26, 27, 28, 29, 30] [9, 10, 11, 12, 13, 14, 15, 16, 17, 18, 19, 20, 21, 22, 23, 24, 25, 26, 27, 28, 29, 30, 0, 1, 2, 3, 4, 5, 6, 7, 8] rfl rfl (by decide) (by decide) rfl (by decide) (zrV (C := RX7) (As := [.long v345]) (rest := []) hx hb hml hown hts tw618 mv_X7_put ⟨Nat.le_of_ble_eq_true rfl, Nat.le_of_ble_eq_true rfl⟩ rfl rfl (ct_X7_put l D ct a f_ g_ nx_ hz_ sw_ fl_ sg_ pl_ pa_ pk_ pn_ pf_ pg_ _ v345 k v346 sg347 pl348 hc) (z_wv hK hP hD [0, 1, 2, 3, 4, 5, 6, 7, 8, 9, 10, 11, 12, 13, 14, 15, 16, 17, 18, 19, 20, 21] (by decide) rfl 0 rfl rfl) hl.1 rfl rfl (Nat.le_of_ble_eq_true rfl) dL_law_872 ⟨hcl, hsl⟩) (fun H locs hP hD hS => ?_)
          refine lv_aload_n hx hb dL_law_875 rfl (lv_at hl 2 rfl) ?_
          refine lv_aload_n hx hb dL_law_876 rfl (lv_at hl 0 rfl) ?_
          refine lv_iload_n hx hb dL_law_877 rfl (lv_at hl 3 rfl) ?_
          refine lv_iconst (v := (1 : Int32)) hx hb dL_law_878 (by decide) ?_
          refine o_iadd hx hb dL_law_879 h (fun v349 h => ?_)
          refine o_sld hx hb hX hbl hbA hS h dL_law_880 (fun v350 h => ?_)
          refine o_i2l hx hb dL_law_881 h (fun v351 h => ?_)
          refine lv_bipush (v := (32 : Int32)) hx hb dL_law_882 (by decide) ?_
          refine o_lshl hx hb dL_law_884 h (fun v352 h => ?_)
          refine lv_aload_n hx hb dL_law_885 rfl (lv_at hl 0 rfl) ?_
          refine lv_iload_n hx hb dL_law_886 rfl (lv_at hl 3 rfl) ?_
          refine lv_iconst (v := (2 : Int32)) hx hb dL_law_887 (by decide) ?_
          refine o_iadd hx hb dL_law_888 h (fun v353 h => ?_)
          refine o_sld hx hb hX hbl hbA hS h dL_law_889 (fun v354 h => ?_)
          refine o_i2l hx hb dL_law_890 h (fun v355 h => ?_)
          refine lv_ldc2 (v := (4294967295 : Int64)) hx hb hown (hts _ (List.mem_cons_of_mem _ tw1159)) dL_law_891 ?_
          refine o_land hx hb dL_law_894 h (fun v356 h => ?_)
          refine o_lor hx hb dL_law_895 h (fun v357 h => ?_)
          obtain ⟨v358, pd359, ln360, hc, h⟩ := zb3_s h
          refine zG_i (w1 := wX8 ct a ms_ ah_ hi_ kp_ sl_ sv_ pd359 ln360 so_ po_ wr_ to_) (ws' := (wX7 ct a f_ g_ nx_ hz_ sw_ fl_ sg347 pl348 pa_ pk_ pn_ pf_ pg_ ++ wX8 ct a ms_ ah_ hi_ kp_ sl_ sv_ pd359 ln360 so_ po_ wr_ to_)) hP hD hS hA [22, 23, 24, 25, 26, 27, 28, 29, 30] [0, 1, 2, 3, 4, 5, 6, 7, 8, 9, 10, 11, 12, 13, 14, 15, 16, 17, 18, 19, 20, 21] [0, 1, 2, 3, 4, 5, 6, 7, 8, 9, 10, 11, 12, 13, 14, 15, 16, 17, 18, 19, 20, 21, 22, 23, 24, 25, 26, 27, 28, 29, 30] rfl rfl (by decide) (by decide) rfl (by decide) (zrV (C := RX8) (As := [.long v357]) (rest := [.int v346]) hx hb hml hown hts tw1106 mv_X8_put ⟨Nat.le_of_ble_eq_true rfl, Nat.le_of_ble_eq_true rfl⟩ rfl rfl (ct_X8_put l D ct a ms_ ah_ hi_ kp_ sl_ sv_ pd_ ln_ so_ po_ wr_ to_ _ v357 k v358 pd359 ln360 hc) (z_wv hK hP hD [22, 23, 24, 25, 26, 27, 28, 29, 30] (by decide) rfl 22 rfl rfl) hl.1 rfl rfl (Nat.le_of_ble_eq_true rfl) dL_law_896 ⟨hcl, hsl⟩) (fun H locs hP hD hS => ?_)
          refine zc_eq (tgt := 1002) hx hb dL_law_899 (by decide) h (fun h => ?_) (fun h => ?_)
          · refine o_nm h (fun v361 ey h => ?_)
            refine lv_iinc (v := v361) (lv' := [(3, .int v361), (0, .ref (b)), (1, .ref (a 0)), (2, .ref (a 30))]) hx hb dL_law_1002 hl (k := 3) rfl (Eq.trans rfl ey) (by decide) rfl (fun ls hl => ?_)
            refine lv_goto (tgt := 18) hx hb dL_law_1005 (by decide) ?_
            exact ih18 f_ g_ nx_ hz_ sw_ fl_ sg347 pl348 pa_ pk_ pn_ pf_ pg_ ms_ ah_ hi_ kp_ sl_ sv_ pd359 ln360 so_ po_ wr_ to_ v361 h _ _ hP hD hS ls (lv_sub hl [1, 2, 3, 0] rfl)
          · refine lv_iconst (v := (0 : Int32)) hx hb dL_law_902 (by decide) ?_
            exact absurd h (by decide)
        refine o_sw h (fun q23 h => ?_) (fun q23 h => ?_)
        · refine lv_tableIn (off := (872 : Int)) (tgt := 904) hx hb dL_law_32 (by rw [q23]; decide) (by rw [q23]; decide) (by rw [q23]; decide) (by decide) ?_
          refine lv_aload_n hx hb dL_law_904 rfl (lv_at hl 1 rfl) ?_
          obtain ⟨v362, pl363, hc, h⟩ := zb2_s h
          refine zG_i (w1 := wX7 ct a f_ g_ nx_ hz_ sw_ fl_ sg_ pl363 pa_ pk_ pn_ pf_ pg_) (ws' := (wX7 ct a f_ g_ nx_ hz_ sw_ fl_ sg_ pl363 pa_ pk_ pn_ pf_ pg_ ++ wX8 ct a ms_ ah_ hi_ kp_ sl_ sv_ pd_ ln_ so_ po_ wr_ to_)) hP hD hS hA [0, 1, 2, 3, 4, 5, 6, 7, 8, 9, 10, 11, 12, 13, 14, 15, 16, 17, 18, 19, 20, 21] [22, 23, 24, 25, 26, 27, 28, 29, 30] [9, 10, 11, 12, 13, 14, 15, 16, 17, 18, 19, 20, 21, 22, 23, 24, 25, 26, 27, 28, 29, 30, 0, 1, 2, 3, 4, 5, 6, 7, 8] rfl rfl (by decide) (by decide) rfl (by decide) (zrV (C := RX7) (As := []) (rest := []) hx hb hml hown hts tw630 mv_X7_wipe ⟨Nat.le_of_ble_eq_true rfl, Nat.le_of_ble_eq_true rfl⟩ rfl rfl (ct_X7_wipe l D ct a f_ g_ nx_ hz_ sw_ fl_ sg_ pl_ pa_ pk_ pn_ pf_ pg_ _  k v362 pl363 hc) (z_wv hK hP hD [0, 1, 2, 3, 4, 5, 6, 7, 8, 9, 10, 11, 12, 13, 14, 15, 16, 17, 18, 19, 20, 21] (by decide) rfl 0 rfl rfl) hl.1 rfl rfl (Nat.le_of_ble_eq_true rfl) dL_law_905 ⟨hcl, hsl⟩) (fun H locs hP hD hS => ?_)
          refine lv_aload_n hx hb dL_law_908 rfl (lv_at hl 2 rfl) ?_
          obtain ⟨v364, ln365, hc, h⟩ := zb2_s h
          refine zG_i (w1 := wX8 ct a ms_ ah_ hi_ kp_ sl_ sv_ pd_ ln365 so_ po_ wr_ to_) (ws' := (wX7 ct a f_ g_ nx_ hz_ sw_ fl_ sg_ pl363 pa_ pk_ pn_ pf_ pg_ ++ wX8 ct a ms_ ah_ hi_ kp_ sl_ sv_ pd_ ln365 so_ po_ wr_ to_)) hP hD hS hA [22, 23, 24, 25, 26, 27, 28, 29, 30] [0, 1, 2, 3, 4, 5, 6, 7, 8, 9, 10, 11, 12, 13, 14, 15, 16, 17, 18, 19, 20, 21] [0, 1, 2, 3, 4, 5, 6, 7, 8, 9, 10, 11, 12, 13, 14, 15, 16, 17, 18, 19, 20, 21, 22, 23, 24, 25, 26, 27, 28, 29, 30] rfl rfl (by decide) (by decide) rfl (by decide) (zrV (C := RX8) (As := []) (rest := [.int v362]) hx hb hml hown hts tw1111 mv_X8_wipe ⟨Nat.le_of_ble_eq_true rfl, Nat.le_of_ble_eq_true rfl⟩ rfl rfl (ct_X8_wipe l D ct a ms_ ah_ hi_ kp_ sl_ sv_ pd_ ln_ so_ po_ wr_ to_ _  k v364 ln365 hc) (z_wv hK hP hD [22, 23, 24, 25, 26, 27, 28, 29, 30] (by decide) rfl 22 rfl rfl) hl.1 rfl rfl (Nat.le_of_ble_eq_true rfl) dL_law_909 ⟨hcl, hsl⟩) (fun H locs hP hD hS => ?_)
          refine zc_eq (tgt := 1002) hx hb dL_law_912 (by decide) h (fun h => ?_) (fun h => ?_)
          · refine o_nm h (fun v366 ey h => ?_)
            refine lv_iinc (v := v366) (lv' := [(3, .int v366), (0, .ref (b)), (1, .ref (a 0)), (2, .ref (a 30))]) hx hb dL_law_1002 hl (k := 3) rfl (Eq.trans rfl ey) (by decide) rfl (fun ls hl => ?_)
            refine lv_goto (tgt := 18) hx hb dL_law_1005 (by decide) ?_
            exact ih18 f_ g_ nx_ hz_ sw_ fl_ sg_ pl363 pa_ pk_ pn_ pf_ pg_ ms_ ah_ hi_ kp_ sl_ sv_ pd_ ln365 so_ po_ wr_ to_ v366 h _ _ hP hD hS ls (lv_sub hl [1, 2, 3, 0] rfl)
          · refine lv_iconst (v := (0 : Int32)) hx hb dL_law_915 (by decide) ?_
            exact absurd h (by decide)
        refine o_sw h (fun q24 h => ?_) (fun q24 h => ?_)
        · refine lv_tableIn (off := (885 : Int)) (tgt := 917) hx hb dL_law_32 (by rw [q24]; decide) (by rw [q24]; decide) (by rw [q24]; decide) (by decide) ?_
          refine lv_aload_n hx hb dL_law_917 rfl (lv_at hl 1 rfl) ?_
          obtain ⟨v367, pa368, pk369, pn370, pf371, pg372, hc, h⟩ := zb6_s h
          refine zG_i (w1 := wX7 ct a f_ g_ nx_ hz_ sw_ fl_ sg_ pl_ pa368 pk369 pn370 pf371 pg372) (ws' := (wX7 ct a f_ g_ nx_ hz_ sw_ fl_ sg_ pl_ pa368 pk369 pn370 pf371 pg372 ++ wX8 ct a ms_ ah_ hi_ kp_ sl_ sv_ pd_ ln_ so_ po_ wr_ to_)) hP hD hS hA [0, 1, 2, 3, 4, 5, 6, 7, 8, 9, 10, 11, 12, 13, 14, 15, 16, 17, 18, 19, 20, 21] [22, 23, 24, 25, 26, 27, 28, 29, 30] [9, 10, 11, 12, 13, 14, 15, 16, 17, 18, 19, 20, 21, 22, 23, 24, 25, 26, 27, 28, 29, 30, 0, 1, 2, 3, 4, 5, 6, 7, 8] rfl rfl (by decide) (by decide) rfl (by decide) (zrV (C := RX7) (As := []) (rest := []) hx hb hml hown hts tw638 mv_X7_fault ⟨Nat.le_of_ble_eq_true rfl, Nat.le_of_ble_eq_true rfl⟩ rfl rfl (ct_X7_fault l D ct a st f_ g_ nx_ hz_ sw_ fl_ sg_ pl_ pa_ pk_ pn_ pf_ pg_ _  k v367 pa368 pk369 pn370 pf371 pg372 hc) (z_zv hZ hK hP hD hS hA [0, 1, 2, 3, 4, 5, 6, 7, 8, 9, 10, 11, 12, 13, 14, 15, 16, 17, 18, 19, 20, 21] (by decide) rfl 0 rfl rfl) hl.1 rfl rfl (Nat.le_of_ble_eq_true rfl) dL_law_918 ⟨hcl, hsl⟩) (fun H locs hP hD hS => ?_)
          refine lv_aload_n hx hb dL_law_921 rfl (lv_at hl 2 rfl) ?_
          obtain ⟨v373, ms374, so375, po376, wr377, to378, hc, h⟩ := zb6_s h
          refine zG_i (w1 := wX8 ct a ms374 ah_ hi_ kp_ sl_ sv_ pd_ ln_ so375 po376 wr377 to378) (ws' := (wX7 ct a f_ g_ nx_ hz_ sw_ fl_ sg_ pl_ pa368 pk369 pn370 pf371 pg372 ++ wX8 ct a ms374 ah_ hi_ kp_ sl_ sv_ pd_ ln_ so375 po376 wr377 to378)) hP hD hS hA [22, 23, 24, 25, 26, 27, 28, 29, 30] [0, 1, 2, 3, 4, 5, 6, 7, 8, 9, 10, 11, 12, 13, 14, 15, 16, 17, 18, 19, 20, 21] [0, 1, 2, 3, 4, 5, 6, 7, 8, 9, 10, 11, 12, 13, 14, 15, 16, 17, 18, 19, 20, 21, 22, 23, 24, 25, 26, 27, 28, 29, 30] rfl rfl (by decide) (by decide) rfl (by decide) (zrV (C := RX8) (As := []) (rest := [.int v367]) hx hb hml hown hts tw1115 mv_X8_fault ⟨Nat.le_of_ble_eq_true rfl, Nat.le_of_ble_eq_true rfl⟩ rfl rfl (ct_X8_fault l D ct a ms_ ah_ hi_ kp_ sl_ sv_ pd_ ln_ so_ po_ wr_ to_ _  k v373 ms374 so375 po376 wr377 to378 hc) (z_wv hK hP hD [22, 23, 24, 25, 26, 27, 28, 29, 30] (by decide) rfl 22 rfl rfl) hl.1 rfl rfl (Nat.le_of_ble_eq_true rfl) dL_law_922 ⟨hcl, hsl⟩) (fun H locs hP hD hS => ?_)
          refine zc_eq (tgt := 1002) hx hb dL_law_925 (by decide) h (fun h => ?_) (fun h => ?_)
          · refine o_nm h (fun v379 ey h => ?_)
            refine lv_iinc (v := v379) (lv' := [(3, .int v379), (0, .ref (b)), (1, .ref (a 0)), (2, .ref (a 30))]) hx hb dL_law_1002 hl (k := 3) rfl (Eq.trans rfl ey) (by decide) rfl (fun ls hl => ?_)
            refine lv_goto (tgt := 18) hx hb dL_law_1005 (by decide) ?_
            exact ih18 f_ g_ nx_ hz_ sw_ fl_ sg_ pl_ pa368 pk369 pn370 pf371 pg372 ms374 ah_ hi_ kp_ sl_ sv_ pd_ ln_ so375 po376 wr377 to378 v379 h _ _ hP hD hS ls (lv_sub hl [1, 2, 3, 0] rfl)
          · refine lv_iconst (v := (0 : Int32)) hx hb dL_law_928 (by decide) ?_
            exact absurd h (by decide)
        refine o_sw h (fun q25 h => ?_) (fun q25 h => ?_)
        · refine lv_tableIn (off := (898 : Int)) (tgt := 930) hx hb dL_law_32 (by rw [q25]; decide) (by rw [q25]; decide) (by rw [q25]; decide) (by decide) ?_
          refine lv_aload_n hx hb dL_law_930 rfl (lv_at hl 1 rfl) ?_
          obtain ⟨v380, f381, g382, nx383, hz384, pl385, pa386, pk387, pn388, pf389, pg390, hc, h⟩ := zb11_s h
          refine zG_i (w1 := wX7 ct a f381 g382 nx383 hz384 sw_ fl_ sg_ pl385 pa386 pk387 pn388 pf389 pg390) (ws' := (wX7 ct a f381 g382 nx383 hz384 sw_ fl_ sg_ pl385 pa386 pk387 pn388 pf389 pg390 ++ wX8 ct a ms_ ah_ hi_ kp_ sl_ sv_ pd_ ln_ so_ po_ wr_ to_)) hP hD hS hA [0, 1, 2, 3, 4, 5, 6, 7, 8, 9, 10, 11, 12, 13, 14, 15, 16, 17, 18, 19, 20, 21] [22, 23, 24, 25, 26, 27, 28, 29, 30] [9, 10, 11, 12, 13, 14, 15, 16, 17, 18, 19, 20, 21, 22, 23, 24, 25, 26, 27, 28, 29, 30, 0, 1, 2, 3, 4, 5, 6, 7, 8] rfl rfl (by decide) (by decide) rfl (by decide) (zrV (C := RX7) (As := []) (rest := []) hx hb hml hown hts tw734 mv_X7_carryOut ⟨Nat.le_of_ble_eq_true rfl, Nat.le_of_ble_eq_true rfl⟩ rfl rfl (ct_X7_carryOut l D ct a st f_ g_ nx_ hz_ sw_ fl_ sg_ pl_ pa_ pk_ pn_ pf_ pg_ _  k v380 f381 g382 nx383 hz384 pl385 pa386 pk387 pn388 pf389 pg390 hc) (z_zv hZ hK hP hD hS hA [0, 1, 2, 3, 4, 5, 6, 7, 8, 9, 10, 11, 12, 13, 14, 15, 16, 17, 18, 19, 20, 21] (by decide) rfl 0 rfl rfl) hl.1 rfl rfl (Nat.le_of_ble_eq_true rfl) dL_law_931 ⟨hcl, hsl⟩) (fun H locs hP hD hS => ?_)
          refine lv_aload_n hx hb dL_law_934 rfl (lv_at hl 2 rfl) ?_
          obtain ⟨v391, ms392, ah393, hi394, kp395, ln396, so397, po398, wr399, to400, hc, h⟩ := zb10_s h
          refine zG_i (w1 := wX8 ct a ms392 ah393 hi394 kp395 sl_ sv_ pd_ ln396 so397 po398 wr399 to400) (ws' := (wX7 ct a f381 g382 nx383 hz384 sw_ fl_ sg_ pl385 pa386 pk387 pn388 pf389 pg390 ++ wX8 ct a ms392 ah393 hi394 kp395 sl_ sv_ pd_ ln396 so397 po398 wr399 to400)) hP hD hS hA [22, 23, 24, 25, 26, 27, 28, 29, 30] [0, 1, 2, 3, 4, 5, 6, 7, 8, 9, 10, 11, 12, 13, 14, 15, 16, 17, 18, 19, 20, 21] [0, 1, 2, 3, 4, 5, 6, 7, 8, 9, 10, 11, 12, 13, 14, 15, 16, 17, 18, 19, 20, 21, 22, 23, 24, 25, 26, 27, 28, 29, 30] rfl rfl (by decide) (by decide) rfl (by decide) (zrV (C := RX8) (As := []) (rest := [.int v380]) hx hb hml hown hts tw1143 mv_X8_carryOut ⟨Nat.le_of_ble_eq_true rfl, Nat.le_of_ble_eq_true rfl⟩ rfl rfl (ct_X8_carryOut l D ct a ms_ ah_ hi_ kp_ sl_ sv_ pd_ ln_ so_ po_ wr_ to_ _  k v391 ms392 ah393 hi394 kp395 ln396 so397 po398 wr399 to400 hc) (z_wv hK hP hD [22, 23, 24, 25, 26, 27, 28, 29, 30] (by decide) rfl 22 rfl rfl) hl.1 rfl rfl (Nat.le_of_ble_eq_true rfl) dL_law_935 ⟨hcl, hsl⟩) (fun H locs hP hD hS => ?_)
          refine zc_eq (tgt := 1002) hx hb dL_law_938 (by decide) h (fun h => ?_) (fun h => ?_)
          · refine o_nm h (fun v401 ey h => ?_)
            refine lv_iinc (v := v401) (lv' := [(3, .int v401), (0, .ref (b)), (1, .ref (a 0)), (2, .ref (a 30))]) hx hb dL_law_1002 hl (k := 3) rfl (Eq.trans rfl ey) (by decide) rfl (fun ls hl => ?_)
            refine lv_goto (tgt := 18) hx hb dL_law_1005 (by decide) ?_
            exact ih18 f381 g382 nx383 hz384 sw_ fl_ sg_ pl385 pa386 pk387 pn388 pf389 pg390 ms392 ah393 hi394 kp395 sl_ sv_ pd_ ln396 so397 po398 wr399 to400 v401 h _ _ hP hD hS ls (lv_sub hl [1, 2, 3, 0] rfl)
          · refine lv_iconst (v := (0 : Int32)) hx hb dL_law_941 (by decide) ?_
            exact absurd h (by decide)
        refine o_sw h (fun q26 h => ?_) (fun q26 h => ?_)
        · refine lv_tableIn (off := (911 : Int)) (tgt := 943) hx hb dL_law_32 (by rw [q26]; decide) (by rw [q26]; decide) (by rw [q26]; decide) (by decide) ?_
          refine lv_aload_n hx hb dL_law_943 rfl (lv_at hl 1 rfl) ?_
          obtain ⟨v402, f403, nx404, hz405, hc, h⟩ := zb4_s h
          refine zG_i (w1 := wX7 ct a f403 g_ nx404 hz405 sw_ fl_ sg_ pl_ pa_ pk_ pn_ pf_ pg_) (ws' := (wX7 ct a f403 g_ nx404 hz405 sw_ fl_ sg_ pl_ pa_ pk_ pn_ pf_ pg_ ++ wX8 ct a ms_ ah_ hi_ kp_ sl_ sv_ pd_ ln_ so_ po_ wr_ to_)) hP hD hS hA [0, 1, 2, 3, 4, 5, 6, 7, 8, 9, 10, 11, 12, 13, 14, 15, 16, 17, 18, 19, 20, 21] [22, 23, 24, 25, 26, 27, 28, 29, 30] [9, 10, 11, 12, 13, 14, 15, 16, 17, 18, 19, 20, 21, 22, 23, 24, 25, 26, 27, 28, 29, 30, 0, 1, 2, 3, 4, 5, 6, 7, 8] rfl rfl (by decide) (by decide) rfl (by decide) (zrV (C := RX7) (As := []) (rest := []) hx hb hml hown hts tw752 mv_X7_undo ⟨Nat.le_of_ble_eq_true rfl, Nat.le_of_ble_eq_true rfl⟩ rfl rfl (ct_X7_undo l D ct a f_ g_ nx_ hz_ sw_ fl_ sg_ pl_ pa_ pk_ pn_ pf_ pg_ _  k v402 f403 nx404 hz405 hc) (z_wv hK hP hD [0, 1, 2, 3, 4, 5, 6, 7, 8, 9, 10, 11, 12, 13, 14, 15, 16, 17, 18, 19, 20, 21] (by decide) rfl 0 rfl rfl) hl.1 rfl rfl (Nat.le_of_ble_eq_true rfl) dL_law_944 ⟨hcl, hsl⟩) (fun H locs hP hD hS => ?_)
          refine lv_aload_n hx hb dL_law_947 rfl (lv_at hl 2 rfl) ?_
          obtain ⟨v406, ms407, kp408, hc, h⟩ := zb3_s h
          refine zG_i (w1 := wX8 ct a ms407 ah_ hi_ kp408 sl_ sv_ pd_ ln_ so_ po_ wr_ to_) (ws' := (wX7 ct a f403 g_ nx404 hz405 sw_ fl_ sg_ pl_ pa_ pk_ pn_ pf_ pg_ ++ wX8 ct a ms407 ah_ hi_ kp408 sl_ sv_ pd_ ln_ so_ po_ wr_ to_)) hP hD hS hA [22, 23, 24, 25, 26, 27, 28, 29, 30] [0, 1, 2, 3, 4, 5, 6, 7, 8, 9, 10, 11, 12, 13, 14, 15, 16, 17, 18, 19, 20, 21] [0, 1, 2, 3, 4, 5, 6, 7, 8, 9, 10, 11, 12, 13, 14, 15, 16, 17, 18, 19, 20, 21, 22, 23, 24, 25, 26, 27, 28, 29, 30] rfl rfl (by decide) (by decide) rfl (by decide) (zrV (C := RX8) (As := []) (rest := [.int v402]) hx hb hml hown hts tw1147 mv_X8_undo ⟨Nat.le_of_ble_eq_true rfl, Nat.le_of_ble_eq_true rfl⟩ rfl rfl (ct_X8_undo l D ct a ms_ ah_ hi_ kp_ sl_ sv_ pd_ ln_ so_ po_ wr_ to_ _  k v406 ms407 kp408 hc) (z_wv hK hP hD [22, 23, 24, 25, 26, 27, 28, 29, 30] (by decide) rfl 22 rfl rfl) hl.1 rfl rfl (Nat.le_of_ble_eq_true rfl) dL_law_948 ⟨hcl, hsl⟩) (fun H locs hP hD hS => ?_)
          refine zc_eq (tgt := 1002) hx hb dL_law_951 (by decide) h (fun h => ?_) (fun h => ?_)
          · refine o_nm h (fun v409 ey h => ?_)
            refine lv_iinc (v := v409) (lv' := [(3, .int v409), (0, .ref (b)), (1, .ref (a 0)), (2, .ref (a 30))]) hx hb dL_law_1002 hl (k := 3) rfl (Eq.trans rfl ey) (by decide) rfl (fun ls hl => ?_)
            refine lv_goto (tgt := 18) hx hb dL_law_1005 (by decide) ?_
            exact ih18 f403 g_ nx404 hz405 sw_ fl_ sg_ pl_ pa_ pk_ pn_ pf_ pg_ ms407 ah_ hi_ kp408 sl_ sv_ pd_ ln_ so_ po_ wr_ to_ v409 h _ _ hP hD hS ls (lv_sub hl [1, 2, 3, 0] rfl)
          · refine lv_iconst (v := (0 : Int32)) hx hb dL_law_954 (by decide) ?_
            exact absurd h (by decide)
        refine o_sw h (fun q27 h => ?_) (fun q27 h => ?_)
        · refine lv_tableIn (off := (924 : Int)) (tgt := 956) hx hb dL_law_32 (by rw [q27]; decide) (by rw [q27]; decide) (by rw [q27]; decide) (by decide) ?_
          refine lv_aload_n hx hb dL_law_956 rfl (lv_at hl 1 rfl) ?_
          refine lv_aload_n hx hb dL_law_957 rfl (lv_at hl 0 rfl) ?_
          refine lv_iload_n hx hb dL_law_958 rfl (lv_at hl 3 rfl) ?_
          refine lv_iconst (v := (1 : Int32)) hx hb dL_law_959 (by decide) ?_
          refine o_iadd hx hb dL_law_960 h (fun v410 h => ?_)
          refine o_sld hx hb hX hbl hbA hS h dL_law_961 (fun v411 h => ?_)
          obtain ⟨v412, sw413, fl414, hc, h⟩ := zb3_s h
          refine zG_i (w1 := wX7 ct a f_ g_ nx_ hz_ sw413 fl414 sg_ pl_ pa_ pk_ pn_ pf_ pg_) (ws' := (wX7 ct a f_ g_ nx_ hz_ sw413 fl414 sg_ pl_ pa_ pk_ pn_ pf_ pg_ ++ wX8 ct a ms_ ah_ hi_ kp_ sl_ sv_ pd_ ln_ so_ po_ wr_ to_)) hP hD hS hA [0, 1, 2, 3, 4, 5, 6, 7, 8, 9, 10, 11, 12, 13, 14, 15, 16, 17, 18, 19, 20, 21] [22, 23, 24, 25, 26, 27, 28, 29, 30] [9, 10, 11, 12, 13, 14, 15, 16, 17, 18, 19, 20, 21, 22, 23, 24, 25, 26, 27, 28, 29, 30, 0, 1, 2, 3, 4, 5, 6, 7, 8] rfl rfl (by decide) (by decide) rfl (by decide) (zrV (C := RX7) (As := [.int v411]) (rest := []) hx hb hml hown hts tw764 mv_X7_save ⟨Nat.le_of_ble_eq_true rfl, Nat.le_of_ble_eq_true rfl⟩ rfl rfl (ct_X7_save l D ct a f_ g_ nx_ hz_ sw_ fl_ sg_ pl_ pa_ pk_ pn_ pf_ pg_ _ v411 k v412 sw413 fl414 hc) (z_wv hK hP hD [0, 1, 2, 3, 4, 5, 6, 7, 8, 9, 10, 11, 12, 13, 14, 15, 16, 17, 18, 19, 20, 21] (by decide) rfl 0 rfl rfl) hl.1 rfl rfl (Nat.le_of_ble_eq_true rfl) dL_law_962 ⟨hcl, hsl⟩) (fun H locs hP hD hS => ?_)
          refine lv_aload_n hx hb dL_law_965 rfl (lv_at hl 2 rfl) ?_
          refine lv_aload_n hx hb dL_law_966 rfl (lv_at hl 0 rfl) ?_
          refine lv_iload_n hx hb dL_law_967 rfl (lv_at hl 3 rfl) ?_
          refine lv_iconst (v := (1 : Int32)) hx hb dL_law_968 (by decide) ?_
          refine o_iadd hx hb dL_law_969 h (fun v415 h => ?_)
          refine o_sld hx hb hX hbl hbA hS h dL_law_970 (fun v416 h => ?_)
          obtain ⟨v417, sl418, sv419, hc, h⟩ := zb3_s h
          refine zG_i (w1 := wX8 ct a ms_ ah_ hi_ kp_ sl418 sv419 pd_ ln_ so_ po_ wr_ to_) (ws' := (wX7 ct a f_ g_ nx_ hz_ sw413 fl414 sg_ pl_ pa_ pk_ pn_ pf_ pg_ ++ wX8 ct a ms_ ah_ hi_ kp_ sl418 sv419 pd_ ln_ so_ po_ wr_ to_)) hP hD hS hA [22, 23, 24, 25, 26, 27, 28, 29, 30] [0, 1, 2, 3, 4, 5, 6, 7, 8, 9, 10, 11, 12, 13, 14, 15, 16, 17, 18, 19, 20, 21] [0, 1, 2, 3, 4, 5, 6, 7, 8, 9, 10, 11, 12, 13, 14, 15, 16, 17, 18, 19, 20, 21, 22, 23, 24, 25, 26, 27, 28, 29, 30] rfl rfl (by decide) (by decide) rfl (by decide) (zrV (C := RX8) (As := [.int v416]) (rest := [.int v412]) hx hb hml hown hts tw1151 mv_X8_save ⟨Nat.le_of_ble_eq_true rfl, Nat.le_of_ble_eq_true rfl⟩ rfl rfl (ct_X8_save l D ct a ms_ ah_ hi_ kp_ sl_ sv_ pd_ ln_ so_ po_ wr_ to_ _ v416 k v417 sl418 sv419 hc) (z_wv hK hP hD [22, 23, 24, 25, 26, 27, 28, 29, 30] (by decide) rfl 22 rfl rfl) hl.1 rfl rfl (Nat.le_of_ble_eq_true rfl) dL_law_971 ⟨hcl, hsl⟩) (fun H locs hP hD hS => ?_)
          refine zc_eq (tgt := 1002) hx hb dL_law_974 (by decide) h (fun h => ?_) (fun h => ?_)
          · refine o_nm h (fun v420 ey h => ?_)
            refine lv_iinc (v := v420) (lv' := [(3, .int v420), (0, .ref (b)), (1, .ref (a 0)), (2, .ref (a 30))]) hx hb dL_law_1002 hl (k := 3) rfl (Eq.trans rfl ey) (by decide) rfl (fun ls hl => ?_)
            refine lv_goto (tgt := 18) hx hb dL_law_1005 (by decide) ?_
            exact ih18 f_ g_ nx_ hz_ sw413 fl414 sg_ pl_ pa_ pk_ pn_ pf_ pg_ ms_ ah_ hi_ kp_ sl418 sv419 pd_ ln_ so_ po_ wr_ to_ v420 h _ _ hP hD hS ls (lv_sub hl [1, 2, 3, 0] rfl)
          · refine lv_iconst (v := (0 : Int32)) hx hb dL_law_977 (by decide) ?_
            exact absurd h (by decide)
        refine o_sw h (fun q28 h => ?_) (fun q28 h => ?_)
        · refine lv_tableIn (off := (947 : Int)) (tgt := 979) hx hb dL_law_32 (by rw [q28]; decide) (by rw [q28]; decide) (by rw [q28]; decide) (by decide) ?_
          refine lv_aload_n hx hb dL_law_979 rfl (lv_at hl 1 rfl) ?_
          refine lv_aload_n hx hb dL_law_980 rfl (lv_at hl 0 rfl) ?_
          refine lv_iload_n hx hb dL_law_981 rfl (lv_at hl 3 rfl) ?_
          refine lv_iconst (v := (1 : Int32)) hx hb dL_law_982 (by decide) ?_
          refine o_iadd hx hb dL_law_983 h (fun v421 h => ?_)
          refine o_sld hx hb hX hbl hbA hS h dL_law_984 (fun v422 h => ?_)
          obtain ⟨v423, f424, g425, nx426, hz427, hc, h⟩ := zb5_s h
          refine zG_i (w1 := wX7 ct a f424 g425 nx426 hz427 sw_ fl_ sg_ pl_ pa_ pk_ pn_ pf_ pg_) (ws' := (wX7 ct a f424 g425 nx426 hz427 sw_ fl_ sg_ pl_ pa_ pk_ pn_ pf_ pg_ ++ wX8 ct a ms_ ah_ hi_ kp_ sl_ sv_ pd_ ln_ so_ po_ wr_ to_)) hP hD hS hA [0, 1, 2, 3, 4, 5, 6, 7, 8, 9, 10, 11, 12, 13, 14, 15, 16, 17, 18, 19, 20, 21] [22, 23, 24, 25, 26, 27, 28, 29, 30] [9, 10, 11, 12, 13, 14, 15, 16, 17, 18, 19, 20, 21, 22, 23, 24, 25, 26, 27, 28, 29, 30, 0, 1, 2, 3, 4, 5, 6, 7, 8] rfl rfl (by decide) (by decide) rfl (by decide) (zrV (C := RX7) (As := [.int v422]) (rest := []) hx hb hml hown hts tw777 mv_X7_restore ⟨Nat.le_of_ble_eq_true rfl, Nat.le_of_ble_eq_true rfl⟩ rfl rfl (ct_X7_restore l D ct a f_ g_ nx_ hz_ sw_ fl_ sg_ pl_ pa_ pk_ pn_ pf_ pg_ _ v422 k v423 f424 g425 nx426 hz427 hc) (z_wv hK hP hD [0, 1, 2, 3, 4, 5, 6, 7, 8, 9, 10, 11, 12, 13, 14, 15, 16, 17, 18, 19, 20, 21] (by decide) rfl 0 rfl rfl) hl.1 rfl rfl (Nat.le_of_ble_eq_true rfl) dL_law_985 ⟨hcl, hsl⟩) (fun H locs hP hD hS => ?_)
          refine lv_aload_n hx hb dL_law_988 rfl (lv_at hl 2 rfl) ?_
          refine lv_aload_n hx hb dL_law_989 rfl (lv_at hl 0 rfl) ?_
          refine lv_iload_n hx hb dL_law_990 rfl (lv_at hl 3 rfl) ?_
          refine lv_iconst (v := (1 : Int32)) hx hb dL_law_991 (by decide) ?_
          refine o_iadd hx hb dL_law_992 h (fun v428 h => ?_)
          refine o_sld hx hb hX hbl hbA hS h dL_law_993 (fun v429 h => ?_)
          obtain ⟨v430, ms431, ah432, hi433, kp434, hc, h⟩ := zb5_s h
          refine zG_i (w1 := wX8 ct a ms431 ah432 hi433 kp434 sl_ sv_ pd_ ln_ so_ po_ wr_ to_) (ws' := (wX7 ct a f424 g425 nx426 hz427 sw_ fl_ sg_ pl_ pa_ pk_ pn_ pf_ pg_ ++ wX8 ct a ms431 ah432 hi433 kp434 sl_ sv_ pd_ ln_ so_ po_ wr_ to_)) hP hD hS hA [22, 23, 24, 25, 26, 27, 28, 29, 30] [0, 1, 2, 3, 4, 5, 6, 7, 8, 9, 10, 11, 12, 13, 14, 15, 16, 17, 18, 19, 20, 21] [0, 1, 2, 3, 4, 5, 6, 7, 8, 9, 10, 11, 12, 13, 14, 15, 16, 17, 18, 19, 20, 21, 22, 23, 24, 25, 26, 27, 28, 29, 30] rfl rfl (by decide) (by decide) rfl (by decide) (zrV (C := RX8) (As := [.int v429]) (rest := [.int v423]) hx hb hml hown hts tw1155 mv_X8_restore ⟨Nat.le_of_ble_eq_true rfl, Nat.le_of_ble_eq_true rfl⟩ rfl rfl (ct_X8_restore l D ct a ms_ ah_ hi_ kp_ sl_ sv_ pd_ ln_ so_ po_ wr_ to_ _ v429 k v430 ms431 ah432 hi433 kp434 hc) (z_wv hK hP hD [22, 23, 24, 25, 26, 27, 28, 29, 30] (by decide) rfl 22 rfl rfl) hl.1 rfl rfl (Nat.le_of_ble_eq_true rfl) dL_law_994 ⟨hcl, hsl⟩) (fun H locs hP hD hS => ?_)
          refine zc_eq (tgt := 1002) hx hb dL_law_997 (by decide) h (fun h => ?_) (fun h => ?_)
          · refine o_nm h (fun v435 ey h => ?_)
            refine lv_iinc (v := v435) (lv' := [(3, .int v435), (0, .ref (b)), (1, .ref (a 0)), (2, .ref (a 30))]) hx hb dL_law_1002 hl (k := 3) rfl (Eq.trans rfl ey) (by decide) rfl (fun ls hl => ?_)
            refine lv_goto (tgt := 18) hx hb dL_law_1005 (by decide) ?_
            exact ih18 f424 g425 nx426 hz427 sw_ fl_ sg_ pl_ pa_ pk_ pn_ pf_ pg_ ms431 ah432 hi433 kp434 sl_ sv_ pd_ ln_ so_ po_ wr_ to_ v435 h _ _ hP hD hS ls (lv_sub hl [1, 2, 3, 0] rfl)
          · refine lv_iconst (v := (0 : Int32)) hx hb dL_law_1000 (by decide) ?_
            exact absurd h (by decide)
        · refine lv_tableOut (tgt := 1002) hx hb dL_law_32 (by have w0 := lv_neT (a := 0) q0 rfl; have w1 := lv_neT (a := 1) q1 rfl; have w2 := lv_neT (a := 2) q2 rfl; have w3 := lv_neT (a := 3) q3 rfl; have w4 := lv_neT (a := 4) q4 rfl; have w5 := lv_neT (a := 5) q5 rfl; have w6 := lv_neT (a := 6) q6 rfl; have w7 := lv_neT (a := 7) q7 rfl; have w8 := lv_neT (a := 8) q8 rfl; have w9 := lv_neT (a := 9) q9 rfl; have w10 := lv_neT (a := 10) q10 rfl; have w11 := lv_neT (a := 11) q11 rfl; have w12 := lv_neT (a := 12) q12 rfl; have w13 := lv_neT (a := 13) q13 rfl; have w14 := lv_neT (a := 14) q14 rfl; have w15 := lv_neT (a := 15) q15 rfl; have w16 := lv_neT (a := 16) q16 rfl; have w17 := lv_neT (a := 17) q17 rfl; have w18 := lv_neT (a := 18) q18 rfl; have w19 := lv_neT (a := 19) q19 rfl; have w20 := lv_neT (a := 20) q20 rfl; have w21 := lv_neT (a := 21) q21 rfl; have w22 := lv_neT (a := 22) q22 rfl; have w23 := lv_neT (a := 23) q23 rfl; have w24 := lv_neT (a := 24) q24 rfl; have w25 := lv_neT (a := 25) q25 rfl; have w26 := lv_neT (a := 26) q26 rfl; have w27 := lv_neT (a := 27) q27 rfl; have w28 := lv_neT (a := 28) q28 rfl; omega) (by decide) ?_
          refine o_nm h (fun v436 ey h => ?_)
          refine lv_iinc (v := v436) (lv' := [(3, .int v436), (0, .ref (b)), (1, .ref (a 0)), (2, .ref (a 30))]) hx hb dL_law_1002 hl (k := 3) rfl (Eq.trans rfl ey) (by decide) rfl (fun ls hl => ?_)
          refine lv_goto (tgt := 18) hx hb dL_law_1005 (by decide) ?_
          exact ih18 f_ g_ nx_ hz_ sw_ fl_ sg_ pl_ pa_ pk_ pn_ pf_ pg_ ms_ ah_ hi_ kp_ sl_ sv_ pd_ ln_ so_ po_ wr_ to_ v436 h _ _ hP hD hS ls (lv_sub hl [1, 2, 3, 0] rfl)
  rw [f_law] at h
  refine lv_iconst (v := (0 : Int32)) hx hb dL_law_16 (by decide) ?_
  refine lv_istore_n (lv' := [(3, .int (0 : Int32)), (0, .ref (b)), (1, .ref (a 0)), (2, .ref (a 30))]) hx hb dL_law_17 rfl hl (by decide) rfl (fun ls hl => ?_)
  exact B18 k f g nx hz sw fl sg pl pa pk pn pf pg ms ah hi kp sl sv pd ln so po wr to (0 : Int32) h _ _ hP hD hS ls (lv_sub hl [1, 2, 3, 0] rfl)
