def jL_law_295 (L : Nat) (xs : Nat → Int32) (x3 : Int32) (s0 : Int32) (s2 : Int32) (s3 : Int32) (kb : Int32 → ow_M → Option Int32) (k : Int32 → ow_M → Option Int32) (M : ow_M) : Option Int32 := ow_bd (fX8_grudge s2 s3 M) (fun v40 M41 => (if s0 = v40 then kb (x3 + 6) M41 else some 0))
set_option maxRecDepth 100000 in
set_option maxHeartbeats 4000000 in
theorem tjL_law_295 (l : Launch) {b L : Nat} {xs : Nat → Int32} {x3 : Int32} {s0 : Int32} {s2 : Int32} {s3 : Int32} {kb : Int32 → ow_M → Option Int32} {k : Int32 → ow_M → Option Int32} {M : ow_M}  (hkb : ∀ (z3 : Int32) (Mz : ow_M), kb z3 Mz = some 1 → ow_G (ow_ΓL l b L xs) RL cL_law 4 18 [some (.ref 99), some (.ref 0), some (.ref 34), some (.int z3)] [] Mz) (hk : ∀ (z3 : Int32) (Mz : ow_M), k z3 Mz = some 1 → ow_G (ow_ΓL l b L xs) RL cL_law 4 1142 [some (.ref 99), some (.ref 0), some (.ref 34), some (.int z3)] [] Mz) (h : jL_law_295 L xs x3 s0 s2 s3 kb k M = some 1) : ow_G (ow_ΓL l b L xs) RL cL_law 4 295 [some (.ref 99), some (.ref 0), some (.ref 34), some (.int x3)] [.int s3, .int s2, .ref 34, .int s0] M := by
  unfold jL_law_295 at h
  obtain ⟨v40, M41, hc39, h⟩ := ow_bd_some h
  refine gw_cVI2 dL_law_295 lkL_27 mkX8_grudge (ow_rm_law rfl rfl) rfl rfl (ctX8_grudge l hc39) rfl ?_
  refine gw_icmp_eq (tgt := 1136) dL_law_298 rfl (fun h42 => ?_) (fun h42 => ?_)
  · replace h := (if_pos h42).symm.trans h
    refine gw_iinc3 6 dL_law_1136 (by decide) rfl (by decide) ?_
    refine gw_goto (tgt := 18) rfl dL_law_1139 ?_
    exact hkb _ _ h
  · replace h := (if_neg h42).symm.trans h
    refine gw_ic0 dL_law_301 ?_
    exact absurd (Option.some.inj h) (by decide)

def jL_law_273 (L : Nat) (xs : Nat → Int32) (x3 : Int32) (s1 : Int32) (s2 : Int32) (kb : Int32 → ow_M → Option Int32) (k : Int32 → ow_M → Option Int32) (M : ow_M) : Option Int32 := ow_bd (fX7_grudge s1 s2 M) (fun v34 M35 => if ow_inn (x3 + 1) L then if ow_inn (x3 + 2) L then (if (xs (x3 + 2).toNatClampNeg) = 0 then jL_law_295 L xs x3 v34 (xs (x3 + 1).toNatClampNeg) 0 (kb) k M35 else jL_law_295 L xs x3 v34 (xs (x3 + 1).toNatClampNeg) 1 (kb) k M35) else none else none)
set_option maxRecDepth 100000 in
set_option maxHeartbeats 4000000 in
theorem tjL_law_273 (l : Launch) {b L : Nat} {xs : Nat → Int32} {x3 : Int32} {s1 : Int32} {s2 : Int32} {kb : Int32 → ow_M → Option Int32} {k : Int32 → ow_M → Option Int32} {M : ow_M}  (hkb : ∀ (z3 : Int32) (Mz : ow_M), kb z3 Mz = some 1 → ow_G (ow_ΓL l b L xs) RL cL_law 4 18 [some (.ref 99), some (.ref 0), some (.ref 34), some (.int z3)] [] Mz) (hk : ∀ (z3 : Int32) (Mz : ow_M), k z3 Mz = some 1 → ow_G (ow_ΓL l b L xs) RL cL_law 4 1142 [some (.ref 99), some (.ref 0), some (.ref 34), some (.int z3)] [] Mz) (h : jL_law_273 L xs x3 s1 s2 kb k M = some 1) : ow_G (ow_ΓL l b L xs) RL cL_law 4 273 [some (.ref 99), some (.ref 0), some (.ref 34), some (.int x3)] [.int s2, .int s1, .ref 0] M := by
  unfold jL_law_273 at h
  obtain ⟨v34, M35, hc33, h⟩ := ow_bd_some h
  refine gw_cVI2 dL_law_273 lkL_23 mkX7_grudge (ow_rm_law rfl rfl) rfl rfl (ctX7_grudge l hc33) rfl ?_
  refine gw_aload2 dL_law_276 ?_
  refine gw_aload0 dL_law_277 ?_
  refine gw_iload3 dL_law_278 ?_
  refine gw_ic1 dL_law_279 ?_
  refine gw_iadd dL_law_280 ?_
  by_cases h36 : ow_inn (x3 + 1) L
  rotate_left
  · replace h := (if_neg h36).symm.trans h
    cases h
  replace h := (if_pos h36).symm.trans h
  refine gw_sld dL_law_281 h36 ?_
  refine gw_aload0 dL_law_282 ?_
  refine gw_iload3 dL_law_283 ?_
  refine gw_ic2 dL_law_284 ?_
  refine gw_iadd dL_law_285 ?_
  by_cases h37 : ow_inn (x3 + 2) L
  rotate_left
  · replace h := (if_neg h37).symm.trans h
    cases h
  replace h := (if_pos h37).symm.trans h
  refine gw_sld dL_law_286 h37 ?_
  refine gw_if_eq (tgt := 294) dL_law_287 rfl (fun h38 => ?_) (fun h38 => ?_)
  · replace h := (if_pos h38).symm.trans h
    refine gw_ic0 dL_law_294 ?_
    exact tjL_law_295 l hkb hk h
  · replace h := (if_neg h38).symm.trans h
    refine gw_ic1 dL_law_290 ?_
    refine gw_goto (tgt := 295) rfl dL_law_291 ?_
    exact tjL_law_295 l hkb hk h

def lpL_law (L : Nat) (xs : Nat → Int32)  (k : Int32 → ow_M → Option Int32) : Nat → Int32 → ow_M → Option Int32
  | 0, _, _ => none
  | n + 1, x3, M => (if ((Int32.ofNat L) - 6) < x3 then k x3 M else if ow_inn x3 L then (if ((xs x3.toNatClampNeg) &&& 31) = 0 then if ow_inn (x3 + 1) L then if ow_inn (x3 + 2) L then if ow_inn (x3 + 3) L then if ow_inn (x3 + 4) L then ow_bd (fX7_wire (xs (x3 + 1).toNatClampNeg) (xs (x3 + 2).toNatClampNeg) (xs (x3 + 3).toNatClampNeg) (xs (x3 + 4).toNatClampNeg) M) (fun v9 M10 => if ow_inn (x3 + 1) L then if ow_inn (x3 + 2) L then if ow_inn (x3 + 3) L then if ow_inn (x3 + 4) L then ow_bd (fX8_wire (xs (x3 + 1).toNatClampNeg) (xs (x3 + 2).toNatClampNeg) (xs (x3 + 3).toNatClampNeg) (xs (x3 + 4).toNatClampNeg) M10) (fun v16 M17 => (if v9 = v16 then lpL_law L xs  k n (x3 + 6) M17 else some 0)) else none else none else none else none) else none else none else none else none else (if ((xs x3.toNatClampNeg) &&& 31) = 1 then if ow_inn (x3 + 1) L then if ow_inn (x3 + 2) L then Option.bind (fX7_ofPerson (xs (x3 + 1).toNatClampNeg) (xs (x3 + 2).toNatClampNeg) M) (fun v23 => if ow_inn (x3 + 1) L then if ow_inn (x3 + 2) L then Option.bind (fX8_ofPerson (xs (x3 + 1).toNatClampNeg) (xs (x3 + 2).toNatClampNeg) M) (fun v27 => (if v23 = v27 then lpL_law L xs  k n (x3 + 6) M else some 0)) else none else none) else none else none else (if ((xs x3.toNatClampNeg) &&& 31) = 2 then if ow_inn (x3 + 1) L then if ow_inn (x3 + 2) L then (if (xs (x3 + 2).toNatClampNeg) = 0 then jL_law_273 L xs x3 (xs (x3 + 1).toNatClampNeg) 0 (lpL_law L xs  k n) k M else jL_law_273 L xs x3 (xs (x3 + 1).toNatClampNeg) 1 (lpL_law L xs  k n) k M) else none else none else (if ((xs x3.toNatClampNeg) &&& 31) = 3 then if ow_inn (x3 + 1) L then ow_bd (fX7_hand (xs (x3 + 1).toNatClampNeg) M) (fun v46 M47 => if ow_inn (x3 + 1) L then ow_bd (fX8_hand (xs (x3 + 1).toNatClampNeg) M47) (fun v50 M51 => (if v46 = v50 then lpL_law L xs  k n (x3 + 6) M51 else some 0)) else none) else none else (if ((xs x3.toNatClampNeg) &&& 31) = 4 then if ow_inn (x3 + 1) L then if ow_inn (x3 + 2) L then ow_bd (fX7_wish (xs (x3 + 1).toNatClampNeg) (xs (x3 + 2).toNatClampNeg) M) (fun v57 M58 => if ow_inn (x3 + 1) L then if ow_inn (x3 + 2) L then ow_bd (fX8_wish (xs (x3 + 1).toNatClampNeg) (xs (x3 + 2).toNatClampNeg) M58) (fun v62 M63 => (if v57 = v62 then lpL_law L xs  k n (x3 + 6) M63 else some 0)) else none else none) else none else none else (if ((xs x3.toNatClampNeg) &&& 31) = 5 then if ow_inn (x3 + 1) L then if ow_inn (x3 + 2) L then if ow_inn (x3 + 3) L then if ow_inn (x3 + 4) L then ow_bd (fX7_news (xs (x3 + 1).toNatClampNeg) (xs (x3 + 2).toNatClampNeg) (xs (x3 + 3).toNatClampNeg) (xs (x3 + 4).toNatClampNeg) M) (fun v71 M72 => if ow_inn (x3 + 1) L then if ow_inn (x3 + 2) L then if ow_inn (x3 + 3) L then if ow_inn (x3 + 4) L then ow_bd (fX8_news (xs (x3 + 1).toNatClampNeg) (xs (x3 + 2).toNatClampNeg) (xs (x3 + 3).toNatClampNeg) (xs (x3 + 4).toNatClampNeg) M72) (fun v78 M79 => (if v71 = v78 then lpL_law L xs  k n (x3 + 6) M79 else some 0)) else none else none else none else none) else none else none else none else none else (if ((xs x3.toNatClampNeg) &&& 31) = 6 then if ow_inn (x3 + 1) L then if ow_inn (x3 + 2) L then if ow_inn (x3 + 3) L then if ow_inn (x3 + 4) L then ow_bd (fX7_said (xs (x3 + 1).toNatClampNeg) (xs (x3 + 2).toNatClampNeg) (xs (x3 + 3).toNatClampNeg) (xs (x3 + 4).toNatClampNeg) M) (fun v87 M88 => if ow_inn (x3 + 1) L then if ow_inn (x3 + 2) L then if ow_inn (x3 + 3) L then if ow_inn (x3 + 4) L then ow_bd (fX8_said (xs (x3 + 1).toNatClampNeg) (xs (x3 + 2).toNatClampNeg) (xs (x3 + 3).toNatClampNeg) (xs (x3 + 4).toNatClampNeg) M88) (fun v94 M95 => (if v87 = v94 then lpL_law L xs  k n (x3 + 6) M95 else some 0)) else none else none else none else none) else none else none else none else none else (if ((xs x3.toNatClampNeg) &&& 31) = 7 then ow_bd (fX7_fewest M) (fun v99 M100 => ow_bd (fX8_fewest M100) (fun v102 M103 => (if v99 = v102 then lpL_law L xs  k n (x3 + 6) M103 else some 0))) else (if ((xs x3.toNatClampNeg) &&& 31) = 8 then ow_bd (fX7_soonest M) (fun v107 M108 => ow_bd (fX8_soonest M108) (fun v110 M111 => (if v107 = v110 then lpL_law L xs  k n (x3 + 6) M111 else some 0))) else (if ((xs x3.toNatClampNeg) &&& 31) = 9 then if ow_inn (x3 + 1) L then Option.bind (fX7_cut (xs (x3 + 1).toNatClampNeg) M) (fun v116 => if ow_inn (x3 + 1) L then Option.bind (fX8_cut (xs (x3 + 1).toNatClampNeg) M) (fun v119 => (if v116 = v119 then lpL_law L xs  k n (x3 + 6) M else some 0)) else none) else none else (if ((xs x3.toNatClampNeg) &&& 31) = 10 then if ow_inn (x3 + 1) L then if ow_inn (x3 + 2) L then if ow_inn (x3 + 3) L then if ow_inn (x3 + 4) L then if ow_inn (x3 + 5) L then ow_bd (fX7_order (xs (x3 + 1).toNatClampNeg) (xs (x3 + 2).toNatClampNeg) (xs (x3 + 3).toNatClampNeg) (xs (x3 + 4).toNatClampNeg) (xs (x3 + 5).toNatClampNeg) M) (fun v128 M129 => if ow_inn (x3 + 1) L then if ow_inn (x3 + 2) L then if ow_inn (x3 + 3) L then if ow_inn (x3 + 4) L then if ow_inn (x3 + 5) L then ow_bd (fX8_order (xs (x3 + 1).toNatClampNeg) (xs (x3 + 2).toNatClampNeg) (xs (x3 + 3).toNatClampNeg) (xs (x3 + 4).toNatClampNeg) (xs (x3 + 5).toNatClampNeg) M129) (fun v136 M137 => (if v128 = v136 then lpL_law L xs  k n (x3 + 6) M137 else some 0)) else none else none else none else none else none) else none else none else none else none else none else (if ((xs x3.toNatClampNeg) &&& 31) = 11 then ow_bd (fX7_coming M) (fun v141 M142 => ow_bd (fX8_coming M142) (fun v144 M145 => (if v141 = v144 then lpL_law L xs  k n (x3 + 6) M145 else some 0))) else (if ((xs x3.toNatClampNeg) &&& 31) = 12 then if ow_inn (x3 + 1) L then ow_bd (fX7_letters (xs (x3 + 1).toNatClampNeg) M) (fun v150 M151 => if ow_inn (x3 + 1) L then ow_bd (fX8_letters (xs (x3 + 1).toNatClampNeg) M151) (fun v154 M155 => (if v150 = v154 then lpL_law L xs  k n (x3 + 6) M155 else some 0)) else none) else none else (if ((xs x3.toNatClampNeg) &&& 31) = 13 then if ow_inn (x3 + 1) L then if ow_inn (x3 + 2) L then if ow_inn (x3 + 3) L then Option.bind (fX7_heard (xs (x3 + 1).toNatClampNeg) (xs (x3 + 2).toNatClampNeg) (xs (x3 + 3).toNatClampNeg) M) (fun v162 => if ow_inn (x3 + 1) L then if ow_inn (x3 + 2) L then if ow_inn (x3 + 3) L then Option.bind (fX8_heard (xs (x3 + 1).toNatClampNeg) (xs (x3 + 2).toNatClampNeg) (xs (x3 + 3).toNatClampNeg) M) (fun v167 => (if (lg_cmp v162 v167) = 0 then lpL_law L xs  k n (x3 + 6) M else some 0)) else none else none else none) else none else none else none else (if ((xs x3.toNatClampNeg) &&& 31) = 14 then if ow_inn (x3 + 1) L then Option.bind (fX7_stand (xs (x3 + 1).toNatClampNeg) M) (fun v172 => if ow_inn (x3 + 1) L then Option.bind (fX8_stand (xs (x3 + 1).toNatClampNeg) M) (fun v175 => (if v172 = v175 then lpL_law L xs  k n (x3 + 6) M else some 0)) else none) else none else (if ((xs x3.toNatClampNeg) &&& 31) = 15 then if ow_inn (x3 + 1) L then if ow_inn (x3 + 2) L then if ow_inn (x3 + 3) L then if ow_inn (x3 + 4) L then ow_bd (fX7_reading (xs (x3 + 1).toNatClampNeg) (xs (x3 + 2).toNatClampNeg) (xs (x3 + 3).toNatClampNeg) (xs (x3 + 4).toNatClampNeg) M) (fun v183 M184 => if ow_inn (x3 + 1) L then if ow_inn (x3 + 2) L then if ow_inn (x3 + 3) L then if ow_inn (x3 + 4) L then ow_bd (fX8_reading (xs (x3 + 1).toNatClampNeg) (xs (x3 + 2).toNatClampNeg) (xs (x3 + 3).toNatClampNeg) (xs (x3 + 4).toNatClampNeg) M184) (fun v190 M191 => (if v183 = v190 then lpL_law L xs  k n (x3 + 6) M191 else some 0)) else none else none else none else none) else none else none else none else none else (if ((xs x3.toNatClampNeg) &&& 31) = 16 then if ow_inn (x3 + 1) L then ow_bd (fX7_back (xs (x3 + 1).toNatClampNeg) M) (fun v196 M197 => if ow_inn (x3 + 1) L then ow_bd (fX8_back (xs (x3 + 1).toNatClampNeg) M197) (fun v200 M201 => (if v196 = v200 then lpL_law L xs  k n (x3 + 6) M201 else some 0)) else none) else none else (if ((xs x3.toNatClampNeg) &&& 31) = 17 then if ow_inn (x3 + 1) L then ow_bd (fX7_kinds (xs (x3 + 1).toNatClampNeg) M) (fun v206 M207 => if ow_inn (x3 + 1) L then ow_bd (fX8_kinds (xs (x3 + 1).toNatClampNeg) M207) (fun v210 M211 => (if v206 = v210 then lpL_law L xs  k n (x3 + 6) M211 else some 0)) else none) else none else (if ((xs x3.toNatClampNeg) &&& 31) = 18 then ow_bd (fX7_walls M) (fun v215 M216 => ow_bd (fX8_walls M216) (fun v218 M219 => (if v215 = v218 then lpL_law L xs  k n (x3 + 6) M219 else some 0))) else (if ((xs x3.toNatClampNeg) &&& 31) = 19 then if ow_inn (x3 + 1) L then if ow_inn (x3 + 2) L then if ow_inn (x3 + 3) L then ow_bd (fX7_sheet (xs (x3 + 1).toNatClampNeg) (xs (x3 + 2).toNatClampNeg) (xs (x3 + 3).toNatClampNeg) M) (fun v226 M227 => if ow_inn (x3 + 1) L then if ow_inn (x3 + 2) L then if ow_inn (x3 + 3) L then ow_bd (fX8_sheet (xs (x3 + 1).toNatClampNeg) (xs (x3 + 2).toNatClampNeg) (xs (x3 + 3).toNatClampNeg) M227) (fun v232 M233 => (if v226 = v232 then lpL_law L xs  k n (x3 + 6) M233 else some 0)) else none else none else none) else none else none else none else (if ((xs x3.toNatClampNeg) &&& 31) = 20 then if ow_inn (x3 + 1) L then ow_bd (fX7_lose (xs (x3 + 1).toNatClampNeg) M) (fun v238 M239 => if ow_inn (x3 + 1) L then ow_bd (fX8_lose (xs (x3 + 1).toNatClampNeg) M239) (fun v242 M243 => (if v238 = v242 then lpL_law L xs  k n (x3 + 6) M243 else some 0)) else none) else none else (if ((xs x3.toNatClampNeg) &&& 31) = 21 then if ow_inn (x3 + 1) L then if ow_inn (x3 + 2) L then if ow_inn (x3 + 3) L then ow_bd (fX7_put (xs (x3 + 1).toNatClampNeg) (xs (x3 + 2).toNatClampNeg) (xs (x3 + 3).toNatClampNeg) M) (fun v250 M251 => if ow_inn (x3 + 1) L then if ow_inn (x3 + 2) L then if ow_inn (x3 + 3) L then ow_bd (fX8_put (xs (x3 + 1).toNatClampNeg) (xs (x3 + 2).toNatClampNeg) (xs (x3 + 3).toNatClampNeg) M251) (fun v256 M257 => (if v250 = v256 then lpL_law L xs  k n (x3 + 6) M257 else some 0)) else none else none else none) else none else none else none else (if ((xs x3.toNatClampNeg) &&& 31) = 22 then if ow_inn (x3 + 1) L then if ow_inn (x3 + 2) L then if ow_inn (x3 + 3) L then ow_bd (fX7_cell (xs (x3 + 1).toNatClampNeg) (xs (x3 + 2).toNatClampNeg) (xs (x3 + 3).toNatClampNeg) M) (fun v264 M265 => if ow_inn (x3 + 1) L then if ow_inn (x3 + 2) L then if ow_inn (x3 + 3) L then ow_bd (fX8_cell (xs (x3 + 1).toNatClampNeg) (xs (x3 + 2).toNatClampNeg) (xs (x3 + 3).toNatClampNeg) M265) (fun v270 M271 => (if (lg_cmp v264 v270) = 0 then lpL_law L xs  k n (x3 + 6) M271 else some 0)) else none else none else none) else none else none else none else (if ((xs x3.toNatClampNeg) &&& 31) = 23 then if ow_inn (x3 + 1) L then if ow_inn (x3 + 2) L then if ow_inn (x3 + 3) L then if ow_inn (x3 + 4) L then if ow_inn (x3 + 5) L then ow_bd (fX7_copy (xs (x3 + 1).toNatClampNeg) (xs (x3 + 2).toNatClampNeg) (xs (x3 + 3).toNatClampNeg) (xs (x3 + 4).toNatClampNeg) (xs (x3 + 5).toNatClampNeg) M) (fun v280 M281 => if ow_inn (x3 + 1) L then if ow_inn (x3 + 2) L then if ow_inn (x3 + 3) L then if ow_inn (x3 + 4) L then if ow_inn (x3 + 5) L then ow_bd (fX8_copy (xs (x3 + 1).toNatClampNeg) (xs (x3 + 2).toNatClampNeg) (xs (x3 + 3).toNatClampNeg) (xs (x3 + 4).toNatClampNeg) (xs (x3 + 5).toNatClampNeg) M281) (fun v288 M289 => (if v280 = v288 then lpL_law L xs  k n (x3 + 6) M289 else some 0)) else none else none else none else none else none) else none else none else none else none else none else (if ((xs x3.toNatClampNeg) &&& 31) = 24 then if ow_inn (x3 + 1) L then ow_bd (fX7_tell (xs (x3 + 1).toNatClampNeg) M) (fun v294 M295 => if ow_inn (x3 + 1) L then ow_bd (fX8_tell (xs (x3 + 1).toNatClampNeg) M295) (fun v298 M299 => (if v294 = v298 then lpL_law L xs  k n (x3 + 6) M299 else some 0)) else none) else none else (if ((xs x3.toNatClampNeg) &&& 31) = 25 then if ow_inn (x3 + 1) L then ow_bd (fX7_lean (xs (x3 + 1).toNatClampNeg) M) (fun v304 M305 => if ow_inn (x3 + 1) L then ow_bd (fX8_lean (xs (x3 + 1).toNatClampNeg) M305) (fun v308 M309 => (if v304 = v308 then lpL_law L xs  k n (x3 + 6) M309 else some 0)) else none) else none else (if ((xs x3.toNatClampNeg) &&& 31) = 26 then if ow_inn (x3 + 1) L then if ow_inn (x3 + 2) L then ow_bd (fX7_as (xs (x3 + 1).toNatClampNeg) (xs (x3 + 2).toNatClampNeg) M) (fun v315 M316 => if ow_inn (x3 + 1) L then if ow_inn (x3 + 2) L then ow_bd (fX8_as (xs (x3 + 1).toNatClampNeg) (xs (x3 + 2).toNatClampNeg) M316) (fun v320 M321 => (if v315 = v320 then lpL_law L xs  k n (x3 + 6) M321 else some 0)) else none else none) else none else none else (if ((xs x3.toNatClampNeg) &&& 31) = 27 then Option.bind (fX7_trace M) (fun v325 => Option.bind (fX8_trace M) (fun v327 => (if v325 = v327 then lpL_law L xs  k n (x3 + 6) M else some 0))) else (if ((xs x3.toNatClampNeg) &&& 31) = 28 then Option.bind (fX7_fault M) (fun v331 => Option.bind (fX8_fault M) (fun v333 => (if v331 = v333 then lpL_law L xs  k n (x3 + 6) M else some 0))) else (if ((xs x3.toNatClampNeg) &&& 31) = 29 then if ow_inn (x3 + 1) L then Option.bind (fX7_many (xs (x3 + 1).toNatClampNeg) M) (fun v338 => if ow_inn (x3 + 1) L then Option.bind (fX8_many (xs (x3 + 1).toNatClampNeg) M) (fun v341 => (if v338 = v341 then lpL_law L xs  k n (x3 + 6) M else some 0)) else none) else none else (lpL_law L xs  k n (x3 + 6) M))))))))))))))))))))))))))))))) else none)
set_option maxRecDepth 100000 in
set_option maxHeartbeats 4000000 in
theorem tlpL_law (l : Launch) {b L : Nat} {xs : Nat → Int32}  {k : Int32 → ow_M → Option Int32}  (hk : ∀ (x3 : Int32) (M : ow_M), k x3 M = some 1 → ow_G (ow_ΓL l b L xs) RL cL_law 4 1142 [some (.ref 99), some (.ref 0), some (.ref 34), some (.int x3)] [] M) : ∀ (n : Nat) (x3 : Int32) (M : ow_M), lpL_law L xs  k n x3 M = some 1 → ow_G (ow_ΓL l b L xs) RL cL_law 4 18 [some (.ref 99), some (.ref 0), some (.ref 34), some (.int x3)] [] M := by
  intro n
  induction n with
  | zero => intro _ _ h; cases h
  | succ n ih =>
    intro x3 M h
    unfold lpL_law at h
    refine gw_iload3 dL_law_18 ?_
    refine gw_aload0 dL_law_19 ?_
    refine gw_slen dL_law_20 ?_
    refine gw_bipush 6 dL_law_21 (by decide) ?_
    refine gw_isub dL_law_23 ?_
    refine gw_icmp_gt (tgt := 1142) dL_law_24 rfl (fun h1 => ?_) (fun h1 => ?_)
    · replace h := (if_pos h1).symm.trans h
      exact hk _ _ h
    · replace h := (if_neg h1).symm.trans h
      refine gw_aload0 dL_law_27 ?_
      refine gw_iload3 dL_law_28 ?_
      by_cases h2 : ow_inn x3 L
      rotate_left
      · replace h := (if_neg h2).symm.trans h
        cases h
      replace h := (if_pos h2).symm.trans h
      refine gw_sld dL_law_29 h2 ?_
      refine gw_bipush 31 dL_law_30 (by decide) ?_
      refine gw_iand dL_law_32 ?_
      by_cases h3 : ((xs x3.toNatClampNeg) &&& 31) = 0
      · replace h := (if_pos h3).symm.trans h
        refine gw_tableIn (tgt := 168) dL_law_33 (by rw [h3]; decide) (by rw [h3]; decide) (by rw [h3]; rfl) rfl ?_
        refine gw_aload1 dL_law_168 ?_
        refine gw_aload0 dL_law_169 ?_
        refine gw_iload3 dL_law_170 ?_
        refine gw_ic1 dL_law_171 ?_
        refine gw_iadd dL_law_172 ?_
        by_cases h4 : ow_inn (x3 + 1) L
        rotate_left
        · replace h := (if_neg h4).symm.trans h
          cases h
        replace h := (if_pos h4).symm.trans h
        refine gw_sld dL_law_173 h4 ?_
        refine gw_aload0 dL_law_174 ?_
        refine gw_iload3 dL_law_175 ?_
        refine gw_ic2 dL_law_176 ?_
        refine gw_iadd dL_law_177 ?_
        by_cases h5 : ow_inn (x3 + 2) L
        rotate_left
        · replace h := (if_neg h5).symm.trans h
          cases h
        replace h := (if_pos h5).symm.trans h
        refine gw_sld dL_law_178 h5 ?_
        refine gw_aload0 dL_law_179 ?_
        refine gw_iload3 dL_law_180 ?_
        refine gw_ic3 dL_law_181 ?_
        refine gw_iadd dL_law_182 ?_
        by_cases h6 : ow_inn (x3 + 3) L
        rotate_left
        · replace h := (if_neg h6).symm.trans h
          cases h
        replace h := (if_pos h6).symm.trans h
        refine gw_sld dL_law_183 h6 ?_
        refine gw_aload0 dL_law_184 ?_
        refine gw_iload3 dL_law_185 ?_
        refine gw_ic4 dL_law_186 ?_
        refine gw_iadd dL_law_187 ?_
        by_cases h7 : ow_inn (x3 + 4) L
        rotate_left
        · replace h := (if_neg h7).symm.trans h
          cases h
        replace h := (if_pos h7).symm.trans h
        refine gw_sld dL_law_188 h7 ?_
        obtain ⟨v9, M10, hc8, h⟩ := ow_bd_some h
        refine gw_cVI4 dL_law_189 lkL_13 mkX7_wire (ow_rm_law rfl rfl) rfl rfl (ctX7_wire l hc8) rfl ?_
        refine gw_aload2 dL_law_192 ?_
        refine gw_aload0 dL_law_193 ?_
        refine gw_iload3 dL_law_194 ?_
        refine gw_ic1 dL_law_195 ?_
        refine gw_iadd dL_law_196 ?_
        by_cases h11 : ow_inn (x3 + 1) L
        rotate_left
        · replace h := (if_neg h11).symm.trans h
          cases h
        replace h := (if_pos h11).symm.trans h
        refine gw_sld dL_law_197 h11 ?_
        refine gw_aload0 dL_law_198 ?_
        refine gw_iload3 dL_law_199 ?_
        refine gw_ic2 dL_law_200 ?_
        refine gw_iadd dL_law_201 ?_
        by_cases h12 : ow_inn (x3 + 2) L
        rotate_left
        · replace h := (if_neg h12).symm.trans h
          cases h
        replace h := (if_pos h12).symm.trans h
        refine gw_sld dL_law_202 h12 ?_
        refine gw_aload0 dL_law_203 ?_
        refine gw_iload3 dL_law_204 ?_
        refine gw_ic3 dL_law_205 ?_
        refine gw_iadd dL_law_206 ?_
        by_cases h13 : ow_inn (x3 + 3) L
        rotate_left
        · replace h := (if_neg h13).symm.trans h
          cases h
        replace h := (if_pos h13).symm.trans h
        refine gw_sld dL_law_207 h13 ?_
        refine gw_aload0 dL_law_208 ?_
        refine gw_iload3 dL_law_209 ?_
        refine gw_ic4 dL_law_210 ?_
        refine gw_iadd dL_law_211 ?_
        by_cases h14 : ow_inn (x3 + 4) L
        rotate_left
        · replace h := (if_neg h14).symm.trans h
          cases h
        replace h := (if_pos h14).symm.trans h
        refine gw_sld dL_law_212 h14 ?_
        obtain ⟨v16, M17, hc15, h⟩ := ow_bd_some h
        refine gw_cVI4 dL_law_213 lkL_17 mkX8_wire (ow_rm_law rfl rfl) rfl rfl (ctX8_wire l hc15) rfl ?_
        refine gw_icmp_eq (tgt := 1136) dL_law_216 rfl (fun h18 => ?_) (fun h18 => ?_)
        · replace h := (if_pos h18).symm.trans h
          refine gw_iinc3 6 dL_law_1136 (by decide) rfl (by decide) ?_
          refine gw_goto (tgt := 18) rfl dL_law_1139 ?_
          exact ih _ _ h
        · replace h := (if_neg h18).symm.trans h
          refine gw_ic0 dL_law_219 ?_
          exact absurd (Option.some.inj h) (by decide)
      replace h := (if_neg h3).symm.trans h
      by_cases h19 : ((xs x3.toNatClampNeg) &&& 31) = 1
      · replace h := (if_pos h19).symm.trans h
        refine gw_tableIn (tgt := 221) dL_law_33 (by rw [h19]; decide) (by rw [h19]; decide) (by rw [h19]; rfl) rfl ?_
        refine gw_aload1 dL_law_221 ?_
        refine gw_aload0 dL_law_222 ?_
        refine gw_iload3 dL_law_223 ?_
        refine gw_ic1 dL_law_224 ?_
        refine gw_iadd dL_law_225 ?_
        by_cases h20 : ow_inn (x3 + 1) L
        rotate_left
        · replace h := (if_neg h20).symm.trans h
          cases h
        replace h := (if_pos h20).symm.trans h
        refine gw_sld dL_law_226 h20 ?_
        refine gw_aload0 dL_law_227 ?_
        refine gw_iload3 dL_law_228 ?_
        refine gw_ic2 dL_law_229 ?_
        refine gw_iadd dL_law_230 ?_
        by_cases h21 : ow_inn (x3 + 2) L
        rotate_left
        · replace h := (if_neg h21).symm.trans h
          cases h
        replace h := (if_pos h21).symm.trans h
        refine gw_sld dL_law_231 h21 ?_
        obtain ⟨v23, hc22, h⟩ := ow_b_some h
        refine gw_cVI2 dL_law_232 lkL_18 mkX7_ofPerson (ow_rm_law rfl rfl) rfl rfl (ctX7_ofPerson l hc22) rfl ?_
        refine gw_aload2 dL_law_235 ?_
        refine gw_aload0 dL_law_236 ?_
        refine gw_iload3 dL_law_237 ?_
        refine gw_ic1 dL_law_238 ?_
        refine gw_iadd dL_law_239 ?_
        by_cases h24 : ow_inn (x3 + 1) L
        rotate_left
        · replace h := (if_neg h24).symm.trans h
          cases h
        replace h := (if_pos h24).symm.trans h
        refine gw_sld dL_law_240 h24 ?_
        refine gw_aload0 dL_law_241 ?_
        refine gw_iload3 dL_law_242 ?_
        refine gw_ic2 dL_law_243 ?_
        refine gw_iadd dL_law_244 ?_
        by_cases h25 : ow_inn (x3 + 2) L
        rotate_left
        · replace h := (if_neg h25).symm.trans h
          cases h
        replace h := (if_pos h25).symm.trans h
        refine gw_sld dL_law_245 h25 ?_
        obtain ⟨v27, hc26, h⟩ := ow_b_some h
        refine gw_cVI2 dL_law_246 lkL_22 mkX8_ofPerson (ow_rm_law rfl rfl) rfl rfl (ctX8_ofPerson l hc26) rfl ?_
        refine gw_icmp_eq (tgt := 1136) dL_law_249 rfl (fun h28 => ?_) (fun h28 => ?_)
        · replace h := (if_pos h28).symm.trans h
          refine gw_iinc3 6 dL_law_1136 (by decide) rfl (by decide) ?_
          refine gw_goto (tgt := 18) rfl dL_law_1139 ?_
          exact ih _ _ h
        · replace h := (if_neg h28).symm.trans h
          refine gw_ic0 dL_law_252 ?_
          exact absurd (Option.some.inj h) (by decide)
      replace h := (if_neg h19).symm.trans h
      by_cases h29 : ((xs x3.toNatClampNeg) &&& 31) = 2
      · replace h := (if_pos h29).symm.trans h
        refine gw_tableIn (tgt := 254) dL_law_33 (by rw [h29]; decide) (by rw [h29]; decide) (by rw [h29]; rfl) rfl ?_
        refine gw_aload1 dL_law_254 ?_
        refine gw_aload0 dL_law_255 ?_
        refine gw_iload3 dL_law_256 ?_
        refine gw_ic1 dL_law_257 ?_
        refine gw_iadd dL_law_258 ?_
        by_cases h30 : ow_inn (x3 + 1) L
        rotate_left
        · replace h := (if_neg h30).symm.trans h
          cases h
        replace h := (if_pos h30).symm.trans h
        refine gw_sld dL_law_259 h30 ?_
        refine gw_aload0 dL_law_260 ?_
        refine gw_iload3 dL_law_261 ?_
        refine gw_ic2 dL_law_262 ?_
        refine gw_iadd dL_law_263 ?_
        by_cases h31 : ow_inn (x3 + 2) L
        rotate_left
        · replace h := (if_neg h31).symm.trans h
          cases h
        replace h := (if_pos h31).symm.trans h
        refine gw_sld dL_law_264 h31 ?_
        refine gw_if_eq (tgt := 272) dL_law_265 rfl (fun h32 => ?_) (fun h32 => ?_)
        · replace h := (if_pos h32).symm.trans h
          refine gw_ic0 dL_law_272 ?_
          exact tjL_law_273 l ih hk h
        · replace h := (if_neg h32).symm.trans h
          refine gw_ic1 dL_law_268 ?_
          refine gw_goto (tgt := 273) rfl dL_law_269 ?_
          exact tjL_law_273 l ih hk h
      replace h := (if_neg h29).symm.trans h
      by_cases h43 : ((xs x3.toNatClampNeg) &&& 31) = 3
      · replace h := (if_pos h43).symm.trans h
        refine gw_tableIn (tgt := 303) dL_law_33 (by rw [h43]; decide) (by rw [h43]; decide) (by rw [h43]; rfl) rfl ?_
        refine gw_aload1 dL_law_303 ?_
        refine gw_aload0 dL_law_304 ?_
        refine gw_iload3 dL_law_305 ?_
        refine gw_ic1 dL_law_306 ?_
        refine gw_iadd dL_law_307 ?_
        by_cases h44 : ow_inn (x3 + 1) L
        rotate_left
        · replace h := (if_neg h44).symm.trans h
          cases h
        replace h := (if_pos h44).symm.trans h
        refine gw_sld dL_law_308 h44 ?_
        obtain ⟨v46, M47, hc45, h⟩ := ow_bd_some h
        refine gw_cVI1 dL_law_309 lkL_28 mkX7_hand (ow_rm_law rfl rfl) rfl rfl (ctX7_hand l hc45) rfl ?_
        refine gw_aload2 dL_law_312 ?_
        refine gw_aload0 dL_law_313 ?_
        refine gw_iload3 dL_law_314 ?_
        refine gw_ic1 dL_law_315 ?_
        refine gw_iadd dL_law_316 ?_
        by_cases h48 : ow_inn (x3 + 1) L
        rotate_left
        · replace h := (if_neg h48).symm.trans h
          cases h
        replace h := (if_pos h48).symm.trans h
        refine gw_sld dL_law_317 h48 ?_
        obtain ⟨v50, M51, hc49, h⟩ := ow_bd_some h
        refine gw_cVI1 dL_law_318 lkL_32 mkX8_hand (ow_rm_law rfl rfl) rfl rfl (ctX8_hand l hc49) rfl ?_
        refine gw_icmp_eq (tgt := 1136) dL_law_321 rfl (fun h52 => ?_) (fun h52 => ?_)
        · replace h := (if_pos h52).symm.trans h
          refine gw_iinc3 6 dL_law_1136 (by decide) rfl (by decide) ?_
          refine gw_goto (tgt := 18) rfl dL_law_1139 ?_
          exact ih _ _ h
        · replace h := (if_neg h52).symm.trans h
          refine gw_ic0 dL_law_324 ?_
          exact absurd (Option.some.inj h) (by decide)
      replace h := (if_neg h43).symm.trans h
      by_cases h53 : ((xs x3.toNatClampNeg) &&& 31) = 4
      · replace h := (if_pos h53).symm.trans h
        refine gw_tableIn (tgt := 326) dL_law_33 (by rw [h53]; decide) (by rw [h53]; decide) (by rw [h53]; rfl) rfl ?_
        refine gw_aload1 dL_law_326 ?_
        refine gw_aload0 dL_law_327 ?_
        refine gw_iload3 dL_law_328 ?_
        refine gw_ic1 dL_law_329 ?_
        refine gw_iadd dL_law_330 ?_
        by_cases h54 : ow_inn (x3 + 1) L
        rotate_left
        · replace h := (if_neg h54).symm.trans h
          cases h
        replace h := (if_pos h54).symm.trans h
        refine gw_sld dL_law_331 h54 ?_
        refine gw_aload0 dL_law_332 ?_
        refine gw_iload3 dL_law_333 ?_
        refine gw_ic2 dL_law_334 ?_
        refine gw_iadd dL_law_335 ?_
        by_cases h55 : ow_inn (x3 + 2) L
        rotate_left
        · replace h := (if_neg h55).symm.trans h
          cases h
        replace h := (if_pos h55).symm.trans h
        refine gw_sld dL_law_336 h55 ?_
        obtain ⟨v57, M58, hc56, h⟩ := ow_bd_some h
        refine gw_cVI2 dL_law_337 lkL_33 mkX7_wish (ow_rm_law rfl rfl) rfl rfl (ctX7_wish l hc56) rfl ?_
        refine gw_aload2 dL_law_340 ?_
        refine gw_aload0 dL_law_341 ?_
        refine gw_iload3 dL_law_342 ?_
        refine gw_ic1 dL_law_343 ?_
        refine gw_iadd dL_law_344 ?_
        by_cases h59 : ow_inn (x3 + 1) L
        rotate_left
        · replace h := (if_neg h59).symm.trans h
          cases h
        replace h := (if_pos h59).symm.trans h
        refine gw_sld dL_law_345 h59 ?_
        refine gw_aload0 dL_law_346 ?_
        refine gw_iload3 dL_law_347 ?_
        refine gw_ic2 dL_law_348 ?_
        refine gw_iadd dL_law_349 ?_
        by_cases h60 : ow_inn (x3 + 2) L
        rotate_left
        · replace h := (if_neg h60).symm.trans h
          cases h
        replace h := (if_pos h60).symm.trans h
        refine gw_sld dL_law_350 h60 ?_
        obtain ⟨v62, M63, hc61, h⟩ := ow_bd_some h
        refine gw_cVI2 dL_law_351 lkL_36 mkX8_wish (ow_rm_law rfl rfl) rfl rfl (ctX8_wish l hc61) rfl ?_
        refine gw_icmp_eq (tgt := 1136) dL_law_354 rfl (fun h64 => ?_) (fun h64 => ?_)
        · replace h := (if_pos h64).symm.trans h
          refine gw_iinc3 6 dL_law_1136 (by decide) rfl (by decide) ?_
          refine gw_goto (tgt := 18) rfl dL_law_1139 ?_
          exact ih _ _ h
        · replace h := (if_neg h64).symm.trans h
          refine gw_ic0 dL_law_357 ?_
          exact absurd (Option.some.inj h) (by decide)
      replace h := (if_neg h53).symm.trans h
      by_cases h65 : ((xs x3.toNatClampNeg) &&& 31) = 5
      · replace h := (if_pos h65).symm.trans h
        refine gw_tableIn (tgt := 359) dL_law_33 (by rw [h65]; decide) (by rw [h65]; decide) (by rw [h65]; rfl) rfl ?_
        refine gw_aload1 dL_law_359 ?_
        refine gw_aload0 dL_law_360 ?_
        refine gw_iload3 dL_law_361 ?_
        refine gw_ic1 dL_law_362 ?_
        refine gw_iadd dL_law_363 ?_
        by_cases h66 : ow_inn (x3 + 1) L
        rotate_left
        · replace h := (if_neg h66).symm.trans h
          cases h
        replace h := (if_pos h66).symm.trans h
        refine gw_sld dL_law_364 h66 ?_
        refine gw_aload0 dL_law_365 ?_
        refine gw_iload3 dL_law_366 ?_
        refine gw_ic2 dL_law_367 ?_
        refine gw_iadd dL_law_368 ?_
        by_cases h67 : ow_inn (x3 + 2) L
        rotate_left
        · replace h := (if_neg h67).symm.trans h
          cases h
        replace h := (if_pos h67).symm.trans h
        refine gw_sld dL_law_369 h67 ?_
        refine gw_aload0 dL_law_370 ?_
        refine gw_iload3 dL_law_371 ?_
        refine gw_ic3 dL_law_372 ?_
        refine gw_iadd dL_law_373 ?_
        by_cases h68 : ow_inn (x3 + 3) L
        rotate_left
        · replace h := (if_neg h68).symm.trans h
          cases h
        replace h := (if_pos h68).symm.trans h
        refine gw_sld dL_law_374 h68 ?_
        refine gw_aload0 dL_law_375 ?_
        refine gw_iload3 dL_law_376 ?_
        refine gw_ic4 dL_law_377 ?_
        refine gw_iadd dL_law_378 ?_
        by_cases h69 : ow_inn (x3 + 4) L
        rotate_left
        · replace h := (if_neg h69).symm.trans h
          cases h
        replace h := (if_pos h69).symm.trans h
        refine gw_sld dL_law_379 h69 ?_
        obtain ⟨v71, M72, hc70, h⟩ := ow_bd_some h
        refine gw_cVI4 dL_law_380 lkL_37 mkX7_news (ow_rm_law rfl rfl) rfl rfl (ctX7_news l hc70) rfl ?_
        refine gw_aload2 dL_law_383 ?_
        refine gw_aload0 dL_law_384 ?_
        refine gw_iload3 dL_law_385 ?_
        refine gw_ic1 dL_law_386 ?_
        refine gw_iadd dL_law_387 ?_
        by_cases h73 : ow_inn (x3 + 1) L
        rotate_left
        · replace h := (if_neg h73).symm.trans h
          cases h
        replace h := (if_pos h73).symm.trans h
        refine gw_sld dL_law_388 h73 ?_
        refine gw_aload0 dL_law_389 ?_
        refine gw_iload3 dL_law_390 ?_
        refine gw_ic2 dL_law_391 ?_
        refine gw_iadd dL_law_392 ?_
        by_cases h74 : ow_inn (x3 + 2) L
        rotate_left
        · replace h := (if_neg h74).symm.trans h
          cases h
        replace h := (if_pos h74).symm.trans h
        refine gw_sld dL_law_393 h74 ?_
        refine gw_aload0 dL_law_394 ?_
        refine gw_iload3 dL_law_395 ?_
        refine gw_ic3 dL_law_396 ?_
        refine gw_iadd dL_law_397 ?_
        by_cases h75 : ow_inn (x3 + 3) L
        rotate_left
        · replace h := (if_neg h75).symm.trans h
          cases h
        replace h := (if_pos h75).symm.trans h
        refine gw_sld dL_law_398 h75 ?_
        refine gw_aload0 dL_law_399 ?_
        refine gw_iload3 dL_law_400 ?_
        refine gw_ic4 dL_law_401 ?_
        refine gw_iadd dL_law_402 ?_
        by_cases h76 : ow_inn (x3 + 4) L
        rotate_left
        · replace h := (if_neg h76).symm.trans h
          cases h
        replace h := (if_pos h76).symm.trans h
        refine gw_sld dL_law_403 h76 ?_
        obtain ⟨v78, M79, hc77, h⟩ := ow_bd_some h
        refine gw_cVI4 dL_law_404 lkL_40 mkX8_news (ow_rm_law rfl rfl) rfl rfl (ctX8_news l hc77) rfl ?_
        refine gw_icmp_eq (tgt := 1136) dL_law_407 rfl (fun h80 => ?_) (fun h80 => ?_)
        · replace h := (if_pos h80).symm.trans h
          refine gw_iinc3 6 dL_law_1136 (by decide) rfl (by decide) ?_
          refine gw_goto (tgt := 18) rfl dL_law_1139 ?_
          exact ih _ _ h
        · replace h := (if_neg h80).symm.trans h
          refine gw_ic0 dL_law_410 ?_
          exact absurd (Option.some.inj h) (by decide)
      replace h := (if_neg h65).symm.trans h
      by_cases h81 : ((xs x3.toNatClampNeg) &&& 31) = 6
      · replace h := (if_pos h81).symm.trans h
        refine gw_tableIn (tgt := 412) dL_law_33 (by rw [h81]; decide) (by rw [h81]; decide) (by rw [h81]; rfl) rfl ?_
        refine gw_aload1 dL_law_412 ?_
        refine gw_aload0 dL_law_413 ?_
        refine gw_iload3 dL_law_414 ?_
        refine gw_ic1 dL_law_415 ?_
        refine gw_iadd dL_law_416 ?_
        by_cases h82 : ow_inn (x3 + 1) L
        rotate_left
        · replace h := (if_neg h82).symm.trans h
          cases h
        replace h := (if_pos h82).symm.trans h
        refine gw_sld dL_law_417 h82 ?_
        refine gw_aload0 dL_law_418 ?_
        refine gw_iload3 dL_law_419 ?_
        refine gw_ic2 dL_law_420 ?_
        refine gw_iadd dL_law_421 ?_
        by_cases h83 : ow_inn (x3 + 2) L
        rotate_left
        · replace h := (if_neg h83).symm.trans h
          cases h
        replace h := (if_pos h83).symm.trans h
        refine gw_sld dL_law_422 h83 ?_
        refine gw_aload0 dL_law_423 ?_
        refine gw_iload3 dL_law_424 ?_
        refine gw_ic3 dL_law_425 ?_
        refine gw_iadd dL_law_426 ?_
        by_cases h84 : ow_inn (x3 + 3) L
        rotate_left
        · replace h := (if_neg h84).symm.trans h
          cases h
        replace h := (if_pos h84).symm.trans h
        refine gw_sld dL_law_427 h84 ?_
        refine gw_aload0 dL_law_428 ?_
        refine gw_iload3 dL_law_429 ?_
        refine gw_ic4 dL_law_430 ?_
        refine gw_iadd dL_law_431 ?_
        by_cases h85 : ow_inn (x3 + 4) L
        rotate_left
        · replace h := (if_neg h85).symm.trans h
          cases h
        replace h := (if_pos h85).symm.trans h
        refine gw_sld dL_law_432 h85 ?_
        obtain ⟨v87, M88, hc86, h⟩ := ow_bd_some h
        refine gw_cVI4 dL_law_433 lkL_41 mkX7_said (ow_rm_law rfl rfl) rfl rfl (ctX7_said l hc86) rfl ?_
        refine gw_aload2 dL_law_436 ?_
        refine gw_aload0 dL_law_437 ?_
        refine gw_iload3 dL_law_438 ?_
        refine gw_ic1 dL_law_439 ?_
        refine gw_iadd dL_law_440 ?_
        by_cases h89 : ow_inn (x3 + 1) L
        rotate_left
        · replace h := (if_neg h89).symm.trans h
          cases h
        replace h := (if_pos h89).symm.trans h
        refine gw_sld dL_law_441 h89 ?_
        refine gw_aload0 dL_law_442 ?_
        refine gw_iload3 dL_law_443 ?_
        refine gw_ic2 dL_law_444 ?_
        refine gw_iadd dL_law_445 ?_
        by_cases h90 : ow_inn (x3 + 2) L
        rotate_left
        · replace h := (if_neg h90).symm.trans h
          cases h
        replace h := (if_pos h90).symm.trans h
        refine gw_sld dL_law_446 h90 ?_
        refine gw_aload0 dL_law_447 ?_
        refine gw_iload3 dL_law_448 ?_
        refine gw_ic3 dL_law_449 ?_
        refine gw_iadd dL_law_450 ?_
        by_cases h91 : ow_inn (x3 + 3) L
        rotate_left
        · replace h := (if_neg h91).symm.trans h
          cases h
        replace h := (if_pos h91).symm.trans h
        refine gw_sld dL_law_451 h91 ?_
        refine gw_aload0 dL_law_452 ?_
        refine gw_iload3 dL_law_453 ?_
        refine gw_ic4 dL_law_454 ?_
        refine gw_iadd dL_law_455 ?_
        by_cases h92 : ow_inn (x3 + 4) L
        rotate_left
        · replace h := (if_neg h92).symm.trans h
          cases h
        replace h := (if_pos h92).symm.trans h
        refine gw_sld dL_law_456 h92 ?_
        obtain ⟨v94, M95, hc93, h⟩ := ow_bd_some h
        refine gw_cVI4 dL_law_457 lkL_44 mkX8_said (ow_rm_law rfl rfl) rfl rfl (ctX8_said l hc93) rfl ?_
        refine gw_icmp_eq (tgt := 1136) dL_law_460 rfl (fun h96 => ?_) (fun h96 => ?_)
        · replace h := (if_pos h96).symm.trans h
          refine gw_iinc3 6 dL_law_1136 (by decide) rfl (by decide) ?_
          refine gw_goto (tgt := 18) rfl dL_law_1139 ?_
          exact ih _ _ h
        · replace h := (if_neg h96).symm.trans h
          refine gw_ic0 dL_law_463 ?_
          exact absurd (Option.some.inj h) (by decide)
      replace h := (if_neg h81).symm.trans h
      by_cases h97 : ((xs x3.toNatClampNeg) &&& 31) = 7
      · replace h := (if_pos h97).symm.trans h
        refine gw_tableIn (tgt := 465) dL_law_33 (by rw [h97]; decide) (by rw [h97]; decide) (by rw [h97]; rfl) rfl ?_
        refine gw_aload1 dL_law_465 ?_
        obtain ⟨v99, M100, hc98, h⟩ := ow_bd_some h
        refine gw_cVI0 dL_law_466 lkL_45 mkX7_fewest (ow_rm_law rfl rfl) rfl rfl (ctX7_fewest l hc98) rfl ?_
        refine gw_aload2 dL_law_469 ?_
        obtain ⟨v102, M103, hc101, h⟩ := ow_bd_some h
        refine gw_cVI0 dL_law_470 lkL_49 mkX8_fewest (ow_rm_law rfl rfl) rfl rfl (ctX8_fewest l hc101) rfl ?_
        refine gw_icmp_eq (tgt := 1136) dL_law_473 rfl (fun h104 => ?_) (fun h104 => ?_)
        · replace h := (if_pos h104).symm.trans h
          refine gw_iinc3 6 dL_law_1136 (by decide) rfl (by decide) ?_
          refine gw_goto (tgt := 18) rfl dL_law_1139 ?_
          exact ih _ _ h
        · replace h := (if_neg h104).symm.trans h
          refine gw_ic0 dL_law_476 ?_
          exact absurd (Option.some.inj h) (by decide)
      replace h := (if_neg h97).symm.trans h
      by_cases h105 : ((xs x3.toNatClampNeg) &&& 31) = 8
      · replace h := (if_pos h105).symm.trans h
        refine gw_tableIn (tgt := 478) dL_law_33 (by rw [h105]; decide) (by rw [h105]; decide) (by rw [h105]; rfl) rfl ?_
        refine gw_aload1 dL_law_478 ?_
        obtain ⟨v107, M108, hc106, h⟩ := ow_bd_some h
        refine gw_cVI0 dL_law_479 lkL_50 mkX7_soonest (ow_rm_law rfl rfl) rfl rfl (ctX7_soonest l hc106) rfl ?_
        refine gw_aload2 dL_law_482 ?_
        obtain ⟨v110, M111, hc109, h⟩ := ow_bd_some h
        refine gw_cVI0 dL_law_483 lkL_53 mkX8_soonest (ow_rm_law rfl rfl) rfl rfl (ctX8_soonest l hc109) rfl ?_
        refine gw_icmp_eq (tgt := 1136) dL_law_486 rfl (fun h112 => ?_) (fun h112 => ?_)
        · replace h := (if_pos h112).symm.trans h
          refine gw_iinc3 6 dL_law_1136 (by decide) rfl (by decide) ?_
          refine gw_goto (tgt := 18) rfl dL_law_1139 ?_
          exact ih _ _ h
        · replace h := (if_neg h112).symm.trans h
          refine gw_ic0 dL_law_489 ?_
          exact absurd (Option.some.inj h) (by decide)
      replace h := (if_neg h105).symm.trans h
      by_cases h113 : ((xs x3.toNatClampNeg) &&& 31) = 9
      · replace h := (if_pos h113).symm.trans h
        refine gw_tableIn (tgt := 491) dL_law_33 (by rw [h113]; decide) (by rw [h113]; decide) (by rw [h113]; rfl) rfl ?_
        refine gw_aload1 dL_law_491 ?_
        refine gw_aload0 dL_law_492 ?_
        refine gw_iload3 dL_law_493 ?_
        refine gw_ic1 dL_law_494 ?_
        refine gw_iadd dL_law_495 ?_
        by_cases h114 : ow_inn (x3 + 1) L
        rotate_left
        · replace h := (if_neg h114).symm.trans h
          cases h
        replace h := (if_pos h114).symm.trans h
        refine gw_sld dL_law_496 h114 ?_
        obtain ⟨v116, hc115, h⟩ := ow_b_some h
        refine gw_cVI1 dL_law_497 lkL_54 mkX7_cut (ow_rm_law rfl rfl) rfl rfl (ctX7_cut l hc115) rfl ?_
        refine gw_aload2 dL_law_500 ?_
        refine gw_aload0 dL_law_501 ?_
        refine gw_iload3 dL_law_502 ?_
        refine gw_ic1 dL_law_503 ?_
        refine gw_iadd dL_law_504 ?_
        by_cases h117 : ow_inn (x3 + 1) L
        rotate_left
        · replace h := (if_neg h117).symm.trans h
          cases h
        replace h := (if_pos h117).symm.trans h
        refine gw_sld dL_law_505 h117 ?_
        obtain ⟨v119, hc118, h⟩ := ow_b_some h
        refine gw_cVI1 dL_law_506 lkL_57 mkX8_cut (ow_rm_law rfl rfl) rfl rfl (ctX8_cut l hc118) rfl ?_
        refine gw_icmp_eq (tgt := 1136) dL_law_509 rfl (fun h120 => ?_) (fun h120 => ?_)
        · replace h := (if_pos h120).symm.trans h
          refine gw_iinc3 6 dL_law_1136 (by decide) rfl (by decide) ?_
          refine gw_goto (tgt := 18) rfl dL_law_1139 ?_
          exact ih _ _ h
        · replace h := (if_neg h120).symm.trans h
          refine gw_ic0 dL_law_512 ?_
          exact absurd (Option.some.inj h) (by decide)
      replace h := (if_neg h113).symm.trans h
      by_cases h121 : ((xs x3.toNatClampNeg) &&& 31) = 10
      · replace h := (if_pos h121).symm.trans h
        refine gw_tableIn (tgt := 514) dL_law_33 (by rw [h121]; decide) (by rw [h121]; decide) (by rw [h121]; rfl) rfl ?_
        refine gw_aload1 dL_law_514 ?_
        refine gw_aload0 dL_law_515 ?_
        refine gw_iload3 dL_law_516 ?_
        refine gw_ic1 dL_law_517 ?_
        refine gw_iadd dL_law_518 ?_
        by_cases h122 : ow_inn (x3 + 1) L
        rotate_left
        · replace h := (if_neg h122).symm.trans h
          cases h
        replace h := (if_pos h122).symm.trans h
        refine gw_sld dL_law_519 h122 ?_
        refine gw_aload0 dL_law_520 ?_
        refine gw_iload3 dL_law_521 ?_
        refine gw_ic2 dL_law_522 ?_
        refine gw_iadd dL_law_523 ?_
        by_cases h123 : ow_inn (x3 + 2) L
        rotate_left
        · replace h := (if_neg h123).symm.trans h
          cases h
        replace h := (if_pos h123).symm.trans h
        refine gw_sld dL_law_524 h123 ?_
        refine gw_aload0 dL_law_525 ?_
        refine gw_iload3 dL_law_526 ?_
        refine gw_ic3 dL_law_527 ?_
        refine gw_iadd dL_law_528 ?_
        by_cases h124 : ow_inn (x3 + 3) L
        rotate_left
        · replace h := (if_neg h124).symm.trans h
          cases h
        replace h := (if_pos h124).symm.trans h
        refine gw_sld dL_law_529 h124 ?_
        refine gw_aload0 dL_law_530 ?_
        refine gw_iload3 dL_law_531 ?_
        refine gw_ic4 dL_law_532 ?_
        refine gw_iadd dL_law_533 ?_
        by_cases h125 : ow_inn (x3 + 4) L
        rotate_left
        · replace h := (if_neg h125).symm.trans h
          cases h
        replace h := (if_pos h125).symm.trans h
        refine gw_sld dL_law_534 h125 ?_
        refine gw_aload0 dL_law_535 ?_
        refine gw_iload3 dL_law_536 ?_
        refine gw_ic5 dL_law_537 ?_
        refine gw_iadd dL_law_538 ?_
        by_cases h126 : ow_inn (x3 + 5) L
        rotate_left
        · replace h := (if_neg h126).symm.trans h
          cases h
        replace h := (if_pos h126).symm.trans h
        refine gw_sld dL_law_539 h126 ?_
        obtain ⟨v128, M129, hc127, h⟩ := ow_bd_some h
        refine gw_cVI5 dL_law_540 lkL_58 mkX7_order (ow_rm_law rfl rfl) rfl rfl (ctX7_order l hc127) rfl ?_
        refine gw_aload2 dL_law_543 ?_
        refine gw_aload0 dL_law_544 ?_
        refine gw_iload3 dL_law_545 ?_
        refine gw_ic1 dL_law_546 ?_
        refine gw_iadd dL_law_547 ?_
        by_cases h130 : ow_inn (x3 + 1) L
        rotate_left
        · replace h := (if_neg h130).symm.trans h
          cases h
        replace h := (if_pos h130).symm.trans h
        refine gw_sld dL_law_548 h130 ?_
        refine gw_aload0 dL_law_549 ?_
        refine gw_iload3 dL_law_550 ?_
        refine gw_ic2 dL_law_551 ?_
        refine gw_iadd dL_law_552 ?_
        by_cases h131 : ow_inn (x3 + 2) L
        rotate_left
        · replace h := (if_neg h131).symm.trans h
          cases h
        replace h := (if_pos h131).symm.trans h
        refine gw_sld dL_law_553 h131 ?_
        refine gw_aload0 dL_law_554 ?_
        refine gw_iload3 dL_law_555 ?_
        refine gw_ic3 dL_law_556 ?_
        refine gw_iadd dL_law_557 ?_
        by_cases h132 : ow_inn (x3 + 3) L
        rotate_left
        · replace h := (if_neg h132).symm.trans h
          cases h
        replace h := (if_pos h132).symm.trans h
        refine gw_sld dL_law_558 h132 ?_
        refine gw_aload0 dL_law_559 ?_
        refine gw_iload3 dL_law_560 ?_
        refine gw_ic4 dL_law_561 ?_
        refine gw_iadd dL_law_562 ?_
        by_cases h133 : ow_inn (x3 + 4) L
        rotate_left
        · replace h := (if_neg h133).symm.trans h
          cases h
        replace h := (if_pos h133).symm.trans h
        refine gw_sld dL_law_563 h133 ?_
        refine gw_aload0 dL_law_564 ?_
        refine gw_iload3 dL_law_565 ?_
        refine gw_ic5 dL_law_566 ?_
        refine gw_iadd dL_law_567 ?_
        by_cases h134 : ow_inn (x3 + 5) L
        rotate_left
        · replace h := (if_neg h134).symm.trans h
          cases h
        replace h := (if_pos h134).symm.trans h
        refine gw_sld dL_law_568 h134 ?_
        obtain ⟨v136, M137, hc135, h⟩ := ow_bd_some h
        refine gw_cVI5 dL_law_569 lkL_62 mkX8_order (ow_rm_law rfl rfl) rfl rfl (ctX8_order l hc135) rfl ?_
        refine gw_icmp_eq (tgt := 1136) dL_law_572 rfl (fun h138 => ?_) (fun h138 => ?_)
        · replace h := (if_pos h138).symm.trans h
          refine gw_iinc3 6 dL_law_1136 (by decide) rfl (by decide) ?_
          refine gw_goto (tgt := 18) rfl dL_law_1139 ?_
          exact ih _ _ h
        · replace h := (if_neg h138).symm.trans h
          refine gw_ic0 dL_law_575 ?_
          exact absurd (Option.some.inj h) (by decide)
      replace h := (if_neg h121).symm.trans h
      by_cases h139 : ((xs x3.toNatClampNeg) &&& 31) = 11
      · replace h := (if_pos h139).symm.trans h
        refine gw_tableIn (tgt := 577) dL_law_33 (by rw [h139]; decide) (by rw [h139]; decide) (by rw [h139]; rfl) rfl ?_
        refine gw_aload1 dL_law_577 ?_
        obtain ⟨v141, M142, hc140, h⟩ := ow_bd_some h
        refine gw_cVI0 dL_law_578 lkL_63 mkX7_coming (ow_rm_law rfl rfl) rfl rfl (ctX7_coming l hc140) rfl ?_
        refine gw_aload2 dL_law_581 ?_
        obtain ⟨v144, M145, hc143, h⟩ := ow_bd_some h
        refine gw_cVI0 dL_law_582 lkL_66 mkX8_coming (ow_rm_law rfl rfl) rfl rfl (ctX8_coming l hc143) rfl ?_
        refine gw_icmp_eq (tgt := 1136) dL_law_585 rfl (fun h146 => ?_) (fun h146 => ?_)
        · replace h := (if_pos h146).symm.trans h
          refine gw_iinc3 6 dL_law_1136 (by decide) rfl (by decide) ?_
          refine gw_goto (tgt := 18) rfl dL_law_1139 ?_
          exact ih _ _ h
        · replace h := (if_neg h146).symm.trans h
          refine gw_ic0 dL_law_588 ?_
          exact absurd (Option.some.inj h) (by decide)
      replace h := (if_neg h139).symm.trans h
      by_cases h147 : ((xs x3.toNatClampNeg) &&& 31) = 12
      · replace h := (if_pos h147).symm.trans h
        refine gw_tableIn (tgt := 590) dL_law_33 (by rw [h147]; decide) (by rw [h147]; decide) (by rw [h147]; rfl) rfl ?_
        refine gw_aload1 dL_law_590 ?_
        refine gw_aload0 dL_law_591 ?_
        refine gw_iload3 dL_law_592 ?_
        refine gw_ic1 dL_law_593 ?_
        refine gw_iadd dL_law_594 ?_
        by_cases h148 : ow_inn (x3 + 1) L
        rotate_left
        · replace h := (if_neg h148).symm.trans h
          cases h
        replace h := (if_pos h148).symm.trans h
        refine gw_sld dL_law_595 h148 ?_
        obtain ⟨v150, M151, hc149, h⟩ := ow_bd_some h
        refine gw_cVI1 dL_law_596 lkL_67 mkX7_letters (ow_rm_law rfl rfl) rfl rfl (ctX7_letters l hc149) rfl ?_
        refine gw_aload2 dL_law_599 ?_
        refine gw_aload0 dL_law_600 ?_
        refine gw_iload3 dL_law_601 ?_
        refine gw_ic1 dL_law_602 ?_
        refine gw_iadd dL_law_603 ?_
        by_cases h152 : ow_inn (x3 + 1) L
        rotate_left
        · replace h := (if_neg h152).symm.trans h
          cases h
        replace h := (if_pos h152).symm.trans h
        refine gw_sld dL_law_604 h152 ?_
        obtain ⟨v154, M155, hc153, h⟩ := ow_bd_some h
        refine gw_cVI1 dL_law_605 lkL_70 mkX8_letters (ow_rm_law rfl rfl) rfl rfl (ctX8_letters l hc153) rfl ?_
        refine gw_icmp_eq (tgt := 1136) dL_law_608 rfl (fun h156 => ?_) (fun h156 => ?_)
        · replace h := (if_pos h156).symm.trans h
          refine gw_iinc3 6 dL_law_1136 (by decide) rfl (by decide) ?_
          refine gw_goto (tgt := 18) rfl dL_law_1139 ?_
          exact ih _ _ h
        · replace h := (if_neg h156).symm.trans h
          refine gw_ic0 dL_law_611 ?_
          exact absurd (Option.some.inj h) (by decide)
      replace h := (if_neg h147).symm.trans h
      by_cases h157 : ((xs x3.toNatClampNeg) &&& 31) = 13
      · replace h := (if_pos h157).symm.trans h
        refine gw_tableIn (tgt := 613) dL_law_33 (by rw [h157]; decide) (by rw [h157]; decide) (by rw [h157]; rfl) rfl ?_
        refine gw_aload1 dL_law_613 ?_
        refine gw_aload0 dL_law_614 ?_
        refine gw_iload3 dL_law_615 ?_
        refine gw_ic1 dL_law_616 ?_
        refine gw_iadd dL_law_617 ?_
        by_cases h158 : ow_inn (x3 + 1) L
        rotate_left
        · replace h := (if_neg h158).symm.trans h
          cases h
        replace h := (if_pos h158).symm.trans h
        refine gw_sld dL_law_618 h158 ?_
        refine gw_aload0 dL_law_619 ?_
        refine gw_iload3 dL_law_620 ?_
        refine gw_ic2 dL_law_621 ?_
        refine gw_iadd dL_law_622 ?_
        by_cases h159 : ow_inn (x3 + 2) L
        rotate_left
        · replace h := (if_neg h159).symm.trans h
          cases h
        replace h := (if_pos h159).symm.trans h
        refine gw_sld dL_law_623 h159 ?_
        refine gw_aload0 dL_law_624 ?_
        refine gw_iload3 dL_law_625 ?_
        refine gw_ic3 dL_law_626 ?_
        refine gw_iadd dL_law_627 ?_
        by_cases h160 : ow_inn (x3 + 3) L
        rotate_left
        · replace h := (if_neg h160).symm.trans h
          cases h
        replace h := (if_pos h160).symm.trans h
        refine gw_sld dL_law_628 h160 ?_
        obtain ⟨v162, hc161, h⟩ := ow_b_some h
        refine gw_cVI3 dL_law_629 lkL_71 mkX7_heard (ow_rm_law rfl rfl) rfl rfl (ctX7_heard l hc161) rfl ?_
        refine gw_aload2 dL_law_632 ?_
        refine gw_aload0 dL_law_633 ?_
        refine gw_iload3 dL_law_634 ?_
        refine gw_ic1 dL_law_635 ?_
        refine gw_iadd dL_law_636 ?_
        by_cases h163 : ow_inn (x3 + 1) L
        rotate_left
        · replace h := (if_neg h163).symm.trans h
          cases h
        replace h := (if_pos h163).symm.trans h
        refine gw_sld dL_law_637 h163 ?_
        refine gw_aload0 dL_law_638 ?_
        refine gw_iload3 dL_law_639 ?_
        refine gw_ic2 dL_law_640 ?_
        refine gw_iadd dL_law_641 ?_
        by_cases h164 : ow_inn (x3 + 2) L
        rotate_left
        · replace h := (if_neg h164).symm.trans h
          cases h
        replace h := (if_pos h164).symm.trans h
        refine gw_sld dL_law_642 h164 ?_
        refine gw_aload0 dL_law_643 ?_
        refine gw_iload3 dL_law_644 ?_
        refine gw_ic3 dL_law_645 ?_
        refine gw_iadd dL_law_646 ?_
        by_cases h165 : ow_inn (x3 + 3) L
        rotate_left
        · replace h := (if_neg h165).symm.trans h
          cases h
        replace h := (if_pos h165).symm.trans h
        refine gw_sld dL_law_647 h165 ?_
        obtain ⟨v167, hc166, h⟩ := ow_b_some h
        refine gw_cVI3 dL_law_648 lkL_75 mkX8_heard (ow_rm_law rfl rfl) rfl rfl (ctX8_heard l hc166) rfl ?_
        refine gw_lcmp dL_law_651 ?_
        refine gw_if_eq (tgt := 1136) dL_law_652 rfl (fun h168 => ?_) (fun h168 => ?_)
        · replace h := (if_pos h168).symm.trans h
          refine gw_iinc3 6 dL_law_1136 (by decide) rfl (by decide) ?_
          refine gw_goto (tgt := 18) rfl dL_law_1139 ?_
          exact ih _ _ h
        · replace h := (if_neg h168).symm.trans h
          refine gw_ic0 dL_law_655 ?_
          exact absurd (Option.some.inj h) (by decide)
      replace h := (if_neg h157).symm.trans h
      by_cases h169 : ((xs x3.toNatClampNeg) &&& 31) = 14
      · replace h := (if_pos h169).symm.trans h
        refine gw_tableIn (tgt := 657) dL_law_33 (by rw [h169]; decide) (by rw [h169]; decide) (by rw [h169]; rfl) rfl ?_
        refine gw_aload1 dL_law_657 ?_
        refine gw_aload0 dL_law_658 ?_
        refine gw_iload3 dL_law_659 ?_
        refine gw_ic1 dL_law_660 ?_
        refine gw_iadd dL_law_661 ?_
        by_cases h170 : ow_inn (x3 + 1) L
        rotate_left
        · replace h := (if_neg h170).symm.trans h
          cases h
        replace h := (if_pos h170).symm.trans h
        refine gw_sld dL_law_662 h170 ?_
        obtain ⟨v172, hc171, h⟩ := ow_b_some h
        refine gw_cVI1 dL_law_663 lkL_76 mkX7_stand (ow_rm_law rfl rfl) rfl rfl (ctX7_stand l hc171) rfl ?_
        refine gw_aload2 dL_law_666 ?_
        refine gw_aload0 dL_law_667 ?_
        refine gw_iload3 dL_law_668 ?_
        refine gw_ic1 dL_law_669 ?_
        refine gw_iadd dL_law_670 ?_
        by_cases h173 : ow_inn (x3 + 1) L
        rotate_left
        · replace h := (if_neg h173).symm.trans h
          cases h
        replace h := (if_pos h173).symm.trans h
        refine gw_sld dL_law_671 h173 ?_
        obtain ⟨v175, hc174, h⟩ := ow_b_some h
        refine gw_cVI1 dL_law_672 lkL_79 mkX8_stand (ow_rm_law rfl rfl) rfl rfl (ctX8_stand l hc174) rfl ?_
        refine gw_icmp_eq (tgt := 1136) dL_law_675 rfl (fun h176 => ?_) (fun h176 => ?_)
        · replace h := (if_pos h176).symm.trans h
          refine gw_iinc3 6 dL_law_1136 (by decide) rfl (by decide) ?_
          refine gw_goto (tgt := 18) rfl dL_law_1139 ?_
          exact ih _ _ h
        · replace h := (if_neg h176).symm.trans h
          refine gw_ic0 dL_law_678 ?_
          exact absurd (Option.some.inj h) (by decide)
      replace h := (if_neg h169).symm.trans h
      by_cases h177 : ((xs x3.toNatClampNeg) &&& 31) = 15
      · replace h := (if_pos h177).symm.trans h
        refine gw_tableIn (tgt := 680) dL_law_33 (by rw [h177]; decide) (by rw [h177]; decide) (by rw [h177]; rfl) rfl ?_
        refine gw_aload1 dL_law_680 ?_
        refine gw_aload0 dL_law_681 ?_
        refine gw_iload3 dL_law_682 ?_
        refine gw_ic1 dL_law_683 ?_
        refine gw_iadd dL_law_684 ?_
        by_cases h178 : ow_inn (x3 + 1) L
        rotate_left
        · replace h := (if_neg h178).symm.trans h
          cases h
        replace h := (if_pos h178).symm.trans h
        refine gw_sld dL_law_685 h178 ?_
        refine gw_aload0 dL_law_686 ?_
        refine gw_iload3 dL_law_687 ?_
        refine gw_ic2 dL_law_688 ?_
        refine gw_iadd dL_law_689 ?_
        by_cases h179 : ow_inn (x3 + 2) L
        rotate_left
        · replace h := (if_neg h179).symm.trans h
          cases h
        replace h := (if_pos h179).symm.trans h
        refine gw_sld dL_law_690 h179 ?_
        refine gw_aload0 dL_law_691 ?_
        refine gw_iload3 dL_law_692 ?_
        refine gw_ic3 dL_law_693 ?_
        refine gw_iadd dL_law_694 ?_
        by_cases h180 : ow_inn (x3 + 3) L
        rotate_left
        · replace h := (if_neg h180).symm.trans h
          cases h
        replace h := (if_pos h180).symm.trans h
        refine gw_sld dL_law_695 h180 ?_
        refine gw_aload0 dL_law_696 ?_
        refine gw_iload3 dL_law_697 ?_
        refine gw_ic4 dL_law_698 ?_
        refine gw_iadd dL_law_699 ?_
        by_cases h181 : ow_inn (x3 + 4) L
        rotate_left
        · replace h := (if_neg h181).symm.trans h
          cases h
        replace h := (if_pos h181).symm.trans h
        refine gw_sld dL_law_700 h181 ?_
        obtain ⟨v183, M184, hc182, h⟩ := ow_bd_some h
        refine gw_cVI4 dL_law_701 lkL_80 mkX7_reading (ow_rm_law rfl rfl) rfl rfl (ctX7_reading l hc182) rfl ?_
        refine gw_aload2 dL_law_704 ?_
        refine gw_aload0 dL_law_705 ?_
        refine gw_iload3 dL_law_706 ?_
        refine gw_ic1 dL_law_707 ?_
        refine gw_iadd dL_law_708 ?_
        by_cases h185 : ow_inn (x3 + 1) L
        rotate_left
        · replace h := (if_neg h185).symm.trans h
          cases h
        replace h := (if_pos h185).symm.trans h
        refine gw_sld dL_law_709 h185 ?_
        refine gw_aload0 dL_law_710 ?_
        refine gw_iload3 dL_law_711 ?_
        refine gw_ic2 dL_law_712 ?_
        refine gw_iadd dL_law_713 ?_
        by_cases h186 : ow_inn (x3 + 2) L
        rotate_left
        · replace h := (if_neg h186).symm.trans h
          cases h
        replace h := (if_pos h186).symm.trans h
        refine gw_sld dL_law_714 h186 ?_
        refine gw_aload0 dL_law_715 ?_
        refine gw_iload3 dL_law_716 ?_
        refine gw_ic3 dL_law_717 ?_
        refine gw_iadd dL_law_718 ?_
        by_cases h187 : ow_inn (x3 + 3) L
        rotate_left
        · replace h := (if_neg h187).symm.trans h
          cases h
        replace h := (if_pos h187).symm.trans h
        refine gw_sld dL_law_719 h187 ?_
        refine gw_aload0 dL_law_720 ?_
        refine gw_iload3 dL_law_721 ?_
        refine gw_ic4 dL_law_722 ?_
        refine gw_iadd dL_law_723 ?_
        by_cases h188 : ow_inn (x3 + 4) L
        rotate_left
        · replace h := (if_neg h188).symm.trans h
          cases h
        replace h := (if_pos h188).symm.trans h
        refine gw_sld dL_law_724 h188 ?_
        obtain ⟨v190, M191, hc189, h⟩ := ow_bd_some h
        refine gw_cVI4 dL_law_725 lkL_83 mkX8_reading (ow_rm_law rfl rfl) rfl rfl (ctX8_reading l hc189) rfl ?_
        refine gw_icmp_eq (tgt := 1136) dL_law_728 rfl (fun h192 => ?_) (fun h192 => ?_)
        · replace h := (if_pos h192).symm.trans h
          refine gw_iinc3 6 dL_law_1136 (by decide) rfl (by decide) ?_
          refine gw_goto (tgt := 18) rfl dL_law_1139 ?_
          exact ih _ _ h
        · replace h := (if_neg h192).symm.trans h
          refine gw_ic0 dL_law_731 ?_
          exact absurd (Option.some.inj h) (by decide)
      replace h := (if_neg h177).symm.trans h
      by_cases h193 : ((xs x3.toNatClampNeg) &&& 31) = 16
      · replace h := (if_pos h193).symm.trans h
        refine gw_tableIn (tgt := 733) dL_law_33 (by rw [h193]; decide) (by rw [h193]; decide) (by rw [h193]; rfl) rfl ?_
        refine gw_aload1 dL_law_733 ?_
        refine gw_aload0 dL_law_734 ?_
        refine gw_iload3 dL_law_735 ?_
        refine gw_ic1 dL_law_736 ?_
        refine gw_iadd dL_law_737 ?_
        by_cases h194 : ow_inn (x3 + 1) L
        rotate_left
        · replace h := (if_neg h194).symm.trans h
          cases h
        replace h := (if_pos h194).symm.trans h
        refine gw_sld dL_law_738 h194 ?_
        obtain ⟨v196, M197, hc195, h⟩ := ow_bd_some h
        refine gw_cVI1 dL_law_739 lkL_84 mkX7_back (ow_rm_law rfl rfl) rfl rfl (ctX7_back l hc195) rfl ?_
        refine gw_aload2 dL_law_742 ?_
        refine gw_aload0 dL_law_743 ?_
        refine gw_iload3 dL_law_744 ?_
        refine gw_ic1 dL_law_745 ?_
        refine gw_iadd dL_law_746 ?_
        by_cases h198 : ow_inn (x3 + 1) L
        rotate_left
        · replace h := (if_neg h198).symm.trans h
          cases h
        replace h := (if_pos h198).symm.trans h
        refine gw_sld dL_law_747 h198 ?_
        obtain ⟨v200, M201, hc199, h⟩ := ow_bd_some h
        refine gw_cVI1 dL_law_748 lkL_87 mkX8_back (ow_rm_law rfl rfl) rfl rfl (ctX8_back l hc199) rfl ?_
        refine gw_icmp_eq (tgt := 1136) dL_law_751 rfl (fun h202 => ?_) (fun h202 => ?_)
        · replace h := (if_pos h202).symm.trans h
          refine gw_iinc3 6 dL_law_1136 (by decide) rfl (by decide) ?_
          refine gw_goto (tgt := 18) rfl dL_law_1139 ?_
          exact ih _ _ h
        · replace h := (if_neg h202).symm.trans h
          refine gw_ic0 dL_law_754 ?_
          exact absurd (Option.some.inj h) (by decide)
      replace h := (if_neg h193).symm.trans h
      by_cases h203 : ((xs x3.toNatClampNeg) &&& 31) = 17
      · replace h := (if_pos h203).symm.trans h
        refine gw_tableIn (tgt := 756) dL_law_33 (by rw [h203]; decide) (by rw [h203]; decide) (by rw [h203]; rfl) rfl ?_
        refine gw_aload1 dL_law_756 ?_
        refine gw_aload0 dL_law_757 ?_
        refine gw_iload3 dL_law_758 ?_
        refine gw_ic1 dL_law_759 ?_
        refine gw_iadd dL_law_760 ?_
        by_cases h204 : ow_inn (x3 + 1) L
        rotate_left
        · replace h := (if_neg h204).symm.trans h
          cases h
        replace h := (if_pos h204).symm.trans h
        refine gw_sld dL_law_761 h204 ?_
        obtain ⟨v206, M207, hc205, h⟩ := ow_bd_some h
        refine gw_cVI1 dL_law_762 lkL_88 mkX7_kinds (ow_rm_law rfl rfl) rfl rfl (ctX7_kinds l hc205) rfl ?_
        refine gw_aload2 dL_law_765 ?_
        refine gw_aload0 dL_law_766 ?_
        refine gw_iload3 dL_law_767 ?_
        refine gw_ic1 dL_law_768 ?_
        refine gw_iadd dL_law_769 ?_
        by_cases h208 : ow_inn (x3 + 1) L
        rotate_left
        · replace h := (if_neg h208).symm.trans h
          cases h
        replace h := (if_pos h208).symm.trans h
        refine gw_sld dL_law_770 h208 ?_
        obtain ⟨v210, M211, hc209, h⟩ := ow_bd_some h
        refine gw_cVI1 dL_law_771 lkL_91 mkX8_kinds (ow_rm_law rfl rfl) rfl rfl (ctX8_kinds l hc209) rfl ?_
        refine gw_icmp_eq (tgt := 1136) dL_law_774 rfl (fun h212 => ?_) (fun h212 => ?_)
        · replace h := (if_pos h212).symm.trans h
          refine gw_iinc3 6 dL_law_1136 (by decide) rfl (by decide) ?_
          refine gw_goto (tgt := 18) rfl dL_law_1139 ?_
          exact ih _ _ h
        · replace h := (if_neg h212).symm.trans h
          refine gw_ic0 dL_law_777 ?_
          exact absurd (Option.some.inj h) (by decide)
      replace h := (if_neg h203).symm.trans h
      by_cases h213 : ((xs x3.toNatClampNeg) &&& 31) = 18
      · replace h := (if_pos h213).symm.trans h
        refine gw_tableIn (tgt := 779) dL_law_33 (by rw [h213]; decide) (by rw [h213]; decide) (by rw [h213]; rfl) rfl ?_
        refine gw_aload1 dL_law_779 ?_
        obtain ⟨v215, M216, hc214, h⟩ := ow_bd_some h
        refine gw_cVI0 dL_law_780 lkL_92 mkX7_walls (ow_rm_law rfl rfl) rfl rfl (ctX7_walls l hc214) rfl ?_
        refine gw_aload2 dL_law_783 ?_
        obtain ⟨v218, M219, hc217, h⟩ := ow_bd_some h
        refine gw_cVI0 dL_law_784 lkL_95 mkX8_walls (ow_rm_law rfl rfl) rfl rfl (ctX8_walls l hc217) rfl ?_
        refine gw_icmp_eq (tgt := 1136) dL_law_787 rfl (fun h220 => ?_) (fun h220 => ?_)
        · replace h := (if_pos h220).symm.trans h
          refine gw_iinc3 6 dL_law_1136 (by decide) rfl (by decide) ?_
          refine gw_goto (tgt := 18) rfl dL_law_1139 ?_
          exact ih _ _ h
        · replace h := (if_neg h220).symm.trans h
          refine gw_ic0 dL_law_790 ?_
          exact absurd (Option.some.inj h) (by decide)
      replace h := (if_neg h213).symm.trans h
      by_cases h221 : ((xs x3.toNatClampNeg) &&& 31) = 19
      · replace h := (if_pos h221).symm.trans h
        refine gw_tableIn (tgt := 792) dL_law_33 (by rw [h221]; decide) (by rw [h221]; decide) (by rw [h221]; rfl) rfl ?_
        refine gw_aload1 dL_law_792 ?_
        refine gw_aload0 dL_law_793 ?_
        refine gw_iload3 dL_law_794 ?_
        refine gw_ic1 dL_law_795 ?_
        refine gw_iadd dL_law_796 ?_
        by_cases h222 : ow_inn (x3 + 1) L
        rotate_left
        · replace h := (if_neg h222).symm.trans h
          cases h
        replace h := (if_pos h222).symm.trans h
        refine gw_sld dL_law_797 h222 ?_
        refine gw_aload0 dL_law_798 ?_
        refine gw_iload3 dL_law_799 ?_
        refine gw_ic2 dL_law_800 ?_
        refine gw_iadd dL_law_801 ?_
        by_cases h223 : ow_inn (x3 + 2) L
        rotate_left
        · replace h := (if_neg h223).symm.trans h
          cases h
        replace h := (if_pos h223).symm.trans h
        refine gw_sld dL_law_802 h223 ?_
        refine gw_aload0 dL_law_803 ?_
        refine gw_iload3 dL_law_804 ?_
        refine gw_ic3 dL_law_805 ?_
        refine gw_iadd dL_law_806 ?_
        by_cases h224 : ow_inn (x3 + 3) L
        rotate_left
        · replace h := (if_neg h224).symm.trans h
          cases h
        replace h := (if_pos h224).symm.trans h
        refine gw_sld dL_law_807 h224 ?_
        obtain ⟨v226, M227, hc225, h⟩ := ow_bd_some h
        refine gw_cVI3 dL_law_808 lkL_96 mkX7_sheet (ow_rm_law rfl rfl) rfl rfl (ctX7_sheet l hc225) rfl ?_
        refine gw_aload2 dL_law_811 ?_
        refine gw_aload0 dL_law_812 ?_
        refine gw_iload3 dL_law_813 ?_
        refine gw_ic1 dL_law_814 ?_
        refine gw_iadd dL_law_815 ?_
        by_cases h228 : ow_inn (x3 + 1) L
        rotate_left
        · replace h := (if_neg h228).symm.trans h
          cases h
        replace h := (if_pos h228).symm.trans h
        refine gw_sld dL_law_816 h228 ?_
        refine gw_aload0 dL_law_817 ?_
        refine gw_iload3 dL_law_818 ?_
        refine gw_ic2 dL_law_819 ?_
        refine gw_iadd dL_law_820 ?_
        by_cases h229 : ow_inn (x3 + 2) L
        rotate_left
        · replace h := (if_neg h229).symm.trans h
          cases h
        replace h := (if_pos h229).symm.trans h
        refine gw_sld dL_law_821 h229 ?_
        refine gw_aload0 dL_law_822 ?_
        refine gw_iload3 dL_law_823 ?_
        refine gw_ic3 dL_law_824 ?_
        refine gw_iadd dL_law_825 ?_
        by_cases h230 : ow_inn (x3 + 3) L
        rotate_left
        · replace h := (if_neg h230).symm.trans h
          cases h
        replace h := (if_pos h230).symm.trans h
        refine gw_sld dL_law_826 h230 ?_
        obtain ⟨v232, M233, hc231, h⟩ := ow_bd_some h
        refine gw_cVI3 dL_law_827 lkL_100 mkX8_sheet (ow_rm_law rfl rfl) rfl rfl (ctX8_sheet l hc231) rfl ?_
        refine gw_icmp_eq (tgt := 1136) dL_law_830 rfl (fun h234 => ?_) (fun h234 => ?_)
        · replace h := (if_pos h234).symm.trans h
          refine gw_iinc3 6 dL_law_1136 (by decide) rfl (by decide) ?_
          refine gw_goto (tgt := 18) rfl dL_law_1139 ?_
          exact ih _ _ h
        · replace h := (if_neg h234).symm.trans h
          refine gw_ic0 dL_law_833 ?_
          exact absurd (Option.some.inj h) (by decide)
      replace h := (if_neg h221).symm.trans h
      by_cases h235 : ((xs x3.toNatClampNeg) &&& 31) = 20
      · replace h := (if_pos h235).symm.trans h
        refine gw_tableIn (tgt := 835) dL_law_33 (by rw [h235]; decide) (by rw [h235]; decide) (by rw [h235]; rfl) rfl ?_
        refine gw_aload1 dL_law_835 ?_
        refine gw_aload0 dL_law_836 ?_
        refine gw_iload3 dL_law_837 ?_
        refine gw_ic1 dL_law_838 ?_
        refine gw_iadd dL_law_839 ?_
        by_cases h236 : ow_inn (x3 + 1) L
        rotate_left
        · replace h := (if_neg h236).symm.trans h
          cases h
        replace h := (if_pos h236).symm.trans h
        refine gw_sld dL_law_840 h236 ?_
        obtain ⟨v238, M239, hc237, h⟩ := ow_bd_some h
        refine gw_cVI1 dL_law_841 lkL_101 mkX7_lose (ow_rm_law rfl rfl) rfl rfl (ctX7_lose l hc237) rfl ?_
        refine gw_aload2 dL_law_844 ?_
        refine gw_aload0 dL_law_845 ?_
        refine gw_iload3 dL_law_846 ?_
        refine gw_ic1 dL_law_847 ?_
        refine gw_iadd dL_law_848 ?_
        by_cases h240 : ow_inn (x3 + 1) L
        rotate_left
        · replace h := (if_neg h240).symm.trans h
          cases h
        replace h := (if_pos h240).symm.trans h
        refine gw_sld dL_law_849 h240 ?_
        obtain ⟨v242, M243, hc241, h⟩ := ow_bd_some h
        refine gw_cVI1 dL_law_850 lkL_104 mkX8_lose (ow_rm_law rfl rfl) rfl rfl (ctX8_lose l hc241) rfl ?_
        refine gw_icmp_eq (tgt := 1136) dL_law_853 rfl (fun h244 => ?_) (fun h244 => ?_)
        · replace h := (if_pos h244).symm.trans h
          refine gw_iinc3 6 dL_law_1136 (by decide) rfl (by decide) ?_
          refine gw_goto (tgt := 18) rfl dL_law_1139 ?_
          exact ih _ _ h
        · replace h := (if_neg h244).symm.trans h
          refine gw_ic0 dL_law_856 ?_
          exact absurd (Option.some.inj h) (by decide)
      replace h := (if_neg h235).symm.trans h
      by_cases h245 : ((xs x3.toNatClampNeg) &&& 31) = 21
      · replace h := (if_pos h245).symm.trans h
        refine gw_tableIn (tgt := 858) dL_law_33 (by rw [h245]; decide) (by rw [h245]; decide) (by rw [h245]; rfl) rfl ?_
        refine gw_aload1 dL_law_858 ?_
        refine gw_aload0 dL_law_859 ?_
        refine gw_iload3 dL_law_860 ?_
        refine gw_ic1 dL_law_861 ?_
        refine gw_iadd dL_law_862 ?_
        by_cases h246 : ow_inn (x3 + 1) L
        rotate_left
        · replace h := (if_neg h246).symm.trans h
          cases h
        replace h := (if_pos h246).symm.trans h
        refine gw_sld dL_law_863 h246 ?_
        refine gw_aload0 dL_law_864 ?_
        refine gw_iload3 dL_law_865 ?_
        refine gw_ic2 dL_law_866 ?_
        refine gw_iadd dL_law_867 ?_
        by_cases h247 : ow_inn (x3 + 2) L
        rotate_left
        · replace h := (if_neg h247).symm.trans h
          cases h
        replace h := (if_pos h247).symm.trans h
        refine gw_sld dL_law_868 h247 ?_
        refine gw_aload0 dL_law_869 ?_
        refine gw_iload3 dL_law_870 ?_
        refine gw_ic3 dL_law_871 ?_
        refine gw_iadd dL_law_872 ?_
        by_cases h248 : ow_inn (x3 + 3) L
        rotate_left
        · replace h := (if_neg h248).symm.trans h
          cases h
        replace h := (if_pos h248).symm.trans h
        refine gw_sld dL_law_873 h248 ?_
        obtain ⟨v250, M251, hc249, h⟩ := ow_bd_some h
        refine gw_cVI3 dL_law_874 lkL_105 mkX7_put (ow_rm_law rfl rfl) rfl rfl (ctX7_put l hc249) rfl ?_
        refine gw_aload2 dL_law_877 ?_
        refine gw_aload0 dL_law_878 ?_
        refine gw_iload3 dL_law_879 ?_
        refine gw_ic1 dL_law_880 ?_
        refine gw_iadd dL_law_881 ?_
        by_cases h252 : ow_inn (x3 + 1) L
        rotate_left
        · replace h := (if_neg h252).symm.trans h
          cases h
        replace h := (if_pos h252).symm.trans h
        refine gw_sld dL_law_882 h252 ?_
        refine gw_aload0 dL_law_883 ?_
        refine gw_iload3 dL_law_884 ?_
        refine gw_ic2 dL_law_885 ?_
        refine gw_iadd dL_law_886 ?_
        by_cases h253 : ow_inn (x3 + 2) L
        rotate_left
        · replace h := (if_neg h253).symm.trans h
          cases h
        replace h := (if_pos h253).symm.trans h
        refine gw_sld dL_law_887 h253 ?_
        refine gw_aload0 dL_law_888 ?_
        refine gw_iload3 dL_law_889 ?_
        refine gw_ic3 dL_law_890 ?_
        refine gw_iadd dL_law_891 ?_
        by_cases h254 : ow_inn (x3 + 3) L
        rotate_left
        · replace h := (if_neg h254).symm.trans h
          cases h
        replace h := (if_pos h254).symm.trans h
        refine gw_sld dL_law_892 h254 ?_
        obtain ⟨v256, M257, hc255, h⟩ := ow_bd_some h
        refine gw_cVI3 dL_law_893 lkL_108 mkX8_put (ow_rm_law rfl rfl) rfl rfl (ctX8_put l hc255) rfl ?_
        refine gw_icmp_eq (tgt := 1136) dL_law_896 rfl (fun h258 => ?_) (fun h258 => ?_)
        · replace h := (if_pos h258).symm.trans h
          refine gw_iinc3 6 dL_law_1136 (by decide) rfl (by decide) ?_
          refine gw_goto (tgt := 18) rfl dL_law_1139 ?_
          exact ih _ _ h
        · replace h := (if_neg h258).symm.trans h
          refine gw_ic0 dL_law_899 ?_
          exact absurd (Option.some.inj h) (by decide)
      replace h := (if_neg h245).symm.trans h
      by_cases h259 : ((xs x3.toNatClampNeg) &&& 31) = 22
      · replace h := (if_pos h259).symm.trans h
        refine gw_tableIn (tgt := 901) dL_law_33 (by rw [h259]; decide) (by rw [h259]; decide) (by rw [h259]; rfl) rfl ?_
        refine gw_aload1 dL_law_901 ?_
        refine gw_aload0 dL_law_902 ?_
        refine gw_iload3 dL_law_903 ?_
        refine gw_ic1 dL_law_904 ?_
        refine gw_iadd dL_law_905 ?_
        by_cases h260 : ow_inn (x3 + 1) L
        rotate_left
        · replace h := (if_neg h260).symm.trans h
          cases h
        replace h := (if_pos h260).symm.trans h
        refine gw_sld dL_law_906 h260 ?_
        refine gw_aload0 dL_law_907 ?_
        refine gw_iload3 dL_law_908 ?_
        refine gw_ic2 dL_law_909 ?_
        refine gw_iadd dL_law_910 ?_
        by_cases h261 : ow_inn (x3 + 2) L
        rotate_left
        · replace h := (if_neg h261).symm.trans h
          cases h
        replace h := (if_pos h261).symm.trans h
        refine gw_sld dL_law_911 h261 ?_
        refine gw_aload0 dL_law_912 ?_
        refine gw_iload3 dL_law_913 ?_
        refine gw_ic3 dL_law_914 ?_
        refine gw_iadd dL_law_915 ?_
        by_cases h262 : ow_inn (x3 + 3) L
        rotate_left
        · replace h := (if_neg h262).symm.trans h
          cases h
        replace h := (if_pos h262).symm.trans h
        refine gw_sld dL_law_916 h262 ?_
        obtain ⟨v264, M265, hc263, h⟩ := ow_bd_some h
        refine gw_cVI3 dL_law_917 lkL_109 mkX7_cell (ow_rm_law rfl rfl) rfl rfl (ctX7_cell l hc263) rfl ?_
        refine gw_aload2 dL_law_920 ?_
        refine gw_aload0 dL_law_921 ?_
        refine gw_iload3 dL_law_922 ?_
        refine gw_ic1 dL_law_923 ?_
        refine gw_iadd dL_law_924 ?_
        by_cases h266 : ow_inn (x3 + 1) L
        rotate_left
        · replace h := (if_neg h266).symm.trans h
          cases h
        replace h := (if_pos h266).symm.trans h
        refine gw_sld dL_law_925 h266 ?_
        refine gw_aload0 dL_law_926 ?_
        refine gw_iload3 dL_law_927 ?_
        refine gw_ic2 dL_law_928 ?_
        refine gw_iadd dL_law_929 ?_
        by_cases h267 : ow_inn (x3 + 2) L
        rotate_left
        · replace h := (if_neg h267).symm.trans h
          cases h
        replace h := (if_pos h267).symm.trans h
        refine gw_sld dL_law_930 h267 ?_
        refine gw_aload0 dL_law_931 ?_
        refine gw_iload3 dL_law_932 ?_
        refine gw_ic3 dL_law_933 ?_
        refine gw_iadd dL_law_934 ?_
        by_cases h268 : ow_inn (x3 + 3) L
        rotate_left
        · replace h := (if_neg h268).symm.trans h
          cases h
        replace h := (if_pos h268).symm.trans h
        refine gw_sld dL_law_935 h268 ?_
        obtain ⟨v270, M271, hc269, h⟩ := ow_bd_some h
        refine gw_cVI3 dL_law_936 lkL_112 mkX8_cell (ow_rm_law rfl rfl) rfl rfl (ctX8_cell l hc269) rfl ?_
        refine gw_lcmp dL_law_939 ?_
        refine gw_if_eq (tgt := 1136) dL_law_940 rfl (fun h272 => ?_) (fun h272 => ?_)
        · replace h := (if_pos h272).symm.trans h
          refine gw_iinc3 6 dL_law_1136 (by decide) rfl (by decide) ?_
          refine gw_goto (tgt := 18) rfl dL_law_1139 ?_
          exact ih _ _ h
        · replace h := (if_neg h272).symm.trans h
          refine gw_ic0 dL_law_943 ?_
          exact absurd (Option.some.inj h) (by decide)
      replace h := (if_neg h259).symm.trans h
      by_cases h273 : ((xs x3.toNatClampNeg) &&& 31) = 23
      · replace h := (if_pos h273).symm.trans h
        refine gw_tableIn (tgt := 945) dL_law_33 (by rw [h273]; decide) (by rw [h273]; decide) (by rw [h273]; rfl) rfl ?_
        refine gw_aload1 dL_law_945 ?_
        refine gw_aload0 dL_law_946 ?_
        refine gw_iload3 dL_law_947 ?_
        refine gw_ic1 dL_law_948 ?_
        refine gw_iadd dL_law_949 ?_
        by_cases h274 : ow_inn (x3 + 1) L
        rotate_left
        · replace h := (if_neg h274).symm.trans h
          cases h
        replace h := (if_pos h274).symm.trans h
        refine gw_sld dL_law_950 h274 ?_
        refine gw_aload0 dL_law_951 ?_
        refine gw_iload3 dL_law_952 ?_
        refine gw_ic2 dL_law_953 ?_
        refine gw_iadd dL_law_954 ?_
        by_cases h275 : ow_inn (x3 + 2) L
        rotate_left
        · replace h := (if_neg h275).symm.trans h
          cases h
        replace h := (if_pos h275).symm.trans h
        refine gw_sld dL_law_955 h275 ?_
        refine gw_aload0 dL_law_956 ?_
        refine gw_iload3 dL_law_957 ?_
        refine gw_ic3 dL_law_958 ?_
        refine gw_iadd dL_law_959 ?_
        by_cases h276 : ow_inn (x3 + 3) L
        rotate_left
        · replace h := (if_neg h276).symm.trans h
          cases h
        replace h := (if_pos h276).symm.trans h
        refine gw_sld dL_law_960 h276 ?_
        refine gw_aload0 dL_law_961 ?_
        refine gw_iload3 dL_law_962 ?_
        refine gw_ic4 dL_law_963 ?_
        refine gw_iadd dL_law_964 ?_
        by_cases h277 : ow_inn (x3 + 4) L
        rotate_left
        · replace h := (if_neg h277).symm.trans h
          cases h
        replace h := (if_pos h277).symm.trans h
        refine gw_sld dL_law_965 h277 ?_
        refine gw_aload0 dL_law_966 ?_
        refine gw_iload3 dL_law_967 ?_
        refine gw_ic5 dL_law_968 ?_
        refine gw_iadd dL_law_969 ?_
        by_cases h278 : ow_inn (x3 + 5) L
        rotate_left
        · replace h := (if_neg h278).symm.trans h
          cases h
        replace h := (if_pos h278).symm.trans h
        refine gw_sld dL_law_970 h278 ?_
        obtain ⟨v280, M281, hc279, h⟩ := ow_bd_some h
        refine gw_cVI5 dL_law_971 lkL_113 mkX7_copy (ow_rm_law rfl rfl) rfl rfl (ctX7_copy l hc279) rfl ?_
        refine gw_aload2 dL_law_974 ?_
        refine gw_aload0 dL_law_975 ?_
        refine gw_iload3 dL_law_976 ?_
        refine gw_ic1 dL_law_977 ?_
        refine gw_iadd dL_law_978 ?_
        by_cases h282 : ow_inn (x3 + 1) L
        rotate_left
        · replace h := (if_neg h282).symm.trans h
          cases h
        replace h := (if_pos h282).symm.trans h
        refine gw_sld dL_law_979 h282 ?_
        refine gw_aload0 dL_law_980 ?_
        refine gw_iload3 dL_law_981 ?_
        refine gw_ic2 dL_law_982 ?_
        refine gw_iadd dL_law_983 ?_
        by_cases h283 : ow_inn (x3 + 2) L
        rotate_left
        · replace h := (if_neg h283).symm.trans h
          cases h
        replace h := (if_pos h283).symm.trans h
        refine gw_sld dL_law_984 h283 ?_
        refine gw_aload0 dL_law_985 ?_
        refine gw_iload3 dL_law_986 ?_
        refine gw_ic3 dL_law_987 ?_
        refine gw_iadd dL_law_988 ?_
        by_cases h284 : ow_inn (x3 + 3) L
        rotate_left
        · replace h := (if_neg h284).symm.trans h
          cases h
        replace h := (if_pos h284).symm.trans h
        refine gw_sld dL_law_989 h284 ?_
        refine gw_aload0 dL_law_990 ?_
        refine gw_iload3 dL_law_991 ?_
        refine gw_ic4 dL_law_992 ?_
        refine gw_iadd dL_law_993 ?_
        by_cases h285 : ow_inn (x3 + 4) L
        rotate_left
        · replace h := (if_neg h285).symm.trans h
          cases h
        replace h := (if_pos h285).symm.trans h
        refine gw_sld dL_law_994 h285 ?_
        refine gw_aload0 dL_law_995 ?_
        refine gw_iload3 dL_law_996 ?_
        refine gw_ic5 dL_law_997 ?_
        refine gw_iadd dL_law_998 ?_
        by_cases h286 : ow_inn (x3 + 5) L
        rotate_left
        · replace h := (if_neg h286).symm.trans h
          cases h
        replace h := (if_pos h286).symm.trans h
        refine gw_sld dL_law_999 h286 ?_
        obtain ⟨v288, M289, hc287, h⟩ := ow_bd_some h
        refine gw_cVI5 dL_law_1000 lkL_116 mkX8_copy (ow_rm_law rfl rfl) rfl rfl (ctX8_copy l hc287) rfl ?_
        refine gw_icmp_eq (tgt := 1136) dL_law_1003 rfl (fun h290 => ?_) (fun h290 => ?_)
        · replace h := (if_pos h290).symm.trans h
          refine gw_iinc3 6 dL_law_1136 (by decide) rfl (by decide) ?_
          refine gw_goto (tgt := 18) rfl dL_law_1139 ?_
          exact ih _ _ h
        · replace h := (if_neg h290).symm.trans h
          refine gw_ic0 dL_law_1006 ?_
          exact absurd (Option.some.inj h) (by decide)
      replace h := (if_neg h273).symm.trans h
      by_cases h291 : ((xs x3.toNatClampNeg) &&& 31) = 24
      · replace h := (if_pos h291).symm.trans h
        refine gw_tableIn (tgt := 1008) dL_law_33 (by rw [h291]; decide) (by rw [h291]; decide) (by rw [h291]; rfl) rfl ?_
        refine gw_aload1 dL_law_1008 ?_
        refine gw_aload0 dL_law_1009 ?_
        refine gw_iload3 dL_law_1010 ?_
        refine gw_ic1 dL_law_1011 ?_
        refine gw_iadd dL_law_1012 ?_
        by_cases h292 : ow_inn (x3 + 1) L
        rotate_left
        · replace h := (if_neg h292).symm.trans h
          cases h
        replace h := (if_pos h292).symm.trans h
        refine gw_sld dL_law_1013 h292 ?_
        obtain ⟨v294, M295, hc293, h⟩ := ow_bd_some h
        refine gw_cVI1 dL_law_1014 lkL_117 mkX7_tell (ow_rm_law rfl rfl) rfl rfl (ctX7_tell l hc293) rfl ?_
        refine gw_aload2 dL_law_1017 ?_
        refine gw_aload0 dL_law_1018 ?_
        refine gw_iload3 dL_law_1019 ?_
        refine gw_ic1 dL_law_1020 ?_
        refine gw_iadd dL_law_1021 ?_
        by_cases h296 : ow_inn (x3 + 1) L
        rotate_left
        · replace h := (if_neg h296).symm.trans h
          cases h
        replace h := (if_pos h296).symm.trans h
        refine gw_sld dL_law_1022 h296 ?_
        obtain ⟨v298, M299, hc297, h⟩ := ow_bd_some h
        refine gw_cVI1 dL_law_1023 lkL_120 mkX8_tell (ow_rm_law rfl rfl) rfl rfl (ctX8_tell l hc297) rfl ?_
        refine gw_icmp_eq (tgt := 1136) dL_law_1026 rfl (fun h300 => ?_) (fun h300 => ?_)
        · replace h := (if_pos h300).symm.trans h
          refine gw_iinc3 6 dL_law_1136 (by decide) rfl (by decide) ?_
          refine gw_goto (tgt := 18) rfl dL_law_1139 ?_
          exact ih _ _ h
        · replace h := (if_neg h300).symm.trans h
          refine gw_ic0 dL_law_1029 ?_
          exact absurd (Option.some.inj h) (by decide)
      replace h := (if_neg h291).symm.trans h
      by_cases h301 : ((xs x3.toNatClampNeg) &&& 31) = 25
      · replace h := (if_pos h301).symm.trans h
        refine gw_tableIn (tgt := 1031) dL_law_33 (by rw [h301]; decide) (by rw [h301]; decide) (by rw [h301]; rfl) rfl ?_
        refine gw_aload1 dL_law_1031 ?_
        refine gw_aload0 dL_law_1032 ?_
        refine gw_iload3 dL_law_1033 ?_
        refine gw_ic1 dL_law_1034 ?_
        refine gw_iadd dL_law_1035 ?_
        by_cases h302 : ow_inn (x3 + 1) L
        rotate_left
        · replace h := (if_neg h302).symm.trans h
          cases h
        replace h := (if_pos h302).symm.trans h
        refine gw_sld dL_law_1036 h302 ?_
        obtain ⟨v304, M305, hc303, h⟩ := ow_bd_some h
        refine gw_cVI1 dL_law_1037 lkL_121 mkX7_lean (ow_rm_law rfl rfl) rfl rfl (ctX7_lean l hc303) rfl ?_
        refine gw_aload2 dL_law_1040 ?_
        refine gw_aload0 dL_law_1041 ?_
        refine gw_iload3 dL_law_1042 ?_
        refine gw_ic1 dL_law_1043 ?_
        refine gw_iadd dL_law_1044 ?_
        by_cases h306 : ow_inn (x3 + 1) L
        rotate_left
        · replace h := (if_neg h306).symm.trans h
          cases h
        replace h := (if_pos h306).symm.trans h
        refine gw_sld dL_law_1045 h306 ?_
        obtain ⟨v308, M309, hc307, h⟩ := ow_bd_some h
        refine gw_cVI1 dL_law_1046 lkL_124 mkX8_lean (ow_rm_law rfl rfl) rfl rfl (ctX8_lean l hc307) rfl ?_
        refine gw_icmp_eq (tgt := 1136) dL_law_1049 rfl (fun h310 => ?_) (fun h310 => ?_)
        · replace h := (if_pos h310).symm.trans h
          refine gw_iinc3 6 dL_law_1136 (by decide) rfl (by decide) ?_
          refine gw_goto (tgt := 18) rfl dL_law_1139 ?_
          exact ih _ _ h
        · replace h := (if_neg h310).symm.trans h
          refine gw_ic0 dL_law_1052 ?_
          exact absurd (Option.some.inj h) (by decide)
      replace h := (if_neg h301).symm.trans h
      by_cases h311 : ((xs x3.toNatClampNeg) &&& 31) = 26
      · replace h := (if_pos h311).symm.trans h
        refine gw_tableIn (tgt := 1054) dL_law_33 (by rw [h311]; decide) (by rw [h311]; decide) (by rw [h311]; rfl) rfl ?_
        refine gw_aload1 dL_law_1054 ?_
        refine gw_aload0 dL_law_1055 ?_
        refine gw_iload3 dL_law_1056 ?_
        refine gw_ic1 dL_law_1057 ?_
        refine gw_iadd dL_law_1058 ?_
        by_cases h312 : ow_inn (x3 + 1) L
        rotate_left
        · replace h := (if_neg h312).symm.trans h
          cases h
        replace h := (if_pos h312).symm.trans h
        refine gw_sld dL_law_1059 h312 ?_
        refine gw_aload0 dL_law_1060 ?_
        refine gw_iload3 dL_law_1061 ?_
        refine gw_ic2 dL_law_1062 ?_
        refine gw_iadd dL_law_1063 ?_
        by_cases h313 : ow_inn (x3 + 2) L
        rotate_left
        · replace h := (if_neg h313).symm.trans h
          cases h
        replace h := (if_pos h313).symm.trans h
        refine gw_sld dL_law_1064 h313 ?_
        obtain ⟨v315, M316, hc314, h⟩ := ow_bd_some h
        refine gw_cVI2 dL_law_1065 lkL_125 mkX7_as (ow_rm_law rfl rfl) rfl rfl (ctX7_as l hc314) rfl ?_
        refine gw_aload2 dL_law_1068 ?_
        refine gw_aload0 dL_law_1069 ?_
        refine gw_iload3 dL_law_1070 ?_
        refine gw_ic1 dL_law_1071 ?_
        refine gw_iadd dL_law_1072 ?_
        by_cases h317 : ow_inn (x3 + 1) L
        rotate_left
        · replace h := (if_neg h317).symm.trans h
          cases h
        replace h := (if_pos h317).symm.trans h
        refine gw_sld dL_law_1073 h317 ?_
        refine gw_aload0 dL_law_1074 ?_
        refine gw_iload3 dL_law_1075 ?_
        refine gw_ic2 dL_law_1076 ?_
        refine gw_iadd dL_law_1077 ?_
        by_cases h318 : ow_inn (x3 + 2) L
        rotate_left
        · replace h := (if_neg h318).symm.trans h
          cases h
        replace h := (if_pos h318).symm.trans h
        refine gw_sld dL_law_1078 h318 ?_
        obtain ⟨v320, M321, hc319, h⟩ := ow_bd_some h
        refine gw_cVI2 dL_law_1079 lkL_128 mkX8_as (ow_rm_law rfl rfl) rfl rfl (ctX8_as l hc319) rfl ?_
        refine gw_icmp_eq (tgt := 1136) dL_law_1082 rfl (fun h322 => ?_) (fun h322 => ?_)
        · replace h := (if_pos h322).symm.trans h
          refine gw_iinc3 6 dL_law_1136 (by decide) rfl (by decide) ?_
          refine gw_goto (tgt := 18) rfl dL_law_1139 ?_
          exact ih _ _ h
        · replace h := (if_neg h322).symm.trans h
          refine gw_ic0 dL_law_1085 ?_
          exact absurd (Option.some.inj h) (by decide)
      replace h := (if_neg h311).symm.trans h
      by_cases h323 : ((xs x3.toNatClampNeg) &&& 31) = 27
      · replace h := (if_pos h323).symm.trans h
        refine gw_tableIn (tgt := 1087) dL_law_33 (by rw [h323]; decide) (by rw [h323]; decide) (by rw [h323]; rfl) rfl ?_
        refine gw_aload1 dL_law_1087 ?_
        obtain ⟨v325, hc324, h⟩ := ow_b_some h
        refine gw_cVI0 dL_law_1088 lkL_129 mkX7_trace (ow_rm_law rfl rfl) rfl rfl (ctX7_trace l hc324) rfl ?_
        refine gw_aload2 dL_law_1091 ?_
        obtain ⟨v327, hc326, h⟩ := ow_b_some h
        refine gw_cVI0 dL_law_1092 lkL_132 mkX8_trace (ow_rm_law rfl rfl) rfl rfl (ctX8_trace l hc326) rfl ?_
        refine gw_icmp_eq (tgt := 1136) dL_law_1095 rfl (fun h328 => ?_) (fun h328 => ?_)
        · replace h := (if_pos h328).symm.trans h
          refine gw_iinc3 6 dL_law_1136 (by decide) rfl (by decide) ?_
          refine gw_goto (tgt := 18) rfl dL_law_1139 ?_
          exact ih _ _ h
        · replace h := (if_neg h328).symm.trans h
          refine gw_ic0 dL_law_1098 ?_
          exact absurd (Option.some.inj h) (by decide)
      replace h := (if_neg h323).symm.trans h
      by_cases h329 : ((xs x3.toNatClampNeg) &&& 31) = 28
      · replace h := (if_pos h329).symm.trans h
        refine gw_tableIn (tgt := 1100) dL_law_33 (by rw [h329]; decide) (by rw [h329]; decide) (by rw [h329]; rfl) rfl ?_
        refine gw_aload1 dL_law_1100 ?_
        obtain ⟨v331, hc330, h⟩ := ow_b_some h
        refine gw_cVI0 dL_law_1101 lkL_133 mkX7_fault (ow_rm_law rfl rfl) rfl rfl (ctX7_fault l hc330) rfl ?_
        refine gw_aload2 dL_law_1104 ?_
        obtain ⟨v333, hc332, h⟩ := ow_b_some h
        refine gw_cVI0 dL_law_1105 lkL_136 mkX8_fault (ow_rm_law rfl rfl) rfl rfl (ctX8_fault l hc332) rfl ?_
        refine gw_icmp_eq (tgt := 1136) dL_law_1108 rfl (fun h334 => ?_) (fun h334 => ?_)
        · replace h := (if_pos h334).symm.trans h
          refine gw_iinc3 6 dL_law_1136 (by decide) rfl (by decide) ?_
          refine gw_goto (tgt := 18) rfl dL_law_1139 ?_
          exact ih _ _ h
        · replace h := (if_neg h334).symm.trans h
          refine gw_ic0 dL_law_1111 ?_
          exact absurd (Option.some.inj h) (by decide)
      replace h := (if_neg h329).symm.trans h
      by_cases h335 : ((xs x3.toNatClampNeg) &&& 31) = 29
      · replace h := (if_pos h335).symm.trans h
        refine gw_tableIn (tgt := 1113) dL_law_33 (by rw [h335]; decide) (by rw [h335]; decide) (by rw [h335]; rfl) rfl ?_
        refine gw_aload1 dL_law_1113 ?_
        refine gw_aload0 dL_law_1114 ?_
        refine gw_iload3 dL_law_1115 ?_
        refine gw_ic1 dL_law_1116 ?_
        refine gw_iadd dL_law_1117 ?_
        by_cases h336 : ow_inn (x3 + 1) L
        rotate_left
        · replace h := (if_neg h336).symm.trans h
          cases h
        replace h := (if_pos h336).symm.trans h
        refine gw_sld dL_law_1118 h336 ?_
        obtain ⟨v338, hc337, h⟩ := ow_b_some h
        refine gw_cVI1 dL_law_1119 lkL_137 mkX7_many (ow_rm_law rfl rfl) rfl rfl (ctX7_many l hc337) rfl ?_
        refine gw_aload2 dL_law_1122 ?_
        refine gw_aload0 dL_law_1123 ?_
        refine gw_iload3 dL_law_1124 ?_
        refine gw_ic1 dL_law_1125 ?_
        refine gw_iadd dL_law_1126 ?_
        by_cases h339 : ow_inn (x3 + 1) L
        rotate_left
        · replace h := (if_neg h339).symm.trans h
          cases h
        replace h := (if_pos h339).symm.trans h
        refine gw_sld dL_law_1127 h339 ?_
        obtain ⟨v341, hc340, h⟩ := ow_b_some h
        refine gw_cVI1 dL_law_1128 lkL_140 mkX8_many (ow_rm_law rfl rfl) rfl rfl (ctX8_many l hc340) rfl ?_
        refine gw_icmp_eq (tgt := 1136) dL_law_1131 rfl (fun h342 => ?_) (fun h342 => ?_)
        · replace h := (if_pos h342).symm.trans h
          refine gw_iinc3 6 dL_law_1136 (by decide) rfl (by decide) ?_
          refine gw_goto (tgt := 18) rfl dL_law_1139 ?_
          exact ih _ _ h
        · replace h := (if_neg h342).symm.trans h
          refine gw_ic0 dL_law_1134 ?_
          exact absurd (Option.some.inj h) (by decide)
      replace h := (if_neg h335).symm.trans h
      refine gw_tableOut (tgt := 1136) dL_law_33 (ow_outN 30 (by decide) (fun k hk => match k, hk with | 0, _ => h3 | 1, _ => h19 | 2, _ => h29 | 3, _ => h43 | 4, _ => h53 | 5, _ => h65 | 6, _ => h81 | 7, _ => h97 | 8, _ => h105 | 9, _ => h113 | 10, _ => h121 | 11, _ => h139 | 12, _ => h147 | 13, _ => h157 | 14, _ => h169 | 15, _ => h177 | 16, _ => h193 | 17, _ => h203 | 18, _ => h213 | 19, _ => h221 | 20, _ => h235 | 21, _ => h245 | 22, _ => h259 | 23, _ => h273 | 24, _ => h291 | 25, _ => h301 | 26, _ => h311 | 27, _ => h323 | 28, _ => h329 | 29, _ => h335 | q + 30, hq => absurd hq (by omega))) rfl ?_
      refine gw_iinc3 6 dL_law_1136 (by decide) rfl (by decide) ?_
      refine gw_goto (tgt := 18) rfl dL_law_1139 ?_
      exact ih _ _ h

