def fX4_load (x0 : Nat) (x1 : Int32) (M : ow_M) : Option Int32 := (if x1 < 0 then some 0 else (if (M.1 x0 2) ≤ x1 then some 0 else if ow_inn x1 50 then some (M.1 (x0 + 1) x1.toNatClampNeg) else none))
set_option maxRecDepth 100000 in
set_option maxHeartbeats 4000000 in
theorem ctX4_load (l : Launch) {x0 : Nat} {x1 : Int32} {M : ow_M} {r : Int32}  (hS0 : ow_isS x0) (h : fX4_load x0 x1 M = some r) : ow_F l 0 yX4_load cX4_load 2 (some .int) [.ref x0, .int x1] M (some (.int r)) M := by
  unfold fX4_load at h
  refine ow_enterO (own := RX4) rfl (by decide +kernel) rfl (ls := [some (.ref x0), some (.int x1)]) rfl ?_
  refine gw_iload1 dX4_load_0 ?_
  refine gw_if_lt (tgt := 21) dX4_load_1 rfl (fun h1 => ?_) (fun h1 => ?_)
  · replace h := (if_pos h1).symm.trans h
    refine gw_ic0 dX4_load_21 ?_
    have hA := Option.some.inj h
    subst hA
    exact gw_iret dX4_load_22 ⟨rfl, rfl⟩
  · replace h := (if_neg h1).symm.trans h
    refine gw_iload1 dX4_load_4 ?_
    refine gw_aload0 dX4_load_5 ?_
    refine gw_getI dX4_load_6 fkX4_19 hS0.1 rfl ?_
    refine gw_icmp_ge (tgt := 21) dX4_load_9 rfl (fun h2 => ?_) (fun h2 => ?_)
    · replace h := (if_pos h2).symm.trans h
      refine gw_ic0 dX4_load_21 ?_
      have hA := Option.some.inj h
      subst hA
      exact gw_iret dX4_load_22 ⟨rfl, rfl⟩
    · replace h := (if_neg h2).symm.trans h
      refine gw_aload0 dX4_load_12 ?_
      refine gw_getR dX4_load_13 fkX4_22 hS0.1 rfl ?_
      refine gw_iload1 dX4_load_16 ?_
      by_cases h3 : ow_inn x1 50
      rotate_left
      · replace h := (if_neg h3).symm.trans h
        cases h
      replace h := (if_pos h3).symm.trans h
      refine gw_iald dX4_load_17 hS0.2 h3 ?_
      refine gw_goto (tgt := 22) rfl dX4_load_18 ?_
      have hA := Option.some.inj h
      subst hA
      exact gw_iret dX4_load_22 ⟨rfl, rfl⟩

def fX0_kindOf (x0 : Int32) : Option Int32 := (if x0 = 116 then some 2 else (if x0 = 103 then some 1 else some 0))
set_option maxRecDepth 100000 in
set_option maxHeartbeats 4000000 in
theorem ctX0_kindOf (l : Launch) {x0 : Int32} {M : ow_M} {r : Int32}  (h : fX0_kindOf x0 = some r) : ow_F l 0 yX0_kindOf cX0_kindOf 1 (some .int) [.int x0] M (some (.int r)) M := by
  unfold fX0_kindOf at h
  refine ow_enterO (own := RX0) rfl (by decide +kernel) rfl (ls := [some (.int x0)]) rfl ?_
  refine gw_iload0 dX0_kindOf_0 ?_
  refine gw_bipush 116 dX0_kindOf_1 (by decide) ?_
  refine gw_icmp_ne (tgt := 10) dX0_kindOf_3 rfl (fun h1 => ?_) (fun h1 => ?_)
  · replace h := (if_neg h1).symm.trans h
    refine gw_iload0 dX0_kindOf_10 ?_
    refine gw_bipush 103 dX0_kindOf_11 (by decide) ?_
    refine gw_icmp_ne (tgt := 20) dX0_kindOf_13 rfl (fun h2 => ?_) (fun h2 => ?_)
    · replace h := (if_neg h2).symm.trans h
      refine gw_ic0 dX0_kindOf_20 ?_
      have hA := Option.some.inj h
      subst hA
      exact gw_iret dX0_kindOf_21 ⟨rfl, rfl⟩
    · replace h := (if_pos h2).symm.trans h
      refine gw_ic1 dX0_kindOf_16 ?_
      refine gw_goto (tgt := 21) rfl dX0_kindOf_17 ?_
      have hA := Option.some.inj h
      subst hA
      exact gw_iret dX0_kindOf_21 ⟨rfl, rfl⟩
  · replace h := (if_pos h1).symm.trans h
    refine gw_ic2 dX0_kindOf_6 ?_
    refine gw_goto (tgt := 21) rfl dX0_kindOf_7 ?_
    have hA := Option.some.inj h
    subst hA
    exact gw_iret dX0_kindOf_21 ⟨rfl, rfl⟩

def lpX0_takeText_62 (x1 : Nat) (x2 : Int32) (k : Int32 → ow_M → Option ow_M) : Nat → Int32 → ow_M → Option ow_M
  | 0, _, _ => none
  | n + 1, x4, M => (if (M.1 2 0) ≤ x4 then k x4 M else Option.bind (fX4_load x1 (((x2 + 2) + (x4 * 5)) + 1) M) (fun v8 => Option.bind (fX0_kindOf v8) (fun v10 => if ow_inn x4 7 then Option.bind (fX4_load x1 (((x2 + 2) + (x4 * 5)) + 2) (ow_up M 3 x4.toNatClampNeg v10)) (fun v13 => if ow_inn x4 7 then Option.bind (fX4_load x1 (((x2 + 2) + (x4 * 5)) + 3) (ow_up (ow_up M 3 x4.toNatClampNeg v10) 4 x4.toNatClampNeg (v13 - 48))) (fun v16 => if ow_inn x4 7 then Option.bind (fX4_load x1 (((x2 + 2) + (x4 * 5)) + 4) (ow_up (ow_up (ow_up M 3 x4.toNatClampNeg v10) 4 x4.toNatClampNeg (v13 - 48)) 5 x4.toNatClampNeg (v16 - 48))) (fun v19 => if ow_inn x4 7 then lpX0_takeText_62 x1 x2 k n (x4 + 1) (ow_up (ow_up (ow_up (ow_up M 3 x4.toNatClampNeg v10) 4 x4.toNatClampNeg (v13 - 48)) 5 x4.toNatClampNeg (v16 - 48)) 6 x4.toNatClampNeg (v19 - 48)) else none) else none) else none) else none)))
set_option maxRecDepth 100000 in
set_option maxHeartbeats 4000000 in
theorem tlpX0_takeText_62 (l : Launch) {x1 : Nat} {x2 : Int32} {k : Int32 → ow_M → Option ow_M} {M9 : ow_M}  (hS1 : ow_isS x1) (hk : ∀ (x4 : Int32) (M : ow_M), k x4 M = some M9 → ow_G (ow_Γ l 1 none (ow_is none M9)) RX0 cX0_takeText 6 159 [some (.ref 2), some (.ref x1), some (.int x2), none, some (.int x4), none] [] M) : ∀ (n : Nat) (x4 : Int32) (M : ow_M), lpX0_takeText_62 x1 x2 k n x4 M = some M9 → ow_G (ow_Γ l 1 none (ow_is none M9)) RX0 cX0_takeText 6 62 [some (.ref 2), some (.ref x1), some (.int x2), none, some (.int x4), none] [] M := by
  intro n
  induction n with
  | zero => intro _ _ h; cases h
  | succ n ih =>
    intro x4 M h
    unfold lpX0_takeText_62 at h
    refine gw_iload4 dX0_takeText_62 ?_
    refine gw_aload0 dX0_takeText_64 ?_
    refine gw_getI dX0_takeText_65 fkX0_9 rfl rfl ?_
    refine gw_icmp_ge (tgt := 159) dX0_takeText_68 rfl (fun h6 => ?_) (fun h6 => ?_)
    · replace h := (if_pos h6).symm.trans h
      exact hk _ _ h
    · replace h := (if_neg h6).symm.trans h
      refine gw_iload2 dX0_takeText_71 ?_
      refine gw_ic2 dX0_takeText_72 ?_
      refine gw_iadd dX0_takeText_73 ?_
      refine gw_iload4 dX0_takeText_74 ?_
      refine gw_ic5 dX0_takeText_76 ?_
      refine gw_imul dX0_takeText_77 ?_
      refine gw_iadd dX0_takeText_78 ?_
      refine gw_istore5 dX0_takeText_79 (by decide) rfl ?_
      refine gw_aload0 dX0_takeText_81 ?_
      refine gw_getR dX0_takeText_82 fkX0_22 rfl rfl ?_
      refine gw_iload4 dX0_takeText_85 ?_
      refine gw_aload1 dX0_takeText_87 ?_
      refine gw_iload5 dX0_takeText_88 ?_
      refine gw_ic1 dX0_takeText_90 ?_
      refine gw_iadd dX0_takeText_91 ?_
      obtain ⟨v8, hc7, h⟩ := ow_b_some h
      refine gw_cVI1 dX0_takeText_92 lkX0_39 mkX4_load (ow_rm_in rfl rfl) hS1.1 rfl (ctX4_load l hS1 hc7) rfl ?_
      obtain ⟨v10, hc9, h⟩ := ow_b_some h
      refine gw_cSI1 dX0_takeText_95 lkX0_51 mkX0_kindOf (ow_rm_in rfl rfl) (ctX0_kindOf l hc9) rfl ?_
      by_cases h11 : ow_inn x4 7
      rotate_left
      · replace h := (if_neg h11).symm.trans h
        cases h
      replace h := (if_pos h11).symm.trans h
      refine gw_iast dX0_takeText_98 rfl h11 ?_
      refine gw_aload0 dX0_takeText_99 ?_
      refine gw_getR dX0_takeText_100 fkX0_26 rfl rfl ?_
      refine gw_iload4 dX0_takeText_103 ?_
      refine gw_aload1 dX0_takeText_105 ?_
      refine gw_iload5 dX0_takeText_106 ?_
      refine gw_ic2 dX0_takeText_108 ?_
      refine gw_iadd dX0_takeText_109 ?_
      obtain ⟨v13, hc12, h⟩ := ow_b_some h
      refine gw_cVI1 dX0_takeText_110 lkX0_39 mkX4_load (ow_rm_in rfl rfl) hS1.1 rfl (ctX4_load l hS1 hc12) rfl ?_
      refine gw_bipush 48 dX0_takeText_113 (by decide) ?_
      refine gw_isub dX0_takeText_115 ?_
      by_cases h14 : ow_inn x4 7
      rotate_left
      · replace h := (if_neg h14).symm.trans h
        cases h
      replace h := (if_pos h14).symm.trans h
      refine gw_iast dX0_takeText_116 rfl h14 ?_
      refine gw_aload0 dX0_takeText_117 ?_
      refine gw_getR dX0_takeText_118 fkX0_29 rfl rfl ?_
      refine gw_iload4 dX0_takeText_121 ?_
      refine gw_aload1 dX0_takeText_123 ?_
      refine gw_iload5 dX0_takeText_124 ?_
      refine gw_ic3 dX0_takeText_126 ?_
      refine gw_iadd dX0_takeText_127 ?_
      obtain ⟨v16, hc15, h⟩ := ow_b_some h
      refine gw_cVI1 dX0_takeText_128 lkX0_39 mkX4_load (ow_rm_in rfl rfl) hS1.1 rfl (ctX4_load l hS1 hc15) rfl ?_
      refine gw_bipush 48 dX0_takeText_131 (by decide) ?_
      refine gw_isub dX0_takeText_133 ?_
      by_cases h17 : ow_inn x4 7
      rotate_left
      · replace h := (if_neg h17).symm.trans h
        cases h
      replace h := (if_pos h17).symm.trans h
      refine gw_iast dX0_takeText_134 rfl h17 ?_
      refine gw_aload0 dX0_takeText_135 ?_
      refine gw_getR dX0_takeText_136 fkX0_32 rfl rfl ?_
      refine gw_iload4 dX0_takeText_139 ?_
      refine gw_aload1 dX0_takeText_141 ?_
      refine gw_iload5 dX0_takeText_142 ?_
      refine gw_ic4 dX0_takeText_144 ?_
      refine gw_iadd dX0_takeText_145 ?_
      obtain ⟨v19, hc18, h⟩ := ow_b_some h
      refine gw_cVI1 dX0_takeText_146 lkX0_39 mkX4_load (ow_rm_in rfl rfl) hS1.1 rfl (ctX4_load l hS1 hc18) rfl ?_
      refine gw_bipush 48 dX0_takeText_149 (by decide) ?_
      refine gw_isub dX0_takeText_151 ?_
      by_cases h20 : ow_inn x4 7
      rotate_left
      · replace h := (if_neg h20).symm.trans h
        cases h
      replace h := (if_pos h20).symm.trans h
      refine gw_iast dX0_takeText_152 rfl h20 ?_
      refine gw_iinc4 1 dX0_takeText_153 (by decide) rfl (by decide) ?_
      refine gw_goto (tgt := 62) rfl dX0_takeText_156 ?_
      refine gw_drp5 ?_
      exact ih _ _ h

def lpX0_takeText_162  (k : Int32 → ow_M → Option ow_M) : Nat → Int32 → ow_M → Option ow_M
  | 0, _, _ => none
  | n + 1, x4, M => (if 7 ≤ x4 then k x4 M else if ow_inn x4 7 then lpX0_takeText_162  k n (x4 + 1) (ow_up M 7 x4.toNatClampNeg (vp_nar .boolean 0)) else none)
set_option maxRecDepth 100000 in
set_option maxHeartbeats 4000000 in
theorem tlpX0_takeText_162 (l : Launch)  {k : Int32 → ow_M → Option ow_M} {M9 : ow_M}  (hk : ∀ (x4 : Int32) (M : ow_M), k x4 M = some M9 → ow_G (ow_Γ l 1 none (ow_is none M9)) RX0 cX0_takeText 6 186 [some (.ref 2), none, none, none, some (.int x4), none] [] M) : ∀ (n : Nat) (x4 : Int32) (M : ow_M), lpX0_takeText_162  k n x4 M = some M9 → ow_G (ow_Γ l 1 none (ow_is none M9)) RX0 cX0_takeText 6 162 [some (.ref 2), none, none, none, some (.int x4), none] [] M := by
  intro n
  induction n with
  | zero => intro _ _ h; cases h
  | succ n ih =>
    intro x4 M h
    unfold lpX0_takeText_162 at h
    refine gw_iload4 dX0_takeText_162 ?_
    refine gw_aload0 dX0_takeText_164 ?_
    refine gw_getR dX0_takeText_165 fkX0_35 rfl rfl ?_
    refine gw_alen 7 dX0_takeText_168 rfl rfl (by decide) ?_
    refine gw_icmp_ge (tgt := 186) dX0_takeText_169 rfl (fun h23 => ?_) (fun h23 => ?_)
    · replace h := (if_pos h23).symm.trans h
      exact hk _ _ h
    · replace h := (if_neg h23).symm.trans h
      refine gw_aload0 dX0_takeText_172 ?_
      refine gw_getR dX0_takeText_173 fkX0_35 rfl rfl ?_
      refine gw_iload4 dX0_takeText_176 ?_
      refine gw_ic0 dX0_takeText_178 ?_
      by_cases h24 : ow_inn x4 7
      rotate_left
      · replace h := (if_neg h24).symm.trans h
        cases h
      replace h := (if_pos h24).symm.trans h
      refine gw_zast dX0_takeText_179 rfl h24 ?_
      refine gw_iinc4 1 dX0_takeText_180 (by decide) rfl (by decide) ?_
      refine gw_goto (tgt := 162) rfl dX0_takeText_183 ?_
      exact ih _ _ h

def jX0_takeText_56 (x1 : Nat) (x2 : Int32) (s1 : Int32) (M : ow_M) : Option ow_M := lpX0_takeText_62 x1 x2 (fun u21 M22 => lpX0_takeText_162 (fun u25 M26 => some M26) ow_N 0 M22) ow_N 0 (ow_up M 2 1 s1)
set_option maxRecDepth 100000 in
set_option maxHeartbeats 4000000 in
theorem tjX0_takeText_56 (l : Launch) {x1 : Nat} {x2 : Int32} {s1 : Int32} {M : ow_M} {M9 : ow_M}  (hS1 : ow_isS x1) (h : jX0_takeText_56 x1 x2 s1 M = some M9) : ow_G (ow_Γ l 1 none (ow_is none M9)) RX0 cX0_takeText 6 56 [some (.ref 2), some (.ref x1), some (.int x2), none, none, none] [.int s1, .ref 2] M := by
  unfold jX0_takeText_56 at h
  refine gw_putI dX0_takeText_56 fkX0_15 fp0_1 rfl rfl ?_
  refine gw_ic0 dX0_takeText_59 ?_
  refine gw_istore4 dX0_takeText_60 (by decide) rfl ?_
  refine tlpX0_takeText_62 l hS1 ?_ _ _ _ h
  intro u21 M22 h
  refine gw_ic0 dX0_takeText_159 ?_
  refine gw_istore4 dX0_takeText_160 (by decide) rfl ?_
  refine gw_drp1 ?_
  refine gw_drp2 ?_
  refine tlpX0_takeText_162 l ?_ _ _ _ h
  intro u25 M26 h
  have hA := Option.some.inj h
  subst hA
  exact gw_vret dX0_takeText_186 ⟨rfl, rfl⟩

def jX0_takeText_18 (x1 : Nat) (x2 : Int32) (x3 : Int32) (s1 : Int32) (M : ow_M) : Option ow_M := if s1 = 0 ∨ s1 = 1 then (if ((ow_up (ow_up M 2 2 s1) 2 0 (if 7 < ((x3 - 2) / 5) then 7 else ((x3 - 2) / 5))).1 2 2) = 0 then jX0_takeText_56 x1 x2 (((ow_up (ow_up M 2 2 s1) 2 0 (if 7 < ((x3 - 2) / 5) then 7 else ((x3 - 2) / 5))).1 2 0) - 1) (ow_up (ow_up M 2 2 s1) 2 0 (if 7 < ((x3 - 2) / 5) then 7 else ((x3 - 2) / 5))) else jX0_takeText_56 x1 x2 ((ow_up (ow_up M 2 2 s1) 2 0 (if 7 < ((x3 - 2) / 5) then 7 else ((x3 - 2) / 5))).1 2 0) (ow_up (ow_up M 2 2 s1) 2 0 (if 7 < ((x3 - 2) / 5) then 7 else ((x3 - 2) / 5)))) else none
set_option maxRecDepth 100000 in
set_option maxHeartbeats 4000000 in
theorem tjX0_takeText_18 (l : Launch) {x1 : Nat} {x2 : Int32} {x3 : Int32} {s1 : Int32} {M : ow_M} {M9 : ow_M}  (hS1 : ow_isS x1) (h : jX0_takeText_18 x1 x2 x3 s1 M = some M9) : ow_G (ow_Γ l 1 none (ow_is none M9)) RX0 cX0_takeText 6 18 [some (.ref 2), some (.ref x1), some (.int x2), some (.int x3), none, none] [.int s1, .ref 2] M := by
  unfold jX0_takeText_18 at h
  by_cases h4 : s1 = 0 ∨ s1 = 1
  rotate_left
  · replace h := (if_neg h4).symm.trans h
    cases h
  replace h := (if_pos h4).symm.trans h
  refine gw_putZ dX0_takeText_18 fkX0_18 fp0_2 rfl rfl h4 ?_
  refine gw_aload0 dX0_takeText_21 ?_
  refine gw_iload3 dX0_takeText_22 ?_
  refine gw_ic2 dX0_takeText_23 ?_
  refine gw_isub dX0_takeText_24 ?_
  refine gw_ic5 dX0_takeText_25 ?_
  refine gw_idiv (by decide) dX0_takeText_26 ?_
  refine gw_bipush 7 dX0_takeText_27 (by decide) ?_
  refine gw_mmin (l0 := l) dX0_takeText_29 lkX0_45 mk_min.1 mk_min.2.1 mk_min.2.2 (ow_rm_in rfl rfl) (Nat.le_of_ble_eq_true rfl) ?_
  refine gw_putI dX0_takeText_32 fkX0_9 fp0_0 rfl rfl ?_
  refine gw_aload0 dX0_takeText_35 ?_
  refine gw_aload0 dX0_takeText_36 ?_
  refine gw_getI dX0_takeText_37 fkX0_18 rfl rfl ?_
  refine gw_if_eq (tgt := 50) dX0_takeText_40 rfl (fun h5 => ?_) (fun h5 => ?_)
  · replace h := (if_pos h5).symm.trans h
    refine gw_aload0 dX0_takeText_50 ?_
    refine gw_getI dX0_takeText_51 fkX0_9 rfl rfl ?_
    refine gw_ic1 dX0_takeText_54 ?_
    refine gw_isub dX0_takeText_55 ?_
    refine gw_drp3 ?_
    exact tjX0_takeText_56 l hS1 h
  · replace h := (if_neg h5).symm.trans h
    refine gw_aload0 dX0_takeText_43 ?_
    refine gw_getI dX0_takeText_44 fkX0_9 rfl rfl ?_
    refine gw_goto (tgt := 56) rfl dX0_takeText_47 ?_
    refine gw_drp3 ?_
    exact tjX0_takeText_56 l hS1 h

def fX0_takeText (x1 : Nat) (x2 : Int32) (x3 : Int32) (M : ow_M) : Option ow_M := Option.bind (fX4_load x1 (x2 + 1) M) (fun v2 => (if v2 = 49 then jX0_takeText_18 x1 x2 x3 1 M else jX0_takeText_18 x1 x2 x3 0 M))
set_option maxRecDepth 100000 in
set_option maxHeartbeats 4000000 in
theorem ctX0_takeText (l : Launch) {x1 : Nat} {x2 : Int32} {x3 : Int32} {M : ow_M} {M9 : ow_M}  (hS1 : ow_isS x1) (h : fX0_takeText x1 x2 x3 M = some M9) : ow_F l 1 yX0_takeText cX0_takeText 6 none [.ref 2, .ref x1, .int x2, .int x3] M none M9 := by
  unfold fX0_takeText at h
  refine ow_enterO (own := RX0) rfl (by decide +kernel) rfl (ls := [some (.ref 2), some (.ref x1), some (.int x2), some (.int x3), none, none]) rfl ?_
  refine gw_aload0 dX0_takeText_0 ?_
  refine gw_aload1 dX0_takeText_1 ?_
  refine gw_iload2 dX0_takeText_2 ?_
  refine gw_ic1 dX0_takeText_3 ?_
  refine gw_iadd dX0_takeText_4 ?_
  obtain ⟨v2, hc1, h⟩ := ow_b_some h
  refine gw_cVI1 dX0_takeText_5 lkX0_39 mkX4_load (ow_rm_in rfl rfl) hS1.1 rfl (ctX4_load l hS1 hc1) rfl ?_
  refine gw_bipush 49 dX0_takeText_8 (by decide) ?_
  refine gw_icmp_ne (tgt := 17) dX0_takeText_10 rfl (fun h3 => ?_) (fun h3 => ?_)
  · replace h := (if_neg h3).symm.trans h
    refine gw_ic0 dX0_takeText_17 ?_
    exact tjX0_takeText_18 l hS1 h
  · replace h := (if_pos h3).symm.trans h
    refine gw_ic1 dX0_takeText_13 ?_
    refine gw_goto (tgt := 18) rfl dX0_takeText_14 ?_
    exact tjX0_takeText_18 l hS1 h

def fX0_isPerson (x1 : Int32) (M : ow_M) : Option Int32 := (if x1 < 0 then some 0 else (if (M.1 2 0) ≤ x1 then some 0 else some 1))
set_option maxRecDepth 100000 in
set_option maxHeartbeats 4000000 in
theorem ctX0_isPerson (l : Launch) {x1 : Int32} {M : ow_M} {r : Int32}  (h : fX0_isPerson x1 M = some r) : ow_F l 0 yX0_isPerson cX0_isPerson 2 (some .boolean) [.ref 2, .int x1] M (some (.int r)) M := by
  unfold fX0_isPerson at h
  refine ow_enterO (own := RX0) rfl (by decide +kernel) rfl (ls := [some (.ref 2), some (.int x1)]) rfl ?_
  refine gw_iload1 dX0_isPerson_0 ?_
  refine gw_if_lt (tgt := 16) dX0_isPerson_1 rfl (fun h1 => ?_) (fun h1 => ?_)
  · replace h := (if_pos h1).symm.trans h
    refine gw_ic0 dX0_isPerson_16 ?_
    have hA := Option.some.inj h
    subst hA
    exact gw_zret (Or.inl rfl) dX0_isPerson_17 ⟨rfl, rfl⟩
  · replace h := (if_neg h1).symm.trans h
    refine gw_iload1 dX0_isPerson_4 ?_
    refine gw_aload0 dX0_isPerson_5 ?_
    refine gw_getI dX0_isPerson_6 fkX0_9 rfl rfl ?_
    refine gw_icmp_ge (tgt := 16) dX0_isPerson_9 rfl (fun h2 => ?_) (fun h2 => ?_)
    · replace h := (if_pos h2).symm.trans h
      refine gw_ic0 dX0_isPerson_16 ?_
      have hA := Option.some.inj h
      subst hA
      exact gw_zret (Or.inl rfl) dX0_isPerson_17 ⟨rfl, rfl⟩
    · replace h := (if_neg h2).symm.trans h
      refine gw_ic1 dX0_isPerson_12 ?_
      refine gw_goto (tgt := 17) rfl dX0_isPerson_13 ?_
      have hA := Option.some.inj h
      subst hA
      exact gw_zret (Or.inr rfl) dX0_isPerson_17 ⟨rfl, rfl⟩

def fX0_isEdge (x1 : Int32) (M : ow_M) : Option Int32 := (if x1 < 0 then some 0 else (if (M.1 2 1) ≤ x1 then some 0 else some 1))
set_option maxRecDepth 100000 in
set_option maxHeartbeats 4000000 in
theorem ctX0_isEdge (l : Launch) {x1 : Int32} {M : ow_M} {r : Int32}  (h : fX0_isEdge x1 M = some r) : ow_F l 0 yX0_isEdge cX0_isEdge 2 (some .boolean) [.ref 2, .int x1] M (some (.int r)) M := by
  unfold fX0_isEdge at h
  refine ow_enterO (own := RX0) rfl (by decide +kernel) rfl (ls := [some (.ref 2), some (.int x1)]) rfl ?_
  refine gw_iload1 dX0_isEdge_0 ?_
  refine gw_if_lt (tgt := 16) dX0_isEdge_1 rfl (fun h1 => ?_) (fun h1 => ?_)
  · replace h := (if_pos h1).symm.trans h
    refine gw_ic0 dX0_isEdge_16 ?_
    have hA := Option.some.inj h
    subst hA
    exact gw_zret (Or.inl rfl) dX0_isEdge_17 ⟨rfl, rfl⟩
  · replace h := (if_neg h1).symm.trans h
    refine gw_iload1 dX0_isEdge_4 ?_
    refine gw_aload0 dX0_isEdge_5 ?_
    refine gw_getI dX0_isEdge_6 fkX0_15 rfl rfl ?_
    refine gw_icmp_ge (tgt := 16) dX0_isEdge_9 rfl (fun h2 => ?_) (fun h2 => ?_)
    · replace h := (if_pos h2).symm.trans h
      refine gw_ic0 dX0_isEdge_16 ?_
      have hA := Option.some.inj h
      subst hA
      exact gw_zret (Or.inl rfl) dX0_isEdge_17 ⟨rfl, rfl⟩
    · replace h := (if_neg h2).symm.trans h
      refine gw_ic1 dX0_isEdge_12 ?_
      refine gw_goto (tgt := 17) rfl dX0_isEdge_13 ?_
      have hA := Option.some.inj h
      subst hA
      exact gw_zret (Or.inr rfl) dX0_isEdge_17 ⟨rfl, rfl⟩

def fX0_rightEnd (x1 : Int32) (M : ow_M) : Option Int32 := (if (M.1 2 0) ≤ (x1 + 1) then some 0 else some (x1 + 1))
set_option maxRecDepth 100000 in
set_option maxHeartbeats 4000000 in
theorem ctX0_rightEnd (l : Launch) {x1 : Int32} {M : ow_M} {r : Int32}  (h : fX0_rightEnd x1 M = some r) : ow_F l 0 yX0_rightEnd cX0_rightEnd 2 (some .int) [.ref 2, .int x1] M (some (.int r)) M := by
  unfold fX0_rightEnd at h
  refine ow_enterO (own := RX0) rfl (by decide +kernel) rfl (ls := [some (.ref 2), some (.int x1)]) rfl ?_
  refine gw_iload1 dX0_rightEnd_0 ?_
  refine gw_ic1 dX0_rightEnd_1 ?_
  refine gw_iadd dX0_rightEnd_2 ?_
  refine gw_aload0 dX0_rightEnd_3 ?_
  refine gw_getI dX0_rightEnd_4 fkX0_9 rfl rfl ?_
  refine gw_icmp_ge (tgt := 16) dX0_rightEnd_7 rfl (fun h1 => ?_) (fun h1 => ?_)
  · replace h := (if_pos h1).symm.trans h
    refine gw_ic0 dX0_rightEnd_16 ?_
    have hA := Option.some.inj h
    subst hA
    exact gw_iret dX0_rightEnd_17 ⟨rfl, rfl⟩
  · replace h := (if_neg h1).symm.trans h
    refine gw_iload1 dX0_rightEnd_10 ?_
    refine gw_ic1 dX0_rightEnd_11 ?_
    refine gw_iadd dX0_rightEnd_12 ?_
    refine gw_goto (tgt := 17) rfl dX0_rightEnd_13 ?_
    have hA := Option.some.inj h
    subst hA
    exact gw_iret dX0_rightEnd_17 ⟨rfl, rfl⟩

def fX0_changeGoods (x1 : Int32) (M : ow_M) : Option ow_M := Option.bind (fX0_isEdge x1 M) (fun v2 => (if v2 = 0 then some M else Option.bind (fX0_rightEnd x1 M) (fun v5 => if ow_inn x1 7 then if ow_inn v5 7 then if ow_inn x1 7 then if ow_inn v5 7 then some (ow_up (ow_up M 5 x1.toNatClampNeg (M.1 5 v5.toNatClampNeg)) 5 v5.toNatClampNeg (M.1 5 x1.toNatClampNeg)) else none else none else none else none)))
set_option maxRecDepth 100000 in
set_option maxHeartbeats 4000000 in
theorem ctX0_changeGoods (l : Launch) {x1 : Int32} {M : ow_M} {M9 : ow_M}  (h : fX0_changeGoods x1 M = some M9) : ow_F l 1 yX0_changeGoods cX0_changeGoods 4 none [.ref 2, .int x1] M none M9 := by
  unfold fX0_changeGoods at h
  refine ow_enterO (own := RX0) rfl (by decide +kernel) rfl (ls := [some (.ref 2), some (.int x1), none, none]) rfl ?_
  refine gw_aload0 dX0_changeGoods_0 ?_
  refine gw_iload1 dX0_changeGoods_1 ?_
  obtain ⟨v2, hc1, h⟩ := ow_b_some h
  refine gw_cVI1 dX0_changeGoods_2 lkX0_54 mkX0_isEdge (ow_rm_in rfl rfl) rfl rfl (ctX0_isEdge l hc1) rfl ?_
  refine gw_if_eq (tgt := 40) dX0_changeGoods_5 rfl (fun h3 => ?_) (fun h3 => ?_)
  · replace h := (if_pos h3).symm.trans h
    have hA := Option.some.inj h
    subst hA
    exact gw_vret dX0_changeGoods_40 ⟨rfl, rfl⟩
  · replace h := (if_neg h3).symm.trans h
    refine gw_aload0 dX0_changeGoods_8 ?_
    refine gw_iload1 dX0_changeGoods_9 ?_
    obtain ⟨v5, hc4, h⟩ := ow_b_some h
    refine gw_cVI1 dX0_changeGoods_10 lkX0_58 mkX0_rightEnd (ow_rm_in rfl rfl) rfl rfl (ctX0_rightEnd l hc4) rfl ?_
    refine gw_istore2 dX0_changeGoods_13 (by decide) rfl ?_
    refine gw_aload0 dX0_changeGoods_14 ?_
    refine gw_getR dX0_changeGoods_15 fkX0_29 rfl rfl ?_
    refine gw_iload1 dX0_changeGoods_18 ?_
    by_cases h6 : ow_inn x1 7
    rotate_left
    · replace h := (if_neg h6).symm.trans h
      cases h
    replace h := (if_pos h6).symm.trans h
    refine gw_iald dX0_changeGoods_19 rfl h6 ?_
    refine gw_istore3 dX0_changeGoods_20 (by decide) rfl ?_
    refine gw_aload0 dX0_changeGoods_21 ?_
    refine gw_getR dX0_changeGoods_22 fkX0_29 rfl rfl ?_
    refine gw_iload1 dX0_changeGoods_25 ?_
    refine gw_aload0 dX0_changeGoods_26 ?_
    refine gw_getR dX0_changeGoods_27 fkX0_29 rfl rfl ?_
    refine gw_iload2 dX0_changeGoods_30 ?_
    by_cases h7 : ow_inn v5 7
    rotate_left
    · replace h := (if_neg h7).symm.trans h
      cases h
    replace h := (if_pos h7).symm.trans h
    refine gw_iald dX0_changeGoods_31 rfl h7 ?_
    by_cases h8 : ow_inn x1 7
    rotate_left
    · replace h := (if_neg h8).symm.trans h
      cases h
    replace h := (if_pos h8).symm.trans h
    refine gw_iast dX0_changeGoods_32 rfl h8 ?_
    refine gw_aload0 dX0_changeGoods_33 ?_
    refine gw_getR dX0_changeGoods_34 fkX0_29 rfl rfl ?_
    refine gw_iload2 dX0_changeGoods_37 ?_
    refine gw_iload3 dX0_changeGoods_38 ?_
    by_cases h9 : ow_inn v5 7
    rotate_left
    · replace h := (if_neg h9).symm.trans h
      cases h
    replace h := (if_pos h9).symm.trans h
    refine gw_iast dX0_changeGoods_39 rfl h9 ?_
    have hA := Option.some.inj h
    subst hA
    exact gw_vret dX0_changeGoods_40 ⟨rfl, rfl⟩

def fX0_altered (x1 : Int32) (x2 : Int32) (M : ow_M) : Option Int32 := Option.bind (fX0_isPerson x1 M) (fun v2 => (if v2 = 0 then some x2 else if ow_inn x1 7 then (if (M.1 3 x1.toNatClampNeg) = 0 then some x2 else if ow_inn x1 7 then if ow_inn x1 7 then (if (M.1 3 x1.toNatClampNeg) = 2 then some ((2 * ((x2 + (M.1 4 x1.toNatClampNeg)) - (x2 + (M.1 4 x1.toNatClampNeg)) / 100 * 100)) - (2 * ((x2 + (M.1 4 x1.toNatClampNeg)) - (x2 + (M.1 4 x1.toNatClampNeg)) / 100 * 100)) / 100 * 100) else some ((x2 + (M.1 4 x1.toNatClampNeg)) - (x2 + (M.1 4 x1.toNatClampNeg)) / 100 * 100)) else none else none) else none))
set_option maxRecDepth 100000 in
set_option maxHeartbeats 4000000 in
theorem ctX0_altered (l : Launch) {x1 : Int32} {x2 : Int32} {M : ow_M} {r : Int32}  (h : fX0_altered x1 x2 M = some r) : ow_F l 1 yX0_altered cX0_altered 4 (some .int) [.ref 2, .int x1, .int x2] M (some (.int r)) M := by
  unfold fX0_altered at h
  refine ow_enterO (own := RX0) rfl (by decide +kernel) rfl (ls := [some (.ref 2), some (.int x1), some (.int x2), none]) rfl ?_
  refine gw_aload0 dX0_altered_0 ?_
  refine gw_iload1 dX0_altered_1 ?_
  obtain ⟨v2, hc1, h⟩ := ow_b_some h
  refine gw_cVI1 dX0_altered_2 lkX0_64 mkX0_isPerson (ow_rm_in rfl rfl) rfl rfl (ctX0_isPerson l hc1) rfl ?_
  refine gw_if_eq (tgt := 17) dX0_altered_5 rfl (fun h3 => ?_) (fun h3 => ?_)
  · replace h := (if_pos h3).symm.trans h
    refine gw_iload2 dX0_altered_17 ?_
    have hA := Option.some.inj h
    subst hA
    exact gw_iret dX0_altered_18 ⟨rfl, rfl⟩
  · replace h := (if_neg h3).symm.trans h
    refine gw_aload0 dX0_altered_8 ?_
    refine gw_getR dX0_altered_9 fkX0_22 rfl rfl ?_
    refine gw_iload1 dX0_altered_12 ?_
    by_cases h4 : ow_inn x1 7
    rotate_left
    · replace h := (if_neg h4).symm.trans h
      cases h
    replace h := (if_pos h4).symm.trans h
    refine gw_iald dX0_altered_13 rfl h4 ?_
    refine gw_if_ne (tgt := 19) dX0_altered_14 rfl (fun h5 => ?_) (fun h5 => ?_)
    · replace h := (if_neg h5).symm.trans h
      refine gw_iload2 dX0_altered_19 ?_
      refine gw_aload0 dX0_altered_20 ?_
      refine gw_getR dX0_altered_21 fkX0_26 rfl rfl ?_
      refine gw_iload1 dX0_altered_24 ?_
      by_cases h6 : ow_inn x1 7
      rotate_left
      · replace h := (if_neg h6).symm.trans h
        cases h
      replace h := (if_pos h6).symm.trans h
      refine gw_iald dX0_altered_25 rfl h6 ?_
      refine gw_iadd dX0_altered_26 ?_
      refine gw_bipush 100 dX0_altered_27 (by decide) ?_
      refine gw_irem (by decide) dX0_altered_29 ?_
      refine gw_istore3 dX0_altered_30 (by decide) rfl ?_
      refine gw_aload0 dX0_altered_31 ?_
      refine gw_getR dX0_altered_32 fkX0_22 rfl rfl ?_
      refine gw_iload1 dX0_altered_35 ?_
      by_cases h7 : ow_inn x1 7
      rotate_left
      · replace h := (if_neg h7).symm.trans h
        cases h
      replace h := (if_pos h7).symm.trans h
      refine gw_iald dX0_altered_36 rfl h7 ?_
      refine gw_ic2 dX0_altered_37 ?_
      refine gw_icmp_ne (tgt := 50) dX0_altered_38 rfl (fun h8 => ?_) (fun h8 => ?_)
      · replace h := (if_neg h8).symm.trans h
        refine gw_iload3 dX0_altered_50 ?_
        have hA := Option.some.inj h
        subst hA
        exact gw_iret dX0_altered_51 ⟨rfl, rfl⟩
      · replace h := (if_pos h8).symm.trans h
        refine gw_ic2 dX0_altered_41 ?_
        refine gw_iload3 dX0_altered_42 ?_
        refine gw_imul dX0_altered_43 ?_
        refine gw_bipush 100 dX0_altered_44 (by decide) ?_
        refine gw_irem (by decide) dX0_altered_46 ?_
        refine gw_goto (tgt := 51) rfl dX0_altered_47 ?_
        have hA := Option.some.inj h
        subst hA
        exact gw_iret dX0_altered_51 ⟨rfl, rfl⟩
    · replace h := (if_pos h5).symm.trans h
      refine gw_iload2 dX0_altered_17 ?_
      have hA := Option.some.inj h
      subst hA
      exact gw_iret dX0_altered_18 ⟨rfl, rfl⟩

def fX0_edgeOnLeft (x1 : Int32) (M : ow_M) : Option Int32 := (if x1 ≤ 0 then some ((M.1 2 0) - 1) else some (x1 - 1))
set_option maxRecDepth 100000 in
set_option maxHeartbeats 4000000 in
theorem ctX0_edgeOnLeft (l : Launch) {x1 : Int32} {M : ow_M} {r : Int32}  (h : fX0_edgeOnLeft x1 M = some r) : ow_F l 0 yX0_edgeOnLeft cX0_edgeOnLeft 2 (some .int) [.ref 2, .int x1] M (some (.int r)) M := by
  unfold fX0_edgeOnLeft at h
  refine ow_enterO (own := RX0) rfl (by decide +kernel) rfl (ls := [some (.ref 2), some (.int x1)]) rfl ?_
  refine gw_iload1 dX0_edgeOnLeft_0 ?_
  refine gw_if_le (tgt := 10) dX0_edgeOnLeft_1 rfl (fun h1 => ?_) (fun h1 => ?_)
  · replace h := (if_pos h1).symm.trans h
    refine gw_aload0 dX0_edgeOnLeft_10 ?_
    refine gw_getI dX0_edgeOnLeft_11 fkX0_9 rfl rfl ?_
    refine gw_ic1 dX0_edgeOnLeft_14 ?_
    refine gw_isub dX0_edgeOnLeft_15 ?_
    have hA := Option.some.inj h
    subst hA
    exact gw_iret dX0_edgeOnLeft_16 ⟨rfl, rfl⟩
  · replace h := (if_neg h1).symm.trans h
    refine gw_iload1 dX0_edgeOnLeft_4 ?_
    refine gw_ic1 dX0_edgeOnLeft_5 ?_
    refine gw_isub dX0_edgeOnLeft_6 ?_
    refine gw_goto (tgt := 16) rfl dX0_edgeOnLeft_7 ?_
    have hA := Option.some.inj h
    subst hA
    exact gw_iret dX0_edgeOnLeft_16 ⟨rfl, rfl⟩

def fX0_isOpen (x1 : Int32) (M : ow_M) : Option Int32 := Option.bind (fX0_isEdge x1 M) (fun v2 => (if v2 = 0 then some 0 else if ow_inn x1 7 then (if (M.1 7 x1.toNatClampNeg) = 0 then some 1 else some 0) else none))
set_option maxRecDepth 100000 in
set_option maxHeartbeats 4000000 in
theorem ctX0_isOpen (l : Launch) {x1 : Int32} {M : ow_M} {r : Int32}  (h : fX0_isOpen x1 M = some r) : ow_F l 1 yX0_isOpen cX0_isOpen 2 (some .boolean) [.ref 2, .int x1] M (some (.int r)) M := by
  unfold fX0_isOpen at h
  refine ow_enterO (own := RX0) rfl (by decide +kernel) rfl (ls := [some (.ref 2), some (.int x1)]) rfl ?_
  refine gw_aload0 dX0_isOpen_0 ?_
  refine gw_iload1 dX0_isOpen_1 ?_
  obtain ⟨v2, hc1, h⟩ := ow_b_some h
  refine gw_cVI1 dX0_isOpen_2 lkX0_54 mkX0_isEdge (ow_rm_in rfl rfl) rfl rfl (ctX0_isEdge l hc1) rfl ?_
  refine gw_if_eq (tgt := 21) dX0_isOpen_5 rfl (fun h3 => ?_) (fun h3 => ?_)
  · replace h := (if_pos h3).symm.trans h
    refine gw_ic0 dX0_isOpen_21 ?_
    have hA := Option.some.inj h
    subst hA
    exact gw_zret (Or.inl rfl) dX0_isOpen_22 ⟨rfl, rfl⟩
  · replace h := (if_neg h3).symm.trans h
    refine gw_aload0 dX0_isOpen_8 ?_
    refine gw_getR dX0_isOpen_9 fkX0_35 rfl rfl ?_
    refine gw_iload1 dX0_isOpen_12 ?_
    by_cases h4 : ow_inn x1 7
    rotate_left
    · replace h := (if_neg h4).symm.trans h
      cases h
    replace h := (if_pos h4).symm.trans h
    refine gw_zald dX0_isOpen_13 rfl h4 ?_
    refine gw_if_ne (tgt := 21) dX0_isOpen_14 rfl (fun h5 => ?_) (fun h5 => ?_)
    · replace h := (if_neg h5).symm.trans h
      refine gw_ic0 dX0_isOpen_21 ?_
      have hA := Option.some.inj h
      subst hA
      exact gw_zret (Or.inl rfl) dX0_isOpen_22 ⟨rfl, rfl⟩
    · replace h := (if_pos h5).symm.trans h
      refine gw_ic1 dX0_isOpen_17 ?_
      refine gw_goto (tgt := 22) rfl dX0_isOpen_18 ?_
      have hA := Option.some.inj h
      subst hA
      exact gw_zret (Or.inr rfl) dX0_isOpen_22 ⟨rfl, rfl⟩

def fX0_isThere  (M : ow_M) : Option Int32 := (if (M.1 2 0) ≤ 0 then some 0 else some 1)
set_option maxRecDepth 100000 in
set_option maxHeartbeats 4000000 in
theorem ctX0_isThere (l : Launch)  {M : ow_M} {r : Int32}  (h : fX0_isThere M = some r) : ow_F l 0 yX0_isThere cX0_isThere 1 (some .boolean) [.ref 2] M (some (.int r)) M := by
  unfold fX0_isThere at h
  refine ow_enterO (own := RX0) rfl (by decide +kernel) rfl (ls := [some (.ref 2)]) rfl ?_
  refine gw_aload0 dX0_isThere_0 ?_
  refine gw_getI dX0_isThere_1 fkX0_9 rfl rfl ?_
  refine gw_if_le (tgt := 11) dX0_isThere_4 rfl (fun h1 => ?_) (fun h1 => ?_)
  · replace h := (if_pos h1).symm.trans h
    refine gw_ic0 dX0_isThere_11 ?_
    have hA := Option.some.inj h
    subst hA
    exact gw_zret (Or.inl rfl) dX0_isThere_12 ⟨rfl, rfl⟩
  · replace h := (if_neg h1).symm.trans h
    refine gw_ic1 dX0_isThere_7 ?_
    refine gw_goto (tgt := 12) rfl dX0_isThere_8 ?_
    have hA := Option.some.inj h
    subst hA
    exact gw_zret (Or.inr rfl) dX0_isThere_12 ⟨rfl, rfl⟩

def lpX0_wayRight_5 (x2 : Int32) (M : ow_M) (k : Int32 → Int32 → Option Int32) : Nat → Int32 → Int32 → Option Int32
  | 0, _, _ => none
  | n + 1, x3, x4 => (if (M.1 2 0) < x4 then k x3 x4 else (if x3 = x2 then some x4 else Option.bind (fX0_isOpen x3 M) (fun v4 => (if v4 = 0 then some (-9) else Option.bind (fX0_rightEnd x3 M) (fun v7 => lpX0_wayRight_5 x2 M k n v7 (x4 + 1))))))
set_option maxRecDepth 100000 in
set_option maxHeartbeats 4000000 in
theorem tlpX0_wayRight_5 (l : Launch) {x2 : Int32} {M : ow_M} {k : Int32 → Int32 → Option Int32} {r : Int32}  (hk : ∀ (x3 : Int32) (x4 : Int32), k x3 x4 = some r → ow_G (ow_Γ l 2 (some .int) (ow_is (some (.int r)) M)) RX0 cX0_wayRight 5 45 [some (.ref 2), none, some (.int x2), some (.int x3), some (.int x4)] [] M) : ∀ (n : Nat) (x3 : Int32) (x4 : Int32), lpX0_wayRight_5 x2 M k n x3 x4 = some r → ow_G (ow_Γ l 2 (some .int) (ow_is (some (.int r)) M)) RX0 cX0_wayRight 5 5 [some (.ref 2), none, some (.int x2), some (.int x3), some (.int x4)] [] M := by
  intro n
  induction n with
  | zero => intro _ _ h; cases h
  | succ n ih =>
    intro x3 x4 h
    unfold lpX0_wayRight_5 at h
    refine gw_iload4 dX0_wayRight_5 ?_
    refine gw_aload0 dX0_wayRight_7 ?_
    refine gw_getI dX0_wayRight_8 fkX0_9 rfl rfl ?_
    refine gw_icmp_gt (tgt := 45) dX0_wayRight_11 rfl (fun h1 => ?_) (fun h1 => ?_)
    · replace h := (if_pos h1).symm.trans h
      exact hk _ _ h
    · replace h := (if_neg h1).symm.trans h
      refine gw_iload3 dX0_wayRight_14 ?_
      refine gw_iload2 dX0_wayRight_15 ?_
      refine gw_icmp_ne (tgt := 22) dX0_wayRight_16 rfl (fun h2 => ?_) (fun h2 => ?_)
      · replace h := (if_neg h2).symm.trans h
        refine gw_aload0 dX0_wayRight_22 ?_
        refine gw_iload3 dX0_wayRight_23 ?_
        obtain ⟨v4, hc3, h⟩ := ow_b_some h
        refine gw_cVI1 dX0_wayRight_24 lkX0_61 mkX0_isOpen (ow_rm_in rfl rfl) rfl rfl (ctX0_isOpen l hc3) rfl ?_
        refine gw_if_ne (tgt := 33) dX0_wayRight_27 rfl (fun h5 => ?_) (fun h5 => ?_)
        · replace h := (if_neg h5).symm.trans h
          refine gw_aload0 dX0_wayRight_33 ?_
          refine gw_iload3 dX0_wayRight_34 ?_
          obtain ⟨v7, hc6, h⟩ := ow_b_some h
          refine gw_cVI1 dX0_wayRight_35 lkX0_58 mkX0_rightEnd (ow_rm_in rfl rfl) rfl rfl (ctX0_rightEnd l hc6) rfl ?_
          refine gw_istore3 dX0_wayRight_38 (by decide) rfl ?_
          refine gw_iinc4 1 dX0_wayRight_39 (by decide) rfl (by decide) ?_
          refine gw_goto (tgt := 5) rfl dX0_wayRight_42 ?_
          exact ih _ _ h
        · replace h := (if_pos h5).symm.trans h
          refine gw_bipush (-9) dX0_wayRight_30 (by decide) ?_
          have hA := Option.some.inj h
          subst hA
          exact gw_iret dX0_wayRight_32 ⟨rfl, rfl⟩
      · replace h := (if_pos h2).symm.trans h
        refine gw_iload4 dX0_wayRight_19 ?_
        have hA := Option.some.inj h
        subst hA
        exact gw_iret dX0_wayRight_21 ⟨rfl, rfl⟩

def fX0_wayRight (x1 : Int32) (x2 : Int32) (M : ow_M) : Option Int32 := lpX0_wayRight_5 x2 M (fun u8 u9 => some (-9)) ow_N x1 0
set_option maxRecDepth 100000 in
set_option maxHeartbeats 4000000 in
theorem ctX0_wayRight (l : Launch) {x1 : Int32} {x2 : Int32} {M : ow_M} {r : Int32}  (h : fX0_wayRight x1 x2 M = some r) : ow_F l 2 yX0_wayRight cX0_wayRight 5 (some .int) [.ref 2, .int x1, .int x2] M (some (.int r)) M := by
  unfold fX0_wayRight at h
  refine ow_enterO (own := RX0) rfl (by decide +kernel) rfl (ls := [some (.ref 2), some (.int x1), some (.int x2), none, none]) rfl ?_
  refine gw_iload1 dX0_wayRight_0 ?_
  refine gw_istore3 dX0_wayRight_1 (by decide) rfl ?_
  refine gw_ic0 dX0_wayRight_2 ?_
  refine gw_istore4 dX0_wayRight_3 (by decide) rfl ?_
  refine gw_drp1 ?_
  refine tlpX0_wayRight_5 l ?_ _ _ _ h
  intro u8 u9 h
  refine gw_bipush (-9) dX0_wayRight_45 (by decide) ?_
  have hA := Option.some.inj h
  subst hA
  exact gw_iret dX0_wayRight_47 ⟨rfl, rfl⟩

def lpX0_howManyWalled_4  (M : ow_M) (k : Int32 → Int32 → Option Int32) : Nat → Int32 → Int32 → Option Int32
  | 0, _, _ => none
  | n + 1, x1, x2 => (if (M.1 2 1) ≤ x2 then k x1 x2 else if ow_inn x2 7 then (if (M.1 7 x2.toNatClampNeg) = 0 then lpX0_howManyWalled_4  M k n x1 (x2 + 1) else lpX0_howManyWalled_4  M k n (x1 + 1) (x2 + 1)) else none)
set_option maxRecDepth 100000 in
set_option maxHeartbeats 4000000 in
theorem tlpX0_howManyWalled_4 (l : Launch)  {M : ow_M} {k : Int32 → Int32 → Option Int32} {r : Int32}  (hk : ∀ (x1 : Int32) (x2 : Int32), k x1 x2 = some r → ow_G (ow_Γ l 0 (some .int) (ow_is (some (.int r)) M)) RX0 cX0_howManyWalled 3 30 [some (.ref 2), some (.int x1), some (.int x2)] [] M) : ∀ (n : Nat) (x1 : Int32) (x2 : Int32), lpX0_howManyWalled_4  M k n x1 x2 = some r → ow_G (ow_Γ l 0 (some .int) (ow_is (some (.int r)) M)) RX0 cX0_howManyWalled 3 4 [some (.ref 2), some (.int x1), some (.int x2)] [] M := by
  intro n
  induction n with
  | zero => intro _ _ h; cases h
  | succ n ih =>
    intro x1 x2 h
    unfold lpX0_howManyWalled_4 at h
    refine gw_iload2 dX0_howManyWalled_4 ?_
    refine gw_aload0 dX0_howManyWalled_5 ?_
    refine gw_getI dX0_howManyWalled_6 fkX0_15 rfl rfl ?_
    refine gw_icmp_ge (tgt := 30) dX0_howManyWalled_9 rfl (fun h1 => ?_) (fun h1 => ?_)
    · replace h := (if_pos h1).symm.trans h
      exact hk _ _ h
    · replace h := (if_neg h1).symm.trans h
      refine gw_aload0 dX0_howManyWalled_12 ?_
      refine gw_getR dX0_howManyWalled_13 fkX0_35 rfl rfl ?_
      refine gw_iload2 dX0_howManyWalled_16 ?_
      by_cases h2 : ow_inn x2 7
      rotate_left
      · replace h := (if_neg h2).symm.trans h
        cases h
      replace h := (if_pos h2).symm.trans h
      refine gw_zald dX0_howManyWalled_17 rfl h2 ?_
      refine gw_if_eq (tgt := 24) dX0_howManyWalled_18 rfl (fun h3 => ?_) (fun h3 => ?_)
      · replace h := (if_pos h3).symm.trans h
        refine gw_iinc2 1 dX0_howManyWalled_24 (by decide) rfl (by decide) ?_
        refine gw_goto (tgt := 4) rfl dX0_howManyWalled_27 ?_
        exact ih _ _ h
      · replace h := (if_neg h3).symm.trans h
        refine gw_iinc1 1 dX0_howManyWalled_21 (by decide) rfl (by decide) ?_
        refine gw_iinc2 1 dX0_howManyWalled_24 (by decide) rfl (by decide) ?_
        refine gw_goto (tgt := 4) rfl dX0_howManyWalled_27 ?_
        exact ih _ _ h

def fX0_howManyWalled  (M : ow_M) : Option Int32 := lpX0_howManyWalled_4 M (fun u4 u5 => some u4) ow_N 0 0
set_option maxRecDepth 100000 in
set_option maxHeartbeats 4000000 in
theorem ctX0_howManyWalled (l : Launch)  {M : ow_M} {r : Int32}  (h : fX0_howManyWalled M = some r) : ow_F l 0 yX0_howManyWalled cX0_howManyWalled 3 (some .int) [.ref 2] M (some (.int r)) M := by
  unfold fX0_howManyWalled at h
  refine ow_enterO (own := RX0) rfl (by decide +kernel) rfl (ls := [some (.ref 2), none, none]) rfl ?_
  refine gw_ic0 dX0_howManyWalled_0 ?_
  refine gw_istore1 dX0_howManyWalled_1 (by decide) rfl ?_
  refine gw_ic0 dX0_howManyWalled_2 ?_
  refine gw_istore2 dX0_howManyWalled_3 (by decide) rfl ?_
  refine tlpX0_howManyWalled_4 l ?_ _ _ _ h
  intro u4 u5 h
  refine gw_iload1 dX0_howManyWalled_30 ?_
  have hA := Option.some.inj h
  subst hA
  exact gw_iret dX0_howManyWalled_31 ⟨rfl, rfl⟩

def fX4_hasCells (x0 : Nat) (x1 : Int32) (x2 : Int32) (M : ow_M) : Option Int32 := (if x2 < 0 then some 0 else (if x1 < 0 then some 0 else (if ((M.1 x0 2) - x2) < x1 then some 0 else some 1)))
set_option maxRecDepth 100000 in
set_option maxHeartbeats 4000000 in
theorem ctX4_hasCells (l : Launch) {x0 : Nat} {x1 : Int32} {x2 : Int32} {M : ow_M} {r : Int32}  (hS0 : ow_isS x0) (h : fX4_hasCells x0 x1 x2 M = some r) : ow_F l 0 yX4_hasCells cX4_hasCells 3 (some .boolean) [.ref x0, .int x1, .int x2] M (some (.int r)) M := by
  unfold fX4_hasCells at h
  refine ow_enterO (own := RX4) rfl (by decide +kernel) rfl (ls := [some (.ref x0), some (.int x1), some (.int x2)]) rfl ?_
  refine gw_iload2 dX4_hasCells_0 ?_
  refine gw_if_lt (tgt := 22) dX4_hasCells_1 rfl (fun h1 => ?_) (fun h1 => ?_)
  · replace h := (if_pos h1).symm.trans h
    refine gw_ic0 dX4_hasCells_22 ?_
    have hA := Option.some.inj h
    subst hA
    exact gw_zret (Or.inl rfl) dX4_hasCells_23 ⟨rfl, rfl⟩
  · replace h := (if_neg h1).symm.trans h
    refine gw_iload1 dX4_hasCells_4 ?_
    refine gw_if_lt (tgt := 22) dX4_hasCells_5 rfl (fun h2 => ?_) (fun h2 => ?_)
    · replace h := (if_pos h2).symm.trans h
      refine gw_ic0 dX4_hasCells_22 ?_
      have hA := Option.some.inj h
      subst hA
      exact gw_zret (Or.inl rfl) dX4_hasCells_23 ⟨rfl, rfl⟩
    · replace h := (if_neg h2).symm.trans h
      refine gw_iload1 dX4_hasCells_8 ?_
      refine gw_aload0 dX4_hasCells_9 ?_
      refine gw_getI dX4_hasCells_10 fkX4_19 hS0.1 rfl ?_
      refine gw_iload2 dX4_hasCells_13 ?_
      refine gw_isub dX4_hasCells_14 ?_
      refine gw_icmp_gt (tgt := 22) dX4_hasCells_15 rfl (fun h3 => ?_) (fun h3 => ?_)
      · replace h := (if_pos h3).symm.trans h
        refine gw_ic0 dX4_hasCells_22 ?_
        have hA := Option.some.inj h
        subst hA
        exact gw_zret (Or.inl rfl) dX4_hasCells_23 ⟨rfl, rfl⟩
      · replace h := (if_neg h3).symm.trans h
        refine gw_ic1 dX4_hasCells_18 ?_
        refine gw_goto (tgt := 23) rfl dX4_hasCells_19 ?_
        have hA := Option.some.inj h
        subst hA
        exact gw_zret (Or.inr rfl) dX4_hasCells_23 ⟨rfl, rfl⟩

def jX4_faultOfCells_17 (x0 : Nat) (x2 : Int32) (x3 : Int32) (M : ow_M) : Option Int32 := (if (M.1 x0 0) = 0 then some 1 else (if 0 ≤ x3 then Option.bind (fX4_hasCells x0 x2 x3 M) (fun v5 => (if v5 = 0 then some 3 else some 0)) else some 4))
set_option maxRecDepth 100000 in
set_option maxHeartbeats 4000000 in
theorem tjX4_faultOfCells_17 (l : Launch) {x0 : Nat} {x2 : Int32} {x3 : Int32} {M : ow_M} {r : Int32}  (hS0 : ow_isS x0) (h : jX4_faultOfCells_17 x0 x2 x3 M = some r) : ow_G (ow_Γ l 1 (some .int) (ow_is (some (.int r)) M)) RX4 cX4_faultOfCells 4 17 [some (.ref x0), none, some (.int x2), some (.int x3)] [] M := by
  unfold jX4_faultOfCells_17 at h
  refine gw_aload0 dX4_faultOfCells_17 ?_
  refine gw_getI dX4_faultOfCells_18 fkX4_9 hS0.1 rfl ?_
  refine gw_if_ne (tgt := 26) dX4_faultOfCells_21 rfl (fun h2 => ?_) (fun h2 => ?_)
  · replace h := (if_neg h2).symm.trans h
    refine gw_iload3 dX4_faultOfCells_26 ?_
    refine gw_if_ge (tgt := 32) dX4_faultOfCells_27 rfl (fun h3 => ?_) (fun h3 => ?_)
    · replace h := (if_pos h3).symm.trans h
      refine gw_aload0 dX4_faultOfCells_32 ?_
      refine gw_iload2 dX4_faultOfCells_33 ?_
      refine gw_iload3 dX4_faultOfCells_34 ?_
      obtain ⟨v5, hc4, h⟩ := ow_b_some h
      refine gw_cVI2 dX4_faultOfCells_35 lkX4_32 mkX4_hasCells (ow_rm_in rfl rfl) hS0.1 rfl (ctX4_hasCells l hS0 hc4) rfl ?_
      refine gw_if_eq (tgt := 45) dX4_faultOfCells_38 rfl (fun h6 => ?_) (fun h6 => ?_)
      · replace h := (if_pos h6).symm.trans h
        refine gw_ic3 dX4_faultOfCells_45 ?_
        have hA := Option.some.inj h
        subst hA
        exact gw_iret dX4_faultOfCells_46 ⟨rfl, rfl⟩
      · replace h := (if_neg h6).symm.trans h
        refine gw_ic0 dX4_faultOfCells_41 ?_
        refine gw_goto (tgt := 46) rfl dX4_faultOfCells_42 ?_
        have hA := Option.some.inj h
        subst hA
        exact gw_iret dX4_faultOfCells_46 ⟨rfl, rfl⟩
    · replace h := (if_neg h3).symm.trans h
      refine gw_ic4 dX4_faultOfCells_30 ?_
      have hA := Option.some.inj h
      subst hA
      exact gw_iret dX4_faultOfCells_31 ⟨rfl, rfl⟩
  · replace h := (if_pos h2).symm.trans h
    refine gw_ic1 dX4_faultOfCells_24 ?_
    have hA := Option.some.inj h
    subst hA
    exact gw_iret dX4_faultOfCells_25 ⟨rfl, rfl⟩

def fX4_faultOfCells (x0 : Nat) (x1 : Int32) (x2 : Int32) (x3 : Int32) (M : ow_M) : Option Int32 := (if (M.1 x0 0) = 0 then jX4_faultOfCells_17 x0 x2 x3 M else (if (M.1 x0 1) = x1 then jX4_faultOfCells_17 x0 x2 x3 M else some 2))
set_option maxRecDepth 100000 in
set_option maxHeartbeats 4000000 in
theorem ctX4_faultOfCells (l : Launch) {x0 : Nat} {x1 : Int32} {x2 : Int32} {x3 : Int32} {M : ow_M} {r : Int32}  (hS0 : ow_isS x0) (h : fX4_faultOfCells x0 x1 x2 x3 M = some r) : ow_F l 1 yX4_faultOfCells cX4_faultOfCells 4 (some .int) [.ref x0, .int x1, .int x2, .int x3] M (some (.int r)) M := by
  unfold fX4_faultOfCells at h
  refine ow_enterO (own := RX4) rfl (by decide +kernel) rfl (ls := [some (.ref x0), some (.int x1), some (.int x2), some (.int x3)]) rfl ?_
  refine gw_aload0 dX4_faultOfCells_0 ?_
  refine gw_getI dX4_faultOfCells_1 fkX4_9 hS0.1 rfl ?_
  refine gw_if_eq (tgt := 17) dX4_faultOfCells_4 rfl (fun h1 => ?_) (fun h1 => ?_)
  · replace h := (if_pos h1).symm.trans h
    refine gw_drp1 ?_
    exact tjX4_faultOfCells_17 l hS0 h
  · replace h := (if_neg h1).symm.trans h
    refine gw_aload0 dX4_faultOfCells_7 ?_
    refine gw_getI dX4_faultOfCells_8 fkX4_15 hS0.1 rfl ?_
    refine gw_iload1 dX4_faultOfCells_11 ?_
    refine gw_icmp_eq (tgt := 17) dX4_faultOfCells_12 rfl (fun h7 => ?_) (fun h7 => ?_)
    · replace h := (if_pos h7).symm.trans h
      refine gw_drp1 ?_
      exact tjX4_faultOfCells_17 l hS0 h
    · replace h := (if_neg h7).symm.trans h
      refine gw_ic2 dX4_faultOfCells_15 ?_
      have hA := Option.some.inj h
      subst hA
      exact gw_iret dX4_faultOfCells_16 ⟨rfl, rfl⟩

def fX4_becomeNew (x0 : Nat) (x1 : Int32) (x2 : Int32) (M : ow_M) : Option ow_M := Option.bind (fJ7_fill_53178 (x0 + 1) 50 0 (ow_up (ow_up (ow_up M x0 0 1) x0 1 x1) x0 2 x2)) (fun M3 => some M3)
set_option maxRecDepth 100000 in
set_option maxHeartbeats 4000000 in
theorem ctX4_becomeNew (l : Launch) {x0 : Nat} {x1 : Int32} {x2 : Int32} {M : ow_M} {M9 : ow_M}  (hS0 : ow_isS x0) (h : fX4_becomeNew x0 x1 x2 M = some M9) : ow_F l 1 yX4_becomeNew cX4_becomeNew 3 none [.ref x0, .int x1, .int x2] M none M9 := by
  unfold fX4_becomeNew at h
  refine ow_enterO (own := RX4) rfl (by decide +kernel) rfl (ls := [some (.ref x0), some (.int x1), some (.int x2)]) rfl ?_
  refine gw_aload0 dX4_becomeNew_0 ?_
  refine gw_ic1 dX4_becomeNew_1 ?_
  refine gw_putZ dX4_becomeNew_2 fkX4_9 fp4_0 hS0.1 rfl (Or.inr rfl) ?_
  refine gw_aload0 dX4_becomeNew_5 ?_
  refine gw_iload1 dX4_becomeNew_6 ?_
  refine gw_putI dX4_becomeNew_7 fkX4_15 fp4_1 hS0.1 rfl ?_
  refine gw_aload0 dX4_becomeNew_10 ?_
  refine gw_iload2 dX4_becomeNew_11 ?_
  refine gw_putI dX4_becomeNew_12 fkX4_19 fp4_2 hS0.1 rfl ?_
  refine gw_aload0 dX4_becomeNew_15 ?_
  refine gw_getR dX4_becomeNew_16 fkX4_22 hS0.1 rfl ?_
  refine gw_ic0 dX4_becomeNew_19 ?_
  obtain ⟨M3, hc1, h⟩ := ow_b_some h
  refine gw_cSV2 dX4_becomeNew_20 lkX4_26 mkJ7_fill_53178 (ow_rm_in rfl rfl) (ctJ7_fill_53178 l hS0.2 hc1) rfl ?_
  have hA := Option.some.inj h
  subst hA
  exact gw_vret dX4_becomeNew_23 ⟨rfl, rfl⟩

def fX4_store (x0 : Nat) (x1 : Int32) (x2 : Int32) (M : ow_M) : Option ow_M := (if x1 < 0 then some M else (if (M.1 x0 2) ≤ x1 then some M else (if (M.1 x0 1) = 0 then if ow_inn x1 50 then some (ow_up M (x0 + 1) x1.toNatClampNeg (x2).toInt8.toInt32) else none else (if (M.1 x0 1) = 1 then if ow_inn x1 50 then some (ow_up M (x0 + 1) x1.toNatClampNeg (x2).toInt16.toInt32) else none else if ow_inn x1 50 then some (ow_up M (x0 + 1) x1.toNatClampNeg x2) else none))))
set_option maxRecDepth 100000 in
set_option maxHeartbeats 4000000 in
theorem ctX4_store (l : Launch) {x0 : Nat} {x1 : Int32} {x2 : Int32} {M : ow_M} {M9 : ow_M}  (hS0 : ow_isS x0) (h : fX4_store x0 x1 x2 M = some M9) : ow_F l 0 yX4_store cX4_store 3 none [.ref x0, .int x1, .int x2] M none M9 := by
  unfold fX4_store at h
  refine ow_enterO (own := RX4) rfl (by decide +kernel) rfl (ls := [some (.ref x0), some (.int x1), some (.int x2)]) rfl ?_
  refine gw_iload1 dX4_store_0 ?_
  refine gw_if_lt (tgt := 44) dX4_store_1 rfl (fun h1 => ?_) (fun h1 => ?_)
  · replace h := (if_pos h1).symm.trans h
    have hA := Option.some.inj h
    subst hA
    exact gw_vret dX4_store_44 ⟨rfl, rfl⟩
  · replace h := (if_neg h1).symm.trans h
    refine gw_iload1 dX4_store_4 ?_
    refine gw_aload0 dX4_store_5 ?_
    refine gw_getI dX4_store_6 fkX4_19 hS0.1 rfl ?_
    refine gw_icmp_ge (tgt := 44) dX4_store_9 rfl (fun h2 => ?_) (fun h2 => ?_)
    · replace h := (if_pos h2).symm.trans h
      have hA := Option.some.inj h
      subst hA
      exact gw_vret dX4_store_44 ⟨rfl, rfl⟩
    · replace h := (if_neg h2).symm.trans h
      refine gw_aload0 dX4_store_12 ?_
      refine gw_getR dX4_store_13 fkX4_22 hS0.1 rfl ?_
      refine gw_iload1 dX4_store_16 ?_
      refine gw_aload0 dX4_store_17 ?_
      refine gw_getI dX4_store_18 fkX4_15 hS0.1 rfl ?_
      refine gw_if_ne (tgt := 29) dX4_store_21 rfl (fun h3 => ?_) (fun h3 => ?_)
      · replace h := (if_neg h3).symm.trans h
        refine gw_aload0 dX4_store_29 ?_
        refine gw_getI dX4_store_30 fkX4_15 hS0.1 rfl ?_
        refine gw_ic1 dX4_store_33 ?_
        refine gw_icmp_ne (tgt := 42) dX4_store_34 rfl (fun h4 => ?_) (fun h4 => ?_)
        · replace h := (if_neg h4).symm.trans h
          refine gw_iload2 dX4_store_42 ?_
          by_cases h5 : ow_inn x1 50
          rotate_left
          · replace h := (if_neg h5).symm.trans h
            cases h
          replace h := (if_pos h5).symm.trans h
          refine gw_iast dX4_store_43 hS0.2 h5 ?_
          have hA := Option.some.inj h
          subst hA
          exact gw_vret dX4_store_44 ⟨rfl, rfl⟩
        · replace h := (if_pos h4).symm.trans h
          refine gw_iload2 dX4_store_37 ?_
          refine gw_i2s dX4_store_38 ?_
          refine gw_goto (tgt := 43) rfl dX4_store_39 ?_
          by_cases h6 : ow_inn x1 50
          rotate_left
          · replace h := (if_neg h6).symm.trans h
            cases h
          replace h := (if_pos h6).symm.trans h
          refine gw_iast dX4_store_43 hS0.2 h6 ?_
          have hA := Option.some.inj h
          subst hA
          exact gw_vret dX4_store_44 ⟨rfl, rfl⟩
      · replace h := (if_pos h3).symm.trans h
        refine gw_iload2 dX4_store_24 ?_
        refine gw_i2b dX4_store_25 ?_
        refine gw_goto (tgt := 43) rfl dX4_store_26 ?_
        by_cases h7 : ow_inn x1 50
        rotate_left
        · replace h := (if_neg h7).symm.trans h
          cases h
        replace h := (if_pos h7).symm.trans h
        refine gw_iast dX4_store_43 hS0.2 h7 ?_
        have hA := Option.some.inj h
        subst hA
        exact gw_vret dX4_store_44 ⟨rfl, rfl⟩

