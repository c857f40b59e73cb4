def fX8_within (x0 : Int32) (x1 : Int32) (x2 : Int32) : Option Int32 := (if x0 < x1 then some 0 else (if x2 < x0 then some 0 else some 1))
set_option maxRecDepth 100000 in
set_option maxHeartbeats 4000000 in
theorem ctX8_within (l : Launch) {x0 : Int32} {x1 : Int32} {x2 : Int32} {M : ow_M} {r : Int32}  (h : fX8_within x0 x1 x2 = some r) : ow_F l 0 yX8_within cX8_within 3 (some .boolean) [.int x0, .int x1, .int x2] M (some (.int r)) M := by
  unfold fX8_within at h
  refine ow_enterO (own := RX8) rfl (by decide +kernel) rfl (ls := [some (.int x0), some (.int x1), some (.int x2)]) rfl ?_
  refine gw_iload0 dX8_within_0 ?_
  refine gw_iload1 dX8_within_1 ?_
  refine gw_icmp_lt (tgt := 14) dX8_within_2 rfl (fun h1 => ?_) (fun h1 => ?_)
  · replace h := (if_pos h1).symm.trans h
    refine gw_ic0 dX8_within_14 ?_
    have hA := Option.some.inj h
    subst hA
    exact gw_zret (Or.inl rfl) dX8_within_15 ⟨rfl, rfl⟩
  · replace h := (if_neg h1).symm.trans h
    refine gw_iload0 dX8_within_5 ?_
    refine gw_iload2 dX8_within_6 ?_
    refine gw_icmp_gt (tgt := 14) dX8_within_7 rfl (fun h2 => ?_) (fun h2 => ?_)
    · replace h := (if_pos h2).symm.trans h
      refine gw_ic0 dX8_within_14 ?_
      have hA := Option.some.inj h
      subst hA
      exact gw_zret (Or.inl rfl) dX8_within_15 ⟨rfl, rfl⟩
    · replace h := (if_neg h2).symm.trans h
      refine gw_ic1 dX8_within_10 ?_
      refine gw_goto (tgt := 15) rfl dX8_within_11 ?_
      have hA := Option.some.inj h
      subst hA
      exact gw_zret (Or.inr rfl) dX8_within_15 ⟨rfl, rfl⟩

def fX8_isSheet (x0 : Int32) : Option Int32 := Option.bind (fX8_within x0 0 3) (fun v2 => if v2 = 0 ∨ v2 = 1 then some v2 else none)
set_option maxRecDepth 100000 in
set_option maxHeartbeats 4000000 in
theorem ctX8_isSheet (l : Launch) {x0 : Int32} {M : ow_M} {r : Int32}  (h : fX8_isSheet x0 = some r) : ow_F l 1 yX8_isSheet cX8_isSheet 1 (some .boolean) [.int x0] M (some (.int r)) M := by
  unfold fX8_isSheet at h
  refine ow_enterO (own := RX8) rfl (by decide +kernel) rfl (ls := [some (.int x0)]) rfl ?_
  refine gw_iload0 dX8_isSheet_0 ?_
  refine gw_ic0 dX8_isSheet_1 ?_
  refine gw_ic3 dX8_isSheet_2 ?_
  obtain ⟨v2, hc1, h⟩ := ow_b_some h
  refine gw_cSI3 dX8_isSheet_3 lkX8_82 mkX8_within (ow_rm_in rfl rfl) (ctX8_within l hc1) rfl ?_
  by_cases h3 : v2 = 0 ∨ v2 = 1
  rotate_left
  · replace h := (if_neg h3).symm.trans h
    cases h
  replace h := (if_pos h3).symm.trans h
  have hA := Option.some.inj h
  subst hA
  exact gw_zret h3 dX8_isSheet_6 ⟨rfl, rfl⟩

def fX8_isSort (x0 : Int32) : Option Int32 := Option.bind (fX8_within x0 0 2) (fun v2 => if v2 = 0 ∨ v2 = 1 then some v2 else none)
set_option maxRecDepth 100000 in
set_option maxHeartbeats 4000000 in
theorem ctX8_isSort (l : Launch) {x0 : Int32} {M : ow_M} {r : Int32}  (h : fX8_isSort x0 = some r) : ow_F l 1 yX8_isSort cX8_isSort 1 (some .boolean) [.int x0] M (some (.int r)) M := by
  unfold fX8_isSort at h
  refine ow_enterO (own := RX8) rfl (by decide +kernel) rfl (ls := [some (.int x0)]) rfl ?_
  refine gw_iload0 dX8_isSort_0 ?_
  refine gw_ic0 dX8_isSort_1 ?_
  refine gw_ic2 dX8_isSort_2 ?_
  obtain ⟨v2, hc1, h⟩ := ow_b_some h
  refine gw_cSI3 dX8_isSort_3 lkX8_82 mkX8_within (ow_rm_in rfl rfl) (ctX8_within l hc1) rfl ?_
  by_cases h3 : v2 = 0 ∨ v2 = 1
  rotate_left
  · replace h := (if_neg h3).symm.trans h
    cases h
  replace h := (if_pos h3).symm.trans h
  have hA := Option.some.inj h
  subst hA
  exact gw_zret h3 dX8_isSort_6 ⟨rfl, rfl⟩

def jX8_against_23 (x1 : Int32) (x3 : Int32) (x4 : Int32) (M : ow_M) : Option Int32 := if ow_inn x1 4 then (if (M.1 35 x1.toNatClampNeg) = (-9) then some 1 else (if 0 ≤ x4 then (if x3 < 0 then some 3 else if ow_inn x1 4 then (if (M.1 36 x1.toNatClampNeg) < x3 then some 3 else if ow_inn x1 4 then (if x4 ≤ ((M.1 36 x1.toNatClampNeg) - x3) then some 0 else some 3) else none) else none) else some 4)) else none
set_option maxRecDepth 100000 in
set_option maxHeartbeats 4000000 in
theorem tjX8_against_23 (l : Launch) {x1 : Int32} {x3 : Int32} {x4 : Int32} {M : ow_M} {r : Int32}  (h : jX8_against_23 x1 x3 x4 M = some r) : ow_G (ow_Γ l 0 (some .int) (ow_is (some (.int r)) M)) RX8 cX8_against 5 23 [some (.ref 34), some (.int x1), none, some (.int x3), some (.int x4)] [] M := by
  unfold jX8_against_23 at h
  refine gw_aload0 dX8_against_23 ?_
  refine gw_getR dX8_against_24 fkX8_9 rfl rfl ?_
  refine gw_iload1 dX8_against_27 ?_
  by_cases h3 : ow_inn x1 4
  rotate_left
  · replace h := (if_neg h3).symm.trans h
    cases h
  replace h := (if_pos h3).symm.trans h
  refine gw_iald dX8_against_28 rfl h3 ?_
  refine gw_bipush (-9) dX8_against_29 (by decide) ?_
  refine gw_icmp_ne (tgt := 36) dX8_against_31 rfl (fun h4 => ?_) (fun h4 => ?_)
  · replace h := (if_neg h4).symm.trans h
    refine gw_iload4 dX8_against_36 ?_
    refine gw_if_ge (tgt := 43) dX8_against_38 rfl (fun h5 => ?_) (fun h5 => ?_)
    · replace h := (if_pos h5).symm.trans h
      refine gw_iload3 dX8_against_43 ?_
      refine gw_if_lt (tgt := 70) dX8_against_44 rfl (fun h6 => ?_) (fun h6 => ?_)
      · replace h := (if_pos h6).symm.trans h
        refine gw_ic3 dX8_against_70 ?_
        refine gw_goto (tgt := 75) rfl dX8_against_71 ?_
        have hA := Option.some.inj h
        subst hA
        exact gw_iret dX8_against_75 ⟨rfl, rfl⟩
      · replace h := (if_neg h6).symm.trans h
        refine gw_iload3 dX8_against_47 ?_
        refine gw_aload0 dX8_against_48 ?_
        refine gw_getR dX8_against_49 fkX8_13 rfl rfl ?_
        refine gw_iload1 dX8_against_52 ?_
        by_cases h7 : ow_inn x1 4
        rotate_left
        · replace h := (if_neg h7).symm.trans h
          cases h
        replace h := (if_pos h7).symm.trans h
        refine gw_iald dX8_against_53 rfl h7 ?_
        refine gw_icmp_gt (tgt := 70) dX8_against_54 rfl (fun h8 => ?_) (fun h8 => ?_)
        · replace h := (if_pos h8).symm.trans h
          refine gw_ic3 dX8_against_70 ?_
          refine gw_goto (tgt := 75) rfl dX8_against_71 ?_
          have hA := Option.some.inj h
          subst hA
          exact gw_iret dX8_against_75 ⟨rfl, rfl⟩
        · replace h := (if_neg h8).symm.trans h
          refine gw_iload4 dX8_against_57 ?_
          refine gw_aload0 dX8_against_59 ?_
          refine gw_getR dX8_against_60 fkX8_13 rfl rfl ?_
          refine gw_iload1 dX8_against_63 ?_
          by_cases h9 : ow_inn x1 4
          rotate_left
          · replace h := (if_neg h9).symm.trans h
            cases h
          replace h := (if_pos h9).symm.trans h
          refine gw_iald dX8_against_64 rfl h9 ?_
          refine gw_iload3 dX8_against_65 ?_
          refine gw_isub dX8_against_66 ?_
          refine gw_icmp_le (tgt := 74) dX8_against_67 rfl (fun h10 => ?_) (fun h10 => ?_)
          · replace h := (if_pos h10).symm.trans h
            refine gw_ic0 dX8_against_74 ?_
            have hA := Option.some.inj h
            subst hA
            exact gw_iret dX8_against_75 ⟨rfl, rfl⟩
          · replace h := (if_neg h10).symm.trans h
            refine gw_ic3 dX8_against_70 ?_
            refine gw_goto (tgt := 75) rfl dX8_against_71 ?_
            have hA := Option.some.inj h
            subst hA
            exact gw_iret dX8_against_75 ⟨rfl, rfl⟩
    · replace h := (if_neg h5).symm.trans h
      refine gw_ic4 dX8_against_41 ?_
      have hA := Option.some.inj h
      subst hA
      exact gw_iret dX8_against_42 ⟨rfl, rfl⟩
  · replace h := (if_pos h4).symm.trans h
    refine gw_ic1 dX8_against_34 ?_
    have hA := Option.some.inj h
    subst hA
    exact gw_iret dX8_against_35 ⟨rfl, rfl⟩

def fX8_against (x1 : Int32) (x2 : Int32) (x3 : Int32) (x4 : Int32) (M : ow_M) : Option Int32 := if ow_inn x1 4 then (if (M.1 35 x1.toNatClampNeg) = (-9) then jX8_against_23 x1 x3 x4 M else if ow_inn x1 4 then (if (M.1 35 x1.toNatClampNeg) = x2 then jX8_against_23 x1 x3 x4 M else some 2) else none) else none
set_option maxRecDepth 100000 in
set_option maxHeartbeats 4000000 in
theorem ctX8_against (l : Launch) {x1 : Int32} {x2 : Int32} {x3 : Int32} {x4 : Int32} {M : ow_M} {r : Int32}  (h : fX8_against x1 x2 x3 x4 M = some r) : ow_F l 0 yX8_against cX8_against 5 (some .int) [.ref 34, .int x1, .int x2, .int x3, .int x4] M (some (.int r)) M := by
  unfold fX8_against at h
  refine ow_enterO (own := RX8) rfl (by decide +kernel) rfl (ls := [some (.ref 34), some (.int x1), some (.int x2), some (.int x3), some (.int x4)]) rfl ?_
  refine gw_aload0 dX8_against_0 ?_
  refine gw_getR dX8_against_1 fkX8_9 rfl rfl ?_
  refine gw_iload1 dX8_against_4 ?_
  by_cases h1 : ow_inn x1 4
  rotate_left
  · replace h := (if_neg h1).symm.trans h
    cases h
  replace h := (if_pos h1).symm.trans h
  refine gw_iald dX8_against_5 rfl h1 ?_
  refine gw_bipush (-9) dX8_against_6 (by decide) ?_
  refine gw_icmp_eq (tgt := 23) dX8_against_8 rfl (fun h2 => ?_) (fun h2 => ?_)
  · replace h := (if_pos h2).symm.trans h
    refine gw_drp2 ?_
    exact tjX8_against_23 l h
  · replace h := (if_neg h2).symm.trans h
    refine gw_aload0 dX8_against_11 ?_
    refine gw_getR dX8_against_12 fkX8_9 rfl rfl ?_
    refine gw_iload1 dX8_against_15 ?_
    by_cases h11 : ow_inn x1 4
    rotate_left
    · replace h := (if_neg h11).symm.trans h
      cases h
    replace h := (if_pos h11).symm.trans h
    refine gw_iald dX8_against_16 rfl h11 ?_
    refine gw_iload2 dX8_against_17 ?_
    refine gw_icmp_eq (tgt := 23) dX8_against_18 rfl (fun h12 => ?_) (fun h12 => ?_)
    · replace h := (if_pos h12).symm.trans h
      refine gw_drp2 ?_
      exact tjX8_against_23 l h
    · replace h := (if_neg h12).symm.trans h
      refine gw_ic2 dX8_against_21 ?_
      have hA := Option.some.inj h
      subst hA
      exact gw_iret dX8_against_22 ⟨rfl, rfl⟩

def fX8_fails (x1 : Int32) (M : ow_M) : Option (Int32 × ow_M) := some (((-10) - x1), (ow_up M 34 0 x1))
set_option maxRecDepth 100000 in
set_option maxHeartbeats 4000000 in
theorem ctX8_fails (l : Launch) {x1 : Int32} {M : ow_M} {r : Int32} {M9 : ow_M}  (h : fX8_fails x1 M = some (r, M9)) : ow_F l 0 yX8_fails cX8_fails 2 (some .int) [.ref 34, .int x1] M (some (.int r)) M9 := by
  unfold fX8_fails at h
  refine ow_enterO (own := RX8) rfl (by decide +kernel) rfl (ls := [some (.ref 34), some (.int x1)]) rfl ?_
  refine gw_aload0 dX8_fails_0 ?_
  refine gw_iload1 dX8_fails_1 ?_
  refine gw_putI dX8_fails_2 fkX8_76 fp8_0 rfl rfl ?_
  refine gw_bipush (-10) dX8_fails_5 (by decide) ?_
  refine gw_iload1 dX8_fails_7 ?_
  refine gw_isub dX8_fails_8 ?_
  obtain ⟨hA, hB⟩ := Prod.mk.inj (Option.some.inj h)
  subst hA
  subst hB
  exact gw_iret dX8_fails_9 ⟨rfl, rfl⟩

def fX8_digit (x1 : Int32) (x2 : Int32) (x3 : Int32) (M : ow_M) : Option (Int32 × ow_M) := (if x1 ≤ (M.1 34 12) then some ((-9), M) else if ow_inn (M.1 34 12) 200 then Option.bind (fX8_within (M.1 37 (M.1 34 12).toNatClampNeg) (48 + x2) (48 + x3)) (fun v4 => (if v4 = 0 then some ((-9), M) else if ow_inn (((ow_up M 34 12 ((M.1 34 12) + 1)).1 34 12) - 1) 200 then some ((((ow_up M 34 12 ((M.1 34 12) + 1)).1 37 (((ow_up M 34 12 ((M.1 34 12) + 1)).1 34 12) - 1).toNatClampNeg) - 48), (ow_up M 34 12 ((M.1 34 12) + 1))) else none)) else none)
set_option maxRecDepth 100000 in
set_option maxHeartbeats 4000000 in
theorem ctX8_digit (l : Launch) {x1 : Int32} {x2 : Int32} {x3 : Int32} {M : ow_M} {r : Int32} {M9 : ow_M}  (h : fX8_digit x1 x2 x3 M = some (r, M9)) : ow_F l 1 yX8_digit cX8_digit 4 (some .int) [.ref 34, .int x1, .int x2, .int x3] M (some (.int r)) M9 := by
  unfold fX8_digit at h
  refine ow_enterO (own := RX8) rfl (by decide +kernel) rfl (ls := [some (.ref 34), some (.int x1), some (.int x2), some (.int x3)]) rfl ?_
  refine gw_aload0 dX8_digit_0 ?_
  refine gw_getI dX8_digit_1 fkX8_100 rfl rfl ?_
  refine gw_iload1 dX8_digit_4 ?_
  refine gw_icmp_ge (tgt := 31) dX8_digit_5 rfl (fun h1 => ?_) (fun h1 => ?_)
  · replace h := (if_pos h1).symm.trans h
    refine gw_bipush (-9) dX8_digit_31 (by decide) ?_
    obtain ⟨hA, hB⟩ := Prod.mk.inj (Option.some.inj h)
    subst hA
    subst hB
    exact gw_iret dX8_digit_33 ⟨rfl, rfl⟩
  · replace h := (if_neg h1).symm.trans h
    refine gw_aload0 dX8_digit_8 ?_
    refine gw_getR dX8_digit_9 fkX8_16 rfl rfl ?_
    refine gw_aload0 dX8_digit_12 ?_
    refine gw_getI dX8_digit_13 fkX8_100 rfl rfl ?_
    by_cases h2 : ow_inn (M.1 34 12) 200
    rotate_left
    · replace h := (if_neg h2).symm.trans h
      cases h
    replace h := (if_pos h2).symm.trans h
    refine gw_iald dX8_digit_16 rfl h2 ?_
    refine gw_bipush 48 dX8_digit_17 (by decide) ?_
    refine gw_iload2 dX8_digit_19 ?_
    refine gw_iadd dX8_digit_20 ?_
    refine gw_bipush 48 dX8_digit_21 (by decide) ?_
    refine gw_iload3 dX8_digit_23 ?_
    refine gw_iadd dX8_digit_24 ?_
    obtain ⟨v4, hc3, h⟩ := ow_b_some h
    refine gw_cSI3 dX8_digit_25 lkX8_82 mkX8_within (ow_rm_in rfl rfl) (ctX8_within l hc3) rfl ?_
    refine gw_if_ne (tgt := 34) dX8_digit_28 rfl (fun h5 => ?_) (fun h5 => ?_)
    · replace h := (if_neg h5).symm.trans h
      refine gw_aload0 dX8_digit_34 ?_
      refine gw_dup rfl dX8_digit_35 ?_
      refine gw_getI dX8_digit_36 fkX8_100 rfl rfl ?_
      refine gw_ic1 dX8_digit_39 ?_
      refine gw_iadd dX8_digit_40 ?_
      refine gw_putI dX8_digit_41 fkX8_100 fp8_12 rfl rfl ?_
      refine gw_aload0 dX8_digit_44 ?_
      refine gw_getR dX8_digit_45 fkX8_16 rfl rfl ?_
      refine gw_aload0 dX8_digit_48 ?_
      refine gw_getI dX8_digit_49 fkX8_100 rfl rfl ?_
      refine gw_ic1 dX8_digit_52 ?_
      refine gw_isub dX8_digit_53 ?_
      by_cases h6 : ow_inn (((ow_up M 34 12 ((M.1 34 12) + 1)).1 34 12) - 1) 200
      rotate_left
      · replace h := (if_neg h6).symm.trans h
        cases h
      replace h := (if_pos h6).symm.trans h
      refine gw_iald dX8_digit_54 rfl h6 ?_
      refine gw_bipush 48 dX8_digit_55 (by decide) ?_
      refine gw_isub dX8_digit_57 ?_
      obtain ⟨hA, hB⟩ := Prod.mk.inj (Option.some.inj h)
      subst hA
      subst hB
      exact gw_iret dX8_digit_58 ⟨rfl, rfl⟩
    · replace h := (if_pos h5).symm.trans h
      refine gw_bipush (-9) dX8_digit_31 (by decide) ?_
      obtain ⟨hA, hB⟩ := Prod.mk.inj (Option.some.inj h)
      subst hA
      subst hB
      exact gw_iret dX8_digit_33 ⟨rfl, rfl⟩

def jX8_readPerson_59 (x1 : Int32) (x2 : Int32) (s1 : Int32) (s2 : Int32) (M : ow_M) : Option (Int32 × ow_M) := if ow_inn s1 7 then if ow_inn x2 7 then (if ((ow_up M 42 s1.toNatClampNeg s2).1 42 x2.toNatClampNeg) = (-9) then some (0, (ow_up M 42 s1.toNatClampNeg s2)) else ow_bd (fX8_digit x1 0 9 (ow_up (ow_up M 42 s1.toNatClampNeg s2) 34 12 (((ow_up M 42 s1.toNatClampNeg s2).1 34 12) + 1))) (fun v9 M10 => if ow_inn x2 7 then if ow_inn x2 7 then (if ((ow_up M10 43 x2.toNatClampNeg v9).1 43 x2.toNatClampNeg) = (-9) then some (0, (ow_up M10 43 x2.toNatClampNeg v9)) else ow_bd (fX8_digit x1 0 3 (ow_up M10 43 x2.toNatClampNeg v9)) (fun v15 M16 => if ow_inn x2 7 then if ow_inn x2 7 then (if ((ow_up M16 44 x2.toNatClampNeg v15).1 44 x2.toNatClampNeg) = (-9) then some (0, (ow_up M16 44 x2.toNatClampNeg v15)) else ow_bd (fX8_digit x1 0 3 (ow_up M16 44 x2.toNatClampNeg v15)) (fun v21 M22 => if ow_inn x2 7 then if ow_inn x2 7 then (if ((ow_up M22 45 x2.toNatClampNeg v21).1 45 x2.toNatClampNeg) = (-9) then some (0, (ow_up M22 45 x2.toNatClampNeg v21)) else some (1, (ow_up M22 45 x2.toNatClampNeg v21))) else none else none)) else none else none)) else none else none)) else none else none
set_option maxRecDepth 100000 in
set_option maxHeartbeats 4000000 in
theorem tjX8_readPerson_59 (l : Launch) {x1 : Int32} {x2 : Int32} {s1 : Int32} {s2 : Int32} {M : ow_M} {r : Int32} {M9 : ow_M}  (h : jX8_readPerson_59 x1 x2 s1 s2 M = some (r, M9)) : ow_G (ow_Γ l 2 (some .boolean) (ow_is (some (.int r)) M9)) RX8 cX8_readPerson 4 59 [some (.ref 34), some (.int x1), some (.int x2), none] [.int s2, .int s1, .ref 42] M := by
  unfold jX8_readPerson_59 at h
  by_cases h5 : ow_inn s1 7
  rotate_left
  · replace h := (if_neg h5).symm.trans h
    cases h
  replace h := (if_pos h5).symm.trans h
  refine gw_iast dX8_readPerson_59 rfl h5 ?_
  refine gw_aload0 dX8_readPerson_60 ?_
  refine gw_getR dX8_readPerson_61 fkX8_31 rfl rfl ?_
  refine gw_iload2 dX8_readPerson_64 ?_
  by_cases h6 : ow_inn x2 7
  rotate_left
  · replace h := (if_neg h6).symm.trans h
    cases h
  replace h := (if_pos h6).symm.trans h
  refine gw_iald dX8_readPerson_65 rfl h6 ?_
  refine gw_bipush (-9) dX8_readPerson_66 (by decide) ?_
  refine gw_icmp_ne (tgt := 73) dX8_readPerson_68 rfl (fun h7 => ?_) (fun h7 => ?_)
  · replace h := (if_neg h7).symm.trans h
    refine gw_aload0 dX8_readPerson_73 ?_
    refine gw_dup rfl dX8_readPerson_74 ?_
    refine gw_getI dX8_readPerson_75 fkX8_100 rfl rfl ?_
    refine gw_ic1 dX8_readPerson_78 ?_
    refine gw_iadd dX8_readPerson_79 ?_
    refine gw_putI dX8_readPerson_80 fkX8_100 fp8_12 rfl rfl ?_
    refine gw_aload0 dX8_readPerson_83 ?_
    refine gw_getR dX8_readPerson_84 fkX8_34 rfl rfl ?_
    refine gw_iload2 dX8_readPerson_87 ?_
    refine gw_aload0 dX8_readPerson_88 ?_
    refine gw_iload1 dX8_readPerson_89 ?_
    refine gw_ic0 dX8_readPerson_90 ?_
    refine gw_bipush 9 dX8_readPerson_91 (by decide) ?_
    obtain ⟨v9, M10, hc8, h⟩ := ow_bd_some h
    refine gw_cVI3 dX8_readPerson_93 lkX8_130 mkX8_digit (ow_rm_in rfl rfl) rfl rfl (ctX8_digit l hc8) rfl ?_
    by_cases h11 : ow_inn x2 7
    rotate_left
    · replace h := (if_neg h11).symm.trans h
      cases h
    replace h := (if_pos h11).symm.trans h
    refine gw_iast dX8_readPerson_96 rfl h11 ?_
    refine gw_aload0 dX8_readPerson_97 ?_
    refine gw_getR dX8_readPerson_98 fkX8_34 rfl rfl ?_
    refine gw_iload2 dX8_readPerson_101 ?_
    by_cases h12 : ow_inn x2 7
    rotate_left
    · replace h := (if_neg h12).symm.trans h
      cases h
    replace h := (if_pos h12).symm.trans h
    refine gw_iald dX8_readPerson_102 rfl h12 ?_
    refine gw_bipush (-9) dX8_readPerson_103 (by decide) ?_
    refine gw_icmp_ne (tgt := 110) dX8_readPerson_105 rfl (fun h13 => ?_) (fun h13 => ?_)
    · replace h := (if_neg h13).symm.trans h
      refine gw_aload0 dX8_readPerson_110 ?_
      refine gw_getR dX8_readPerson_111 fkX8_37 rfl rfl ?_
      refine gw_iload2 dX8_readPerson_114 ?_
      refine gw_aload0 dX8_readPerson_115 ?_
      refine gw_iload1 dX8_readPerson_116 ?_
      refine gw_ic0 dX8_readPerson_117 ?_
      refine gw_ic3 dX8_readPerson_118 ?_
      obtain ⟨v15, M16, hc14, h⟩ := ow_bd_some h
      refine gw_cVI3 dX8_readPerson_119 lkX8_130 mkX8_digit (ow_rm_in rfl rfl) rfl rfl (ctX8_digit l hc14) rfl ?_
      by_cases h17 : ow_inn x2 7
      rotate_left
      · replace h := (if_neg h17).symm.trans h
        cases h
      replace h := (if_pos h17).symm.trans h
      refine gw_iast dX8_readPerson_122 rfl h17 ?_
      refine gw_aload0 dX8_readPerson_123 ?_
      refine gw_getR dX8_readPerson_124 fkX8_37 rfl rfl ?_
      refine gw_iload2 dX8_readPerson_127 ?_
      by_cases h18 : ow_inn x2 7
      rotate_left
      · replace h := (if_neg h18).symm.trans h
        cases h
      replace h := (if_pos h18).symm.trans h
      refine gw_iald dX8_readPerson_128 rfl h18 ?_
      refine gw_bipush (-9) dX8_readPerson_129 (by decide) ?_
      refine gw_icmp_ne (tgt := 136) dX8_readPerson_131 rfl (fun h19 => ?_) (fun h19 => ?_)
      · replace h := (if_neg h19).symm.trans h
        refine gw_aload0 dX8_readPerson_136 ?_
        refine gw_getR dX8_readPerson_137 fkX8_40 rfl rfl ?_
        refine gw_iload2 dX8_readPerson_140 ?_
        refine gw_aload0 dX8_readPerson_141 ?_
        refine gw_iload1 dX8_readPerson_142 ?_
        refine gw_ic0 dX8_readPerson_143 ?_
        refine gw_ic3 dX8_readPerson_144 ?_
        obtain ⟨v21, M22, hc20, h⟩ := ow_bd_some h
        refine gw_cVI3 dX8_readPerson_145 lkX8_130 mkX8_digit (ow_rm_in rfl rfl) rfl rfl (ctX8_digit l hc20) rfl ?_
        by_cases h23 : ow_inn x2 7
        rotate_left
        · replace h := (if_neg h23).symm.trans h
          cases h
        replace h := (if_pos h23).symm.trans h
        refine gw_iast dX8_readPerson_148 rfl h23 ?_
        refine gw_aload0 dX8_readPerson_149 ?_
        refine gw_getR dX8_readPerson_150 fkX8_40 rfl rfl ?_
        refine gw_iload2 dX8_readPerson_153 ?_
        by_cases h24 : ow_inn x2 7
        rotate_left
        · replace h := (if_neg h24).symm.trans h
          cases h
        replace h := (if_pos h24).symm.trans h
        refine gw_iald dX8_readPerson_154 rfl h24 ?_
        refine gw_bipush (-9) dX8_readPerson_155 (by decide) ?_
        refine gw_icmp_eq (tgt := 164) dX8_readPerson_157 rfl (fun h25 => ?_) (fun h25 => ?_)
        · replace h := (if_pos h25).symm.trans h
          refine gw_ic0 dX8_readPerson_164 ?_
          obtain ⟨hA, hB⟩ := Prod.mk.inj (Option.some.inj h)
          subst hA
          subst hB
          exact gw_zret (Or.inl rfl) dX8_readPerson_165 ⟨rfl, rfl⟩
        · replace h := (if_neg h25).symm.trans h
          refine gw_ic1 dX8_readPerson_160 ?_
          refine gw_goto (tgt := 165) rfl dX8_readPerson_161 ?_
          obtain ⟨hA, hB⟩ := Prod.mk.inj (Option.some.inj h)
          subst hA
          subst hB
          exact gw_zret (Or.inr rfl) dX8_readPerson_165 ⟨rfl, rfl⟩
      · replace h := (if_pos h19).symm.trans h
        refine gw_ic0 dX8_readPerson_134 ?_
        obtain ⟨hA, hB⟩ := Prod.mk.inj (Option.some.inj h)
        subst hA
        subst hB
        exact gw_zret (Or.inl rfl) dX8_readPerson_135 ⟨rfl, rfl⟩
    · replace h := (if_pos h13).symm.trans h
      refine gw_ic0 dX8_readPerson_108 ?_
      obtain ⟨hA, hB⟩ := Prod.mk.inj (Option.some.inj h)
      subst hA
      subst hB
      exact gw_zret (Or.inl rfl) dX8_readPerson_109 ⟨rfl, rfl⟩
  · replace h := (if_pos h7).symm.trans h
    refine gw_ic0 dX8_readPerson_71 ?_
    obtain ⟨hA, hB⟩ := Prod.mk.inj (Option.some.inj h)
    subst hA
    subst hB
    exact gw_zret (Or.inl rfl) dX8_readPerson_72 ⟨rfl, rfl⟩

def jX8_readPerson_21 (x1 : Int32) (x2 : Int32) (s0 : Int32) (M : ow_M) : Option (Int32 × ow_M) := (if s0 = 112 then jX8_readPerson_59 x1 x2 x2 0 M else (if s0 = 103 then jX8_readPerson_59 x1 x2 x2 1 M else (if s0 = 116 then jX8_readPerson_59 x1 x2 x2 2 M else jX8_readPerson_59 x1 x2 x2 (-9) M)))
set_option maxRecDepth 100000 in
set_option maxHeartbeats 4000000 in
theorem tjX8_readPerson_21 (l : Launch) {x1 : Int32} {x2 : Int32} {s0 : Int32} {M : ow_M} {r : Int32} {M9 : ow_M}  (h : jX8_readPerson_21 x1 x2 s0 M = some (r, M9)) : ow_G (ow_Γ l 2 (some .boolean) (ow_is (some (.int r)) M9)) RX8 cX8_readPerson 4 21 [some (.ref 34), some (.int x1), some (.int x2), none] [.int s0] M := by
  unfold jX8_readPerson_21 at h
  refine gw_istore3 dX8_readPerson_21 (by decide) rfl ?_
  refine gw_aload0 dX8_readPerson_22 ?_
  refine gw_getR dX8_readPerson_23 fkX8_31 rfl rfl ?_
  refine gw_iload2 dX8_readPerson_26 ?_
  refine gw_iload3 dX8_readPerson_27 ?_
  refine gw_bipush 112 dX8_readPerson_28 (by decide) ?_
  refine gw_icmp_ne (tgt := 37) dX8_readPerson_30 rfl (fun h2 => ?_) (fun h2 => ?_)
  · replace h := (if_neg h2).symm.trans h
    refine gw_iload3 dX8_readPerson_37 ?_
    refine gw_bipush 103 dX8_readPerson_38 (by decide) ?_
    refine gw_icmp_ne (tgt := 47) dX8_readPerson_40 rfl (fun h3 => ?_) (fun h3 => ?_)
    · replace h := (if_neg h3).symm.trans h
      refine gw_iload3 dX8_readPerson_47 ?_
      refine gw_bipush 116 dX8_readPerson_48 (by decide) ?_
      refine gw_icmp_ne (tgt := 57) dX8_readPerson_50 rfl (fun h4 => ?_) (fun h4 => ?_)
      · replace h := (if_neg h4).symm.trans h
        refine gw_bipush (-9) dX8_readPerson_57 (by decide) ?_
        refine gw_drp3 ?_
        exact tjX8_readPerson_59 l h
      · replace h := (if_pos h4).symm.trans h
        refine gw_ic2 dX8_readPerson_53 ?_
        refine gw_goto (tgt := 59) rfl dX8_readPerson_54 ?_
        refine gw_drp3 ?_
        exact tjX8_readPerson_59 l h
    · replace h := (if_pos h3).symm.trans h
      refine gw_ic1 dX8_readPerson_43 ?_
      refine gw_goto (tgt := 59) rfl dX8_readPerson_44 ?_
      refine gw_drp3 ?_
      exact tjX8_readPerson_59 l h
  · replace h := (if_pos h2).symm.trans h
    refine gw_ic0 dX8_readPerson_33 ?_
    refine gw_goto (tgt := 59) rfl dX8_readPerson_34 ?_
    refine gw_drp3 ?_
    exact tjX8_readPerson_59 l h

def fX8_readPerson (x1 : Int32) (x2 : Int32) (M : ow_M) : Option (Int32 × ow_M) := (if x1 ≤ (M.1 34 12) then jX8_readPerson_21 x1 x2 0 M else if ow_inn (M.1 34 12) 200 then jX8_readPerson_21 x1 x2 (M.1 37 (M.1 34 12).toNatClampNeg) M else none)
set_option maxRecDepth 100000 in
set_option maxHeartbeats 4000000 in
theorem ctX8_readPerson (l : Launch) {x1 : Int32} {x2 : Int32} {M : ow_M} {r : Int32} {M9 : ow_M}  (h : fX8_readPerson x1 x2 M = some (r, M9)) : ow_F l 2 yX8_readPerson cX8_readPerson 4 (some .boolean) [.ref 34, .int x1, .int x2] M (some (.int r)) M9 := by
  unfold fX8_readPerson at h
  refine ow_enterO (own := RX8) rfl (by decide +kernel) rfl (ls := [some (.ref 34), some (.int x1), some (.int x2), none]) rfl ?_
  refine gw_aload0 dX8_readPerson_0 ?_
  refine gw_getI dX8_readPerson_1 fkX8_100 rfl rfl ?_
  refine gw_iload1 dX8_readPerson_4 ?_
  refine gw_icmp_ge (tgt := 20) dX8_readPerson_5 rfl (fun h1 => ?_) (fun h1 => ?_)
  · replace h := (if_pos h1).symm.trans h
    refine gw_ic0 dX8_readPerson_20 ?_
    exact tjX8_readPerson_21 l h
  · replace h := (if_neg h1).symm.trans h
    refine gw_aload0 dX8_readPerson_8 ?_
    refine gw_getR dX8_readPerson_9 fkX8_16 rfl rfl ?_
    refine gw_aload0 dX8_readPerson_12 ?_
    refine gw_getI dX8_readPerson_13 fkX8_100 rfl rfl ?_
    by_cases h26 : ow_inn (M.1 34 12) 200
    rotate_left
    · replace h := (if_neg h26).symm.trans h
      cases h
    replace h := (if_pos h26).symm.trans h
    refine gw_iald dX8_readPerson_16 rfl h26 ?_
    refine gw_goto (tgt := 21) rfl dX8_readPerson_17 ?_
    exact tjX8_readPerson_21 l h

def jX8_readWire_77 (x1 : Int32) (kb : ow_M → Option (Int32 × ow_M)) (k : ow_M → Option (Int32 × ow_M)) (M : ow_M) : Option (Int32 × ow_M) := (if (M.1 34 13) = 7 then some (0, M) else (if x1 ≤ (M.1 34 12) then some (0, M) else if ow_inn (M.1 34 12) 200 then (if (M.1 37 (M.1 34 12).toNatClampNeg) = 59 then ow_bd (fX8_readPerson x1 ((ow_up M 34 12 ((M.1 34 12) + 1)).1 34 13) (ow_up M 34 12 ((M.1 34 12) + 1))) (fun v14 M15 => (if v14 = 0 then some (0, M15) else kb  (ow_up M15 34 13 ((M15.1 34 13) + 1)))) else some (0, M)) else none))
set_option maxRecDepth 100000 in
set_option maxHeartbeats 4000000 in
theorem tjX8_readWire_77 (l : Launch) {x1 : Int32} {kb : ow_M → Option (Int32 × ow_M)} {k : ow_M → Option (Int32 × ow_M)} {M : ow_M} {r : Int32} {M9 : ow_M}  (hkb : ∀ (Mz : ow_M), kb  Mz = some (r, M9) → ow_G (ow_Γ l 3 (some .boolean) (ow_is (some (.int r)) M9)) RX8 cX8_readWire 2 61 [some (.ref 34), some (.int x1)] [] Mz) (_hk : ∀ (Mz : ow_M), k  Mz = some (r, M9) → True) (h : jX8_readWire_77 x1 kb k M = some (r, M9)) : ow_G (ow_Γ l 3 (some .boolean) (ow_is (some (.int r)) M9)) RX8 cX8_readWire 2 77 [some (.ref 34), some (.int x1)] [] M := by
  unfold jX8_readWire_77 at h
  refine gw_aload0 dX8_readWire_77 ?_
  refine gw_getI dX8_readWire_78 fkX8_121 rfl rfl ?_
  refine gw_bipush 7 dX8_readWire_81 (by decide) ?_
  refine gw_icmp_eq (tgt := 108) dX8_readWire_83 rfl (fun h9 => ?_) (fun h9 => ?_)
  · replace h := (if_pos h9).symm.trans h
    refine gw_ic0 dX8_readWire_108 ?_
    obtain ⟨hA, hB⟩ := Prod.mk.inj (Option.some.inj h)
    subst hA
    subst hB
    exact gw_zret (Or.inl rfl) dX8_readWire_109 ⟨rfl, rfl⟩
  · replace h := (if_neg h9).symm.trans h
    refine gw_aload0 dX8_readWire_86 ?_
    refine gw_getI dX8_readWire_87 fkX8_100 rfl rfl ?_
    refine gw_iload1 dX8_readWire_90 ?_
    refine gw_icmp_ge (tgt := 108) dX8_readWire_91 rfl (fun h10 => ?_) (fun h10 => ?_)
    · replace h := (if_pos h10).symm.trans h
      refine gw_ic0 dX8_readWire_108 ?_
      obtain ⟨hA, hB⟩ := Prod.mk.inj (Option.some.inj h)
      subst hA
      subst hB
      exact gw_zret (Or.inl rfl) dX8_readWire_109 ⟨rfl, rfl⟩
    · replace h := (if_neg h10).symm.trans h
      refine gw_aload0 dX8_readWire_94 ?_
      refine gw_getR dX8_readWire_95 fkX8_16 rfl rfl ?_
      refine gw_aload0 dX8_readWire_98 ?_
      refine gw_getI dX8_readWire_99 fkX8_100 rfl rfl ?_
      by_cases h11 : ow_inn (M.1 34 12) 200
      rotate_left
      · replace h := (if_neg h11).symm.trans h
        cases h
      replace h := (if_pos h11).symm.trans h
      refine gw_iald dX8_readWire_102 rfl h11 ?_
      refine gw_bipush 59 dX8_readWire_103 (by decide) ?_
      refine gw_icmp_eq (tgt := 110) dX8_readWire_105 rfl (fun h12 => ?_) (fun h12 => ?_)
      · replace h := (if_pos h12).symm.trans h
        refine gw_aload0 dX8_readWire_110 ?_
        refine gw_dup rfl dX8_readWire_111 ?_
        refine gw_getI dX8_readWire_112 fkX8_100 rfl rfl ?_
        refine gw_ic1 dX8_readWire_115 ?_
        refine gw_iadd dX8_readWire_116 ?_
        refine gw_putI dX8_readWire_117 fkX8_100 fp8_12 rfl rfl ?_
        refine gw_aload0 dX8_readWire_120 ?_
        refine gw_iload1 dX8_readWire_121 ?_
        refine gw_aload0 dX8_readWire_122 ?_
        refine gw_getI dX8_readWire_123 fkX8_121 rfl rfl ?_
        obtain ⟨v14, M15, hc13, h⟩ := ow_bd_some h
        refine gw_cVI2 dX8_readWire_126 lkX8_134 mkX8_readPerson (ow_rm_in rfl rfl) rfl rfl (ctX8_readPerson l hc13) rfl ?_
        refine gw_if_ne (tgt := 134) dX8_readWire_129 rfl (fun h16 => ?_) (fun h16 => ?_)
        · replace h := (if_neg h16).symm.trans h
          refine gw_aload0 dX8_readWire_134 ?_
          refine gw_dup rfl dX8_readWire_135 ?_
          refine gw_getI dX8_readWire_136 fkX8_121 rfl rfl ?_
          refine gw_ic1 dX8_readWire_139 ?_
          refine gw_iadd dX8_readWire_140 ?_
          refine gw_putI dX8_readWire_141 fkX8_121 fp8_13 rfl rfl ?_
          refine gw_goto (tgt := 61) rfl dX8_readWire_144 ?_
          exact hkb  _ h
        · replace h := (if_pos h16).symm.trans h
          refine gw_ic0 dX8_readWire_132 ?_
          obtain ⟨hA, hB⟩ := Prod.mk.inj (Option.some.inj h)
          subst hA
          subst hB
          exact gw_zret (Or.inl rfl) dX8_readWire_133 ⟨rfl, rfl⟩
      · replace h := (if_neg h12).symm.trans h
        refine gw_ic0 dX8_readWire_108 ?_
        obtain ⟨hA, hB⟩ := Prod.mk.inj (Option.some.inj h)
        subst hA
        subst hB
        exact gw_zret (Or.inl rfl) dX8_readWire_109 ⟨rfl, rfl⟩

def lpX8_readWire_61 (x1 : Int32) (k : ow_M → Option (Int32 × ow_M)) : Nat → ow_M → Option (Int32 × ow_M)
  | 0, _ => none
  | n + 1, M => (if (M.1 34 13) < 2 then jX8_readWire_77 x1 (lpX8_readWire_61 x1 k n) k M else (if x1 ≤ (M.1 34 12) then some (1, M) else jX8_readWire_77 x1 (lpX8_readWire_61 x1 k n) k M))
set_option maxRecDepth 100000 in
set_option maxHeartbeats 4000000 in
theorem tlpX8_readWire_61 (l : Launch) {x1 : Int32} {k : ow_M → Option (Int32 × ow_M)} {r : Int32} {M9 : ow_M}  (_hk : ∀ (M : ow_M), k M = some (r, M9) → True) : ∀ (n : Nat) (M : ow_M), lpX8_readWire_61 x1 k n M = some (r, M9) → ow_G (ow_Γ l 3 (some .boolean) (ow_is (some (.int r)) M9)) RX8 cX8_readWire 2 61 [some (.ref 34), some (.int x1)] [] M := by
  intro n
  induction n with
  | zero => intro _ h; cases h
  | succ n ih =>
    intro M h
    unfold lpX8_readWire_61 at h
    refine gw_aload0 dX8_readWire_61 ?_
    refine gw_getI dX8_readWire_62 fkX8_121 rfl rfl ?_
    refine gw_ic2 dX8_readWire_65 ?_
    refine gw_icmp_lt (tgt := 77) dX8_readWire_66 rfl (fun h8 => ?_) (fun h8 => ?_)
    · replace h := (if_pos h8).symm.trans h
      exact tjX8_readWire_77 l ih _hk h
    · replace h := (if_neg h8).symm.trans h
      refine gw_aload0 dX8_readWire_69 ?_
      refine gw_getI dX8_readWire_70 fkX8_100 rfl rfl ?_
      refine gw_iload1 dX8_readWire_73 ?_
      refine gw_icmp_ge (tgt := 147) dX8_readWire_74 rfl (fun h17 => ?_) (fun h17 => ?_)
      · replace h := (if_pos h17).symm.trans h
        refine gw_ic1 dX8_readWire_147 ?_
        obtain ⟨hA, hB⟩ := Prod.mk.inj (Option.some.inj h)
        subst hA
        subst hB
        exact gw_zret (Or.inr rfl) dX8_readWire_148 ⟨rfl, rfl⟩
      · replace h := (if_neg h17).symm.trans h
        exact tjX8_readWire_77 l ih _hk h

def fX8_readWire (x1 : Int32) (M : ow_M) : Option (Int32 × ow_M) := (if x1 ≤ (M.1 34 12) then some (0, M) else if ow_inn (M.1 34 12) 200 then (if (M.1 37 (M.1 34 12).toNatClampNeg) = 119 then ow_bd (fX8_digit x1 0 1 (ow_up M 34 12 ((M.1 34 12) + 1))) (fun v5 M6 => (if ((ow_up M6 34 14 v5).1 34 14) = (-9) then some (0, (ow_up M6 34 14 v5)) else lpX8_readWire_61 x1 (fun M18 => none) ow_N (ow_up (ow_up M6 34 14 v5) 34 13 0))) else some (0, M)) else none)
set_option maxRecDepth 100000 in
set_option maxHeartbeats 4000000 in
theorem ctX8_readWire (l : Launch) {x1 : Int32} {M : ow_M} {r : Int32} {M9 : ow_M}  (h : fX8_readWire x1 M = some (r, M9)) : ow_F l 3 yX8_readWire cX8_readWire 2 (some .boolean) [.ref 34, .int x1] M (some (.int r)) M9 := by
  unfold fX8_readWire at h
  refine ow_enterO (own := RX8) rfl (by decide +kernel) rfl (ls := [some (.ref 34), some (.int x1)]) rfl ?_
  refine gw_aload0 dX8_readWire_0 ?_
  refine gw_getI dX8_readWire_1 fkX8_100 rfl rfl ?_
  refine gw_iload1 dX8_readWire_4 ?_
  refine gw_icmp_ge (tgt := 22) dX8_readWire_5 rfl (fun h1 => ?_) (fun h1 => ?_)
  · replace h := (if_pos h1).symm.trans h
    refine gw_ic0 dX8_readWire_22 ?_
    obtain ⟨hA, hB⟩ := Prod.mk.inj (Option.some.inj h)
    subst hA
    subst hB
    exact gw_zret (Or.inl rfl) dX8_readWire_23 ⟨rfl, rfl⟩
  · replace h := (if_neg h1).symm.trans h
    refine gw_aload0 dX8_readWire_8 ?_
    refine gw_getR dX8_readWire_9 fkX8_16 rfl rfl ?_
    refine gw_aload0 dX8_readWire_12 ?_
    refine gw_getI dX8_readWire_13 fkX8_100 rfl rfl ?_
    by_cases h2 : ow_inn (M.1 34 12) 200
    rotate_left
    · replace h := (if_neg h2).symm.trans h
      cases h
    replace h := (if_pos h2).symm.trans h
    refine gw_iald dX8_readWire_16 rfl h2 ?_
    refine gw_bipush 119 dX8_readWire_17 (by decide) ?_
    refine gw_icmp_eq (tgt := 24) dX8_readWire_19 rfl (fun h3 => ?_) (fun h3 => ?_)
    · replace h := (if_pos h3).symm.trans h
      refine gw_aload0 dX8_readWire_24 ?_
      refine gw_dup rfl dX8_readWire_25 ?_
      refine gw_getI dX8_readWire_26 fkX8_100 rfl rfl ?_
      refine gw_ic1 dX8_readWire_29 ?_
      refine gw_iadd dX8_readWire_30 ?_
      refine gw_putI dX8_readWire_31 fkX8_100 fp8_12 rfl rfl ?_
      refine gw_aload0 dX8_readWire_34 ?_
      refine gw_aload0 dX8_readWire_35 ?_
      refine gw_iload1 dX8_readWire_36 ?_
      refine gw_ic0 dX8_readWire_37 ?_
      refine gw_ic1 dX8_readWire_38 ?_
      obtain ⟨v5, M6, hc4, h⟩ := ow_bd_some h
      refine gw_cVI3 dX8_readWire_39 lkX8_130 mkX8_digit (ow_rm_in rfl rfl) rfl rfl (ctX8_digit l hc4) rfl ?_
      refine gw_putI dX8_readWire_42 fkX8_124 fp8_14 rfl rfl ?_
      refine gw_aload0 dX8_readWire_45 ?_
      refine gw_getI dX8_readWire_46 fkX8_124 rfl rfl ?_
      refine gw_bipush (-9) dX8_readWire_49 (by decide) ?_
      refine gw_icmp_ne (tgt := 56) dX8_readWire_51 rfl (fun h7 => ?_) (fun h7 => ?_)
      · replace h := (if_neg h7).symm.trans h
        refine gw_aload0 dX8_readWire_56 ?_
        refine gw_ic0 dX8_readWire_57 ?_
        refine gw_putI dX8_readWire_58 fkX8_121 fp8_13 rfl rfl ?_
        refine tlpX8_readWire_61 l ?_ _ _ h
        intro M18 h
        cases h
      · replace h := (if_pos h7).symm.trans h
        refine gw_ic0 dX8_readWire_54 ?_
        obtain ⟨hA, hB⟩ := Prod.mk.inj (Option.some.inj h)
        subst hA
        subst hB
        exact gw_zret (Or.inl rfl) dX8_readWire_55 ⟨rfl, rfl⟩
    · replace h := (if_neg h3).symm.trans h
      refine gw_ic0 dX8_readWire_22 ?_
      obtain ⟨hA, hB⟩ := Prod.mk.inj (Option.some.inj h)
      subst hA
      subst hB
      exact gw_zret (Or.inl rfl) dX8_readWire_23 ⟨rfl, rfl⟩

def lpX8_wire_122  (k : Int32 → ow_M → Option (Int32 × ow_M)) : Nat → Int32 → ow_M → Option (Int32 × ow_M)
  | 0, _, _ => none
  | n + 1, x7, M => (if (M.1 34 5) ≤ x7 then k x7 M else if ow_inn x7 7 then if ow_inn x7 7 then if ow_inn x7 7 then if ow_inn x7 7 then if ow_inn x7 7 then if ow_inn x7 7 then if ow_inn x7 7 then if ow_inn x7 7 then lpX8_wire_122  k n (x7 + 1) (ow_up (ow_up (ow_up (ow_up M 38 x7.toNatClampNeg (M.1 42 x7.toNatClampNeg)) 39 x7.toNatClampNeg ((ow_up M 38 x7.toNatClampNeg (M.1 42 x7.toNatClampNeg)).1 43 x7.toNatClampNeg)) 40 x7.toNatClampNeg ((ow_up (ow_up M 38 x7.toNatClampNeg (M.1 42 x7.toNatClampNeg)) 39 x7.toNatClampNeg ((ow_up M 38 x7.toNatClampNeg (M.1 42 x7.toNatClampNeg)).1 43 x7.toNatClampNeg)).1 44 x7.toNatClampNeg)) 41 x7.toNatClampNeg ((ow_up (ow_up (ow_up M 38 x7.toNatClampNeg (M.1 42 x7.toNatClampNeg)) 39 x7.toNatClampNeg ((ow_up M 38 x7.toNatClampNeg (M.1 42 x7.toNatClampNeg)).1 43 x7.toNatClampNeg)) 40 x7.toNatClampNeg ((ow_up (ow_up M 38 x7.toNatClampNeg (M.1 42 x7.toNatClampNeg)) 39 x7.toNatClampNeg ((ow_up M 38 x7.toNatClampNeg (M.1 42 x7.toNatClampNeg)).1 43 x7.toNatClampNeg)).1 44 x7.toNatClampNeg)).1 45 x7.toNatClampNeg)) else none else none else none else none else none else none else none else none)
set_option maxRecDepth 100000 in
set_option maxHeartbeats 4000000 in
theorem tlpX8_wire_122 (l : Launch)  {k : Int32 → ow_M → Option (Int32 × ow_M)} {r : Int32} {M9 : ow_M}  (hk : ∀ (x7 : Int32) (M : ow_M), k x7 M = some (r, M9) → ow_G (ow_Γ l 4 (some .int) (ow_is (some (.int r)) M9)) RX8 cX8_wire 8 193 [some (.ref 34), none, none, none, none, none, none, some (.int x7)] [] M) : ∀ (n : Nat) (x7 : Int32) (M : ow_M), lpX8_wire_122  k n x7 M = some (r, M9) → ow_G (ow_Γ l 4 (some .int) (ow_is (some (.int r)) M9)) RX8 cX8_wire 8 122 [some (.ref 34), none, none, none, none, none, none, some (.int x7)] [] M := by
  intro n
  induction n with
  | zero => intro _ _ h; cases h
  | succ n ih =>
    intro x7 M h
    unfold lpX8_wire_122 at h
    refine gw_iload7 dX8_wire_122 ?_
    refine gw_aload0 dX8_wire_124 ?_
    refine gw_getI dX8_wire_125 fkX8_86 rfl rfl ?_
    refine gw_icmp_ge (tgt := 193) dX8_wire_128 rfl (fun h16 => ?_) (fun h16 => ?_)
    · replace h := (if_pos h16).symm.trans h
      exact hk _ _ h
    · replace h := (if_neg h16).symm.trans h
      refine gw_aload0 dX8_wire_131 ?_
      refine gw_getR dX8_wire_132 fkX8_19 rfl rfl ?_
      refine gw_iload7 dX8_wire_135 ?_
      refine gw_aload0 dX8_wire_137 ?_
      refine gw_getR dX8_wire_138 fkX8_31 rfl rfl ?_
      refine gw_iload7 dX8_wire_141 ?_
      by_cases h17 : ow_inn x7 7
      rotate_left
      · replace h := (if_neg h17).symm.trans h
        cases h
      replace h := (if_pos h17).symm.trans h
      refine gw_iald dX8_wire_143 rfl h17 ?_
      by_cases h18 : ow_inn x7 7
      rotate_left
      · replace h := (if_neg h18).symm.trans h
        cases h
      replace h := (if_pos h18).symm.trans h
      refine gw_iast dX8_wire_144 rfl h18 ?_
      refine gw_aload0 dX8_wire_145 ?_
      refine gw_getR dX8_wire_146 fkX8_22 rfl rfl ?_
      refine gw_iload7 dX8_wire_149 ?_
      refine gw_aload0 dX8_wire_151 ?_
      refine gw_getR dX8_wire_152 fkX8_34 rfl rfl ?_
      refine gw_iload7 dX8_wire_155 ?_
      by_cases h19 : ow_inn x7 7
      rotate_left
      · replace h := (if_neg h19).symm.trans h
        cases h
      replace h := (if_pos h19).symm.trans h
      refine gw_iald dX8_wire_157 rfl h19 ?_
      by_cases h20 : ow_inn x7 7
      rotate_left
      · replace h := (if_neg h20).symm.trans h
        cases h
      replace h := (if_pos h20).symm.trans h
      refine gw_iast dX8_wire_158 rfl h20 ?_
      refine gw_aload0 dX8_wire_159 ?_
      refine gw_getR dX8_wire_160 fkX8_25 rfl rfl ?_
      refine gw_iload7 dX8_wire_163 ?_
      refine gw_aload0 dX8_wire_165 ?_
      refine gw_getR dX8_wire_166 fkX8_37 rfl rfl ?_
      refine gw_iload7 dX8_wire_169 ?_
      by_cases h21 : ow_inn x7 7
      rotate_left
      · replace h := (if_neg h21).symm.trans h
        cases h
      replace h := (if_pos h21).symm.trans h
      refine gw_iald dX8_wire_171 rfl h21 ?_
      by_cases h22 : ow_inn x7 7
      rotate_left
      · replace h := (if_neg h22).symm.trans h
        cases h
      replace h := (if_pos h22).symm.trans h
      refine gw_iast dX8_wire_172 rfl h22 ?_
      refine gw_aload0 dX8_wire_173 ?_
      refine gw_getR dX8_wire_174 fkX8_28 rfl rfl ?_
      refine gw_iload7 dX8_wire_177 ?_
      refine gw_aload0 dX8_wire_179 ?_
      refine gw_getR dX8_wire_180 fkX8_40 rfl rfl ?_
      refine gw_iload7 dX8_wire_183 ?_
      by_cases h23 : ow_inn x7 7
      rotate_left
      · replace h := (if_neg h23).symm.trans h
        cases h
      replace h := (if_pos h23).symm.trans h
      refine gw_iald dX8_wire_185 rfl h23 ?_
      by_cases h24 : ow_inn x7 7
      rotate_left
      · replace h := (if_neg h24).symm.trans h
        cases h
      replace h := (if_pos h24).symm.trans h
      refine gw_iast dX8_wire_186 rfl h24 ?_
      refine gw_iinc7 1 dX8_wire_187 (by decide) rfl (by decide) ?_
      refine gw_goto (tgt := 122) rfl dX8_wire_190 ?_
      exact ih _ _ h

def jX8_wire_106  (s1 : Int32) (M : ow_M) : Option (Int32 × ow_M) := if s1 = 0 ∨ s1 = 1 then lpX8_wire_122 (fun u25 M26 => some ((M26.1 34 5), M26)) ow_N 0 (ow_up (ow_up (ow_up M 34 6 s1) 34 7 0) 34 27 0) else none
set_option maxRecDepth 100000 in
set_option maxHeartbeats 4000000 in
theorem tjX8_wire_106 (l : Launch)  {s1 : Int32} {M : ow_M} {r : Int32} {M9 : ow_M}  (h : jX8_wire_106  s1 M = some (r, M9)) : ow_G (ow_Γ l 4 (some .int) (ow_is (some (.int r)) M9)) RX8 cX8_wire 8 106 [some (.ref 34), none, none, none, none, none, none, none] [.int s1, .ref 34] M := by
  unfold jX8_wire_106 at h
  by_cases h15 : s1 = 0 ∨ s1 = 1
  rotate_left
  · replace h := (if_neg h15).symm.trans h
    cases h
  replace h := (if_pos h15).symm.trans h
  refine gw_putZ dX8_wire_106 fkX8_89 fp8_6 rfl rfl h15 ?_
  refine gw_aload0 dX8_wire_109 ?_
  refine gw_ic0 dX8_wire_110 ?_
  refine gw_putI dX8_wire_111 fkX8_97 fp8_7 rfl rfl ?_
  refine gw_aload0 dX8_wire_114 ?_
  refine gw_ic0 dX8_wire_115 ?_
  refine gw_putI dX8_wire_116 fkX8_127 fp8_27 rfl rfl ?_
  refine gw_ic0 dX8_wire_119 ?_
  refine gw_istore7 dX8_wire_120 (by decide) rfl ?_
  refine tlpX8_wire_122 l ?_ _ _ _ h
  intro u25 M26 h
  refine gw_aload0 dX8_wire_193 ?_
  refine gw_getI dX8_wire_194 fkX8_86 rfl rfl ?_
  obtain ⟨hA, hB⟩ := Prod.mk.inj (Option.some.inj h)
  subst hA
  subst hB
  exact gw_iret dX8_wire_197 ⟨rfl, rfl⟩

def fX8_wire (x1 : Int32) (x2 : Int32) (x3 : Int32) (x4 : Int32) (M : ow_M) : Option (Int32 × ow_M) := Option.bind (fX8_isSheet x1) (fun v2 => (if v2 = 0 then some ((-1), (ow_up M 34 0 0)) else Option.bind (fX8_isSort x2) (fun v5 => (if v5 = 0 then some ((-2), (ow_up M 34 0 0)) else Option.bind (fX8_against x1 x2 x3 x4 (ow_up M 34 0 0)) (fun v8 => (if v8 = 0 then ow_bd (fX8_readWire (((50 * x1) + x3) + x4) (ow_up (ow_up M 34 0 0) 34 12 ((50 * x1) + x3))) (fun v11 M12 => (if v11 = 0 then some (((-100) - ((M12.1 34 12) - ((50 * x1) + x3))), M12) else (if ((ow_up M12 34 5 (M12.1 34 13)).1 34 14) = 1 then jX8_wire_106  1 (ow_up M12 34 5 (M12.1 34 13)) else jX8_wire_106  0 (ow_up M12 34 5 (M12.1 34 13))))) else ow_bd (fX8_fails v8 (ow_up M 34 0 0)) (fun v28 M29 => some (v28, M29))))))))
set_option maxRecDepth 100000 in
set_option maxHeartbeats 4000000 in
theorem ctX8_wire (l : Launch) {x1 : Int32} {x2 : Int32} {x3 : Int32} {x4 : Int32} {M : ow_M} {r : Int32} {M9 : ow_M}  (h : fX8_wire x1 x2 x3 x4 M = some (r, M9)) : ow_F l 4 yX8_wire cX8_wire 8 (some .int) [.ref 34, .int x1, .int x2, .int x3, .int x4] M (some (.int r)) M9 := by
  unfold fX8_wire at h
  refine ow_enterO (own := RX8) rfl (by decide +kernel) rfl (ls := [some (.ref 34), some (.int x1), some (.int x2), some (.int x3), some (.int x4), none, none, none]) rfl ?_
  refine gw_aload0 dX8_wire_0 ?_
  refine gw_ic0 dX8_wire_1 ?_
  refine gw_putI dX8_wire_2 fkX8_76 fp8_0 rfl rfl ?_
  refine gw_iload1 dX8_wire_5 ?_
  obtain ⟨v2, hc1, h⟩ := ow_b_some h
  refine gw_cSI1 dX8_wire_6 lkX8_103 mkX8_isSheet (ow_rm_in rfl rfl) (ctX8_isSheet l hc1) rfl ?_
  refine gw_if_ne (tgt := 14) dX8_wire_9 rfl (fun h3 => ?_) (fun h3 => ?_)
  · replace h := (if_neg h3).symm.trans h
    refine gw_iload2 dX8_wire_14 ?_
    obtain ⟨v5, hc4, h⟩ := ow_b_some h
    refine gw_cSI1 dX8_wire_15 lkX8_107 mkX8_isSort (ow_rm_in rfl rfl) (ctX8_isSort l hc4) rfl ?_
    refine gw_if_ne (tgt := 24) dX8_wire_18 rfl (fun h6 => ?_) (fun h6 => ?_)
    · replace h := (if_neg h6).symm.trans h
      refine gw_aload0 dX8_wire_24 ?_
      refine gw_iload1 dX8_wire_25 ?_
      refine gw_iload2 dX8_wire_26 ?_
      refine gw_iload3 dX8_wire_27 ?_
      refine gw_iload4 dX8_wire_28 ?_
      obtain ⟨v8, hc7, h⟩ := ow_b_some h
      refine gw_cVI4 dX8_wire_30 lkX8_110 mkX8_against (ow_rm_in rfl rfl) rfl rfl (ctX8_against l hc7) rfl ?_
      refine gw_istore5 dX8_wire_33 (by decide) rfl ?_
      refine gw_iload5 dX8_wire_35 ?_
      refine gw_if_eq (tgt := 47) dX8_wire_37 rfl (fun h9 => ?_) (fun h9 => ?_)
      · replace h := (if_pos h9).symm.trans h
        refine gw_bipush 50 dX8_wire_47 (by decide) ?_
        refine gw_iload1 dX8_wire_49 ?_
        refine gw_imul dX8_wire_50 ?_
        refine gw_iload3 dX8_wire_51 ?_
        refine gw_iadd dX8_wire_52 ?_
        refine gw_istore6 dX8_wire_53 (by decide) rfl ?_
        refine gw_aload0 dX8_wire_55 ?_
        refine gw_iload6 dX8_wire_56 ?_
        refine gw_putI dX8_wire_58 fkX8_100 fp8_12 rfl rfl ?_
        refine gw_aload0 dX8_wire_61 ?_
        refine gw_iload6 dX8_wire_62 ?_
        refine gw_iload4 dX8_wire_64 ?_
        refine gw_iadd dX8_wire_66 ?_
        obtain ⟨v11, M12, hc10, h⟩ := ow_bd_some h
        refine gw_cVI1 dX8_wire_67 lkX8_118 mkX8_readWire (ow_rm_in rfl rfl) rfl rfl (ctX8_readWire l hc10) rfl ?_
        refine gw_if_ne (tgt := 84) dX8_wire_70 rfl (fun h13 => ?_) (fun h13 => ?_)
        · replace h := (if_neg h13).symm.trans h
          refine gw_aload0 dX8_wire_84 ?_
          refine gw_aload0 dX8_wire_85 ?_
          refine gw_getI dX8_wire_86 fkX8_121 rfl rfl ?_
          refine gw_putI dX8_wire_89 fkX8_86 fp8_5 rfl rfl ?_
          refine gw_aload0 dX8_wire_92 ?_
          refine gw_aload0 dX8_wire_93 ?_
          refine gw_getI dX8_wire_94 fkX8_124 rfl rfl ?_
          refine gw_ic1 dX8_wire_97 ?_
          refine gw_icmp_ne (tgt := 105) dX8_wire_98 rfl (fun h14 => ?_) (fun h14 => ?_)
          · replace h := (if_neg h14).symm.trans h
            refine gw_ic0 dX8_wire_105 ?_
            refine gw_drp1 ?_
            refine gw_drp2 ?_
            refine gw_drp3 ?_
            refine gw_drp4 ?_
            refine gw_drp5 ?_
            refine gw_drp6 ?_
            exact tjX8_wire_106 l h
          · replace h := (if_pos h14).symm.trans h
            refine gw_ic1 dX8_wire_101 ?_
            refine gw_goto (tgt := 106) rfl dX8_wire_102 ?_
            refine gw_drp1 ?_
            refine gw_drp2 ?_
            refine gw_drp3 ?_
            refine gw_drp4 ?_
            refine gw_drp5 ?_
            refine gw_drp6 ?_
            exact tjX8_wire_106 l h
        · replace h := (if_pos h13).symm.trans h
          refine gw_bipush (-100) dX8_wire_73 (by decide) ?_
          refine gw_aload0 dX8_wire_75 ?_
          refine gw_getI dX8_wire_76 fkX8_100 rfl rfl ?_
          refine gw_iload6 dX8_wire_79 ?_
          refine gw_isub dX8_wire_81 ?_
          refine gw_isub dX8_wire_82 ?_
          obtain ⟨hA, hB⟩ := Prod.mk.inj (Option.some.inj h)
          subst hA
          subst hB
          exact gw_iret dX8_wire_83 ⟨rfl, rfl⟩
      · replace h := (if_neg h9).symm.trans h
        refine gw_aload0 dX8_wire_40 ?_
        refine gw_iload5 dX8_wire_41 ?_
        obtain ⟨v28, M29, hc27, h⟩ := ow_bd_some h
        refine gw_cVI1 dX8_wire_43 lkX8_114 mkX8_fails (ow_rm_in rfl rfl) rfl rfl (ctX8_fails l hc27) rfl ?_
        obtain ⟨hA, hB⟩ := Prod.mk.inj (Option.some.inj h)
        subst hA
        subst hB
        exact gw_iret dX8_wire_46 ⟨rfl, rfl⟩
    · replace h := (if_pos h6).symm.trans h
      refine gw_bipush (-2) dX8_wire_21 (by decide) ?_
      obtain ⟨hA, hB⟩ := Prod.mk.inj (Option.some.inj h)
      subst hA
      subst hB
      exact gw_iret dX8_wire_23 ⟨rfl, rfl⟩
  · replace h := (if_pos h3).symm.trans h
    refine gw_icm1 dX8_wire_12 ?_
    obtain ⟨hA, hB⟩ := Prod.mk.inj (Option.some.inj h)
    subst hA
    subst hB
    exact gw_iret dX8_wire_13 ⟨rfl, rfl⟩

def fX8_isPerson (x1 : Int32) (M : ow_M) : Option Int32 := (if x1 < 0 then some 0 else (if (M.1 34 5) ≤ x1 then some 0 else some 1))
set_option maxRecDepth 100000 in
set_option maxHeartbeats 4000000 in
theorem ctX8_isPerson (l : Launch) {x1 : Int32} {M : ow_M} {r : Int32}  (h : fX8_isPerson x1 M = some r) : ow_F l 0 yX8_isPerson cX8_isPerson 2 (some .boolean) [.ref 34, .int x1] M (some (.int r)) M := by
  unfold fX8_isPerson at h
  refine ow_enterO (own := RX8) rfl (by decide +kernel) rfl (ls := [some (.ref 34), some (.int x1)]) rfl ?_
  refine gw_iload1 dX8_isPerson_0 ?_
  refine gw_if_lt (tgt := 16) dX8_isPerson_1 rfl (fun h1 => ?_) (fun h1 => ?_)
  · replace h := (if_pos h1).symm.trans h
    refine gw_ic0 dX8_isPerson_16 ?_
    have hA := Option.some.inj h
    subst hA
    exact gw_zret (Or.inl rfl) dX8_isPerson_17 ⟨rfl, rfl⟩
  · replace h := (if_neg h1).symm.trans h
    refine gw_iload1 dX8_isPerson_4 ?_
    refine gw_aload0 dX8_isPerson_5 ?_
    refine gw_getI dX8_isPerson_6 fkX8_86 rfl rfl ?_
    refine gw_icmp_ge (tgt := 16) dX8_isPerson_9 rfl (fun h2 => ?_) (fun h2 => ?_)
    · replace h := (if_pos h2).symm.trans h
      refine gw_ic0 dX8_isPerson_16 ?_
      have hA := Option.some.inj h
      subst hA
      exact gw_zret (Or.inl rfl) dX8_isPerson_17 ⟨rfl, rfl⟩
    · replace h := (if_neg h2).symm.trans h
      refine gw_ic1 dX8_isPerson_12 ?_
      refine gw_goto (tgt := 17) rfl dX8_isPerson_13 ?_
      have hA := Option.some.inj h
      subst hA
      exact gw_zret (Or.inr rfl) dX8_isPerson_17 ⟨rfl, rfl⟩

def fX8_ofPerson (x1 : Int32) (x2 : Int32) (M : ow_M) : Option Int32 := Option.bind (fX8_isPerson x1 M) (fun v2 => (if v2 = 0 then some (-1) else (if x2 = 0 then if ow_inn x1 7 then some (M.1 38 x1.toNatClampNeg) else none else (if x2 = 1 then if ow_inn x1 7 then some (M.1 39 x1.toNatClampNeg) else none else (if x2 = 2 then if ow_inn x1 7 then some (M.1 40 x1.toNatClampNeg) else none else (if x2 = 3 then if ow_inn x1 7 then some (M.1 41 x1.toNatClampNeg) else none else some (-2)))))))
set_option maxRecDepth 100000 in
set_option maxHeartbeats 4000000 in
theorem ctX8_ofPerson (l : Launch) {x1 : Int32} {x2 : Int32} {M : ow_M} {r : Int32}  (h : fX8_ofPerson x1 x2 M = some r) : ow_F l 1 yX8_ofPerson cX8_ofPerson 3 (some .int) [.ref 34, .int x1, .int x2] M (some (.int r)) M := by
  unfold fX8_ofPerson at h
  refine ow_enterO (own := RX8) rfl (by decide +kernel) rfl (ls := [some (.ref 34), some (.int x1), some (.int x2)]) rfl ?_
  refine gw_aload0 dX8_ofPerson_0 ?_
  refine gw_iload1 dX8_ofPerson_1 ?_
  obtain ⟨v2, hc1, h⟩ := ow_b_some h
  refine gw_cVI1 dX8_ofPerson_2 lkX8_138 mkX8_isPerson (ow_rm_in rfl rfl) rfl rfl (ctX8_isPerson l hc1) rfl ?_
  refine gw_if_ne (tgt := 10) dX8_ofPerson_5 rfl (fun h3 => ?_) (fun h3 => ?_)
  · replace h := (if_neg h3).symm.trans h
    refine gw_iload2 dX8_ofPerson_10 ?_
    refine gw_if_ne (tgt := 23) dX8_ofPerson_11 rfl (fun h4 => ?_) (fun h4 => ?_)
    · replace h := (if_neg h4).symm.trans h
      refine gw_iload2 dX8_ofPerson_23 ?_
      refine gw_ic1 dX8_ofPerson_24 ?_
      refine gw_icmp_ne (tgt := 37) dX8_ofPerson_25 rfl (fun h5 => ?_) (fun h5 => ?_)
      · replace h := (if_neg h5).symm.trans h
        refine gw_iload2 dX8_ofPerson_37 ?_
        refine gw_ic2 dX8_ofPerson_38 ?_
        refine gw_icmp_ne (tgt := 51) dX8_ofPerson_39 rfl (fun h6 => ?_) (fun h6 => ?_)
        · replace h := (if_neg h6).symm.trans h
          refine gw_iload2 dX8_ofPerson_51 ?_
          refine gw_ic3 dX8_ofPerson_52 ?_
          refine gw_icmp_ne (tgt := 65) dX8_ofPerson_53 rfl (fun h7 => ?_) (fun h7 => ?_)
          · replace h := (if_neg h7).symm.trans h
            refine gw_bipush (-2) dX8_ofPerson_65 (by decide) ?_
            have hA := Option.some.inj h
            subst hA
            exact gw_iret dX8_ofPerson_67 ⟨rfl, rfl⟩
          · replace h := (if_pos h7).symm.trans h
            refine gw_aload0 dX8_ofPerson_56 ?_
            refine gw_getR dX8_ofPerson_57 fkX8_28 rfl rfl ?_
            refine gw_iload1 dX8_ofPerson_60 ?_
            by_cases h8 : ow_inn x1 7
            rotate_left
            · replace h := (if_neg h8).symm.trans h
              cases h
            replace h := (if_pos h8).symm.trans h
            refine gw_iald dX8_ofPerson_61 rfl h8 ?_
            refine gw_goto (tgt := 67) rfl dX8_ofPerson_62 ?_
            have hA := Option.some.inj h
            subst hA
            exact gw_iret dX8_ofPerson_67 ⟨rfl, rfl⟩
        · replace h := (if_pos h6).symm.trans h
          refine gw_aload0 dX8_ofPerson_42 ?_
          refine gw_getR dX8_ofPerson_43 fkX8_25 rfl rfl ?_
          refine gw_iload1 dX8_ofPerson_46 ?_
          by_cases h9 : ow_inn x1 7
          rotate_left
          · replace h := (if_neg h9).symm.trans h
            cases h
          replace h := (if_pos h9).symm.trans h
          refine gw_iald dX8_ofPerson_47 rfl h9 ?_
          refine gw_goto (tgt := 67) rfl dX8_ofPerson_48 ?_
          have hA := Option.some.inj h
          subst hA
          exact gw_iret dX8_ofPerson_67 ⟨rfl, rfl⟩
      · replace h := (if_pos h5).symm.trans h
        refine gw_aload0 dX8_ofPerson_28 ?_
        refine gw_getR dX8_ofPerson_29 fkX8_22 rfl rfl ?_
        refine gw_iload1 dX8_ofPerson_32 ?_
        by_cases h10 : ow_inn x1 7
        rotate_left
        · replace h := (if_neg h10).symm.trans h
          cases h
        replace h := (if_pos h10).symm.trans h
        refine gw_iald dX8_ofPerson_33 rfl h10 ?_
        refine gw_goto (tgt := 67) rfl dX8_ofPerson_34 ?_
        have hA := Option.some.inj h
        subst hA
        exact gw_iret dX8_ofPerson_67 ⟨rfl, rfl⟩
    · replace h := (if_pos h4).symm.trans h
      refine gw_aload0 dX8_ofPerson_14 ?_
      refine gw_getR dX8_ofPerson_15 fkX8_19 rfl rfl ?_
      refine gw_iload1 dX8_ofPerson_18 ?_
      by_cases h11 : ow_inn x1 7
      rotate_left
      · replace h := (if_neg h11).symm.trans h
        cases h
      replace h := (if_pos h11).symm.trans h
      refine gw_iald dX8_ofPerson_19 rfl h11 ?_
      refine gw_goto (tgt := 67) rfl dX8_ofPerson_20 ?_
      have hA := Option.some.inj h
      subst hA
      exact gw_iret dX8_ofPerson_67 ⟨rfl, rfl⟩
  · replace h := (if_pos h3).symm.trans h
    refine gw_icm1 dX8_ofPerson_8 ?_
    have hA := Option.some.inj h
    subst hA
    exact gw_iret dX8_ofPerson_9 ⟨rfl, rfl⟩

def fX8_edges  (M : ow_M) : Option Int32 := (if (M.1 34 6) = 0 then (if (M.1 34 5) = 0 then some 0 else some ((M.1 34 5) - 1)) else some (M.1 34 5))
set_option maxRecDepth 100000 in
set_option maxHeartbeats 4000000 in
theorem ctX8_edges (l : Launch)  {M : ow_M} {r : Int32}  (h : fX8_edges M = some r) : ow_F l 0 yX8_edges cX8_edges 1 (some .int) [.ref 34] M (some (.int r)) M := by
  unfold fX8_edges at h
  refine ow_enterO (own := RX8) rfl (by decide +kernel) rfl (ls := [some (.ref 34)]) rfl ?_
  refine gw_aload0 dX8_edges_0 ?_
  refine gw_getI dX8_edges_1 fkX8_89 rfl rfl ?_
  refine gw_if_eq (tgt := 14) dX8_edges_4 rfl (fun h1 => ?_) (fun h1 => ?_)
  · replace h := (if_pos h1).symm.trans h
    refine gw_aload0 dX8_edges_14 ?_
    refine gw_getI dX8_edges_15 fkX8_86 rfl rfl ?_
    refine gw_if_ne (tgt := 25) dX8_edges_18 rfl (fun h2 => ?_) (fun h2 => ?_)
    · replace h := (if_neg h2).symm.trans h
      refine gw_aload0 dX8_edges_25 ?_
      refine gw_getI dX8_edges_26 fkX8_86 rfl rfl ?_
      refine gw_ic1 dX8_edges_29 ?_
      refine gw_isub dX8_edges_30 ?_
      have hA := Option.some.inj h
      subst hA
      exact gw_iret dX8_edges_31 ⟨rfl, rfl⟩
    · replace h := (if_pos h2).symm.trans h
      refine gw_ic0 dX8_edges_21 ?_
      refine gw_goto (tgt := 31) rfl dX8_edges_22 ?_
      have hA := Option.some.inj h
      subst hA
      exact gw_iret dX8_edges_31 ⟨rfl, rfl⟩
  · replace h := (if_neg h1).symm.trans h
    refine gw_aload0 dX8_edges_7 ?_
    refine gw_getI dX8_edges_8 fkX8_86 rfl rfl ?_
    refine gw_goto (tgt := 31) rfl dX8_edges_11 ?_
    have hA := Option.some.inj h
    subst hA
    exact gw_iret dX8_edges_31 ⟨rfl, rfl⟩

def fX8_isEdge (x1 : Int32) (M : ow_M) : Option Int32 := (if x1 < 0 then some 0 else Option.bind (fX8_edges M) (fun v3 => (if v3 ≤ x1 then some 0 else some 1)))
set_option maxRecDepth 100000 in
set_option maxHeartbeats 4000000 in
theorem ctX8_isEdge (l : Launch) {x1 : Int32} {M : ow_M} {r : Int32}  (h : fX8_isEdge x1 M = some r) : ow_F l 1 yX8_isEdge cX8_isEdge 2 (some .boolean) [.ref 34, .int x1] M (some (.int r)) M := by
  unfold fX8_isEdge at h
  refine ow_enterO (own := RX8) rfl (by decide +kernel) rfl (ls := [some (.ref 34), some (.int x1)]) rfl ?_
  refine gw_iload1 dX8_isEdge_0 ?_
  refine gw_if_lt (tgt := 16) dX8_isEdge_1 rfl (fun h1 => ?_) (fun h1 => ?_)
  · replace h := (if_pos h1).symm.trans h
    refine gw_ic0 dX8_isEdge_16 ?_
    have hA := Option.some.inj h
    subst hA
    exact gw_zret (Or.inl rfl) dX8_isEdge_17 ⟨rfl, rfl⟩
  · replace h := (if_neg h1).symm.trans h
    refine gw_iload1 dX8_isEdge_4 ?_
    refine gw_aload0 dX8_isEdge_5 ?_
    obtain ⟨v3, hc2, h⟩ := ow_b_some h
    refine gw_cVI0 dX8_isEdge_6 lkX8_93 mkX8_edges (ow_rm_in rfl rfl) rfl rfl (ctX8_edges l hc2) rfl ?_
    refine gw_icmp_ge (tgt := 16) dX8_isEdge_9 rfl (fun h4 => ?_) (fun h4 => ?_)
    · replace h := (if_pos h4).symm.trans h
      refine gw_ic0 dX8_isEdge_16 ?_
      have hA := Option.some.inj h
      subst hA
      exact gw_zret (Or.inl rfl) dX8_isEdge_17 ⟨rfl, rfl⟩
    · replace h := (if_neg h4).symm.trans h
      refine gw_ic1 dX8_isEdge_12 ?_
      refine gw_goto (tgt := 17) rfl dX8_isEdge_13 ?_
      have hA := Option.some.inj h
      subst hA
      exact gw_zret (Or.inr rfl) dX8_isEdge_17 ⟨rfl, rfl⟩

def fX8_isOpen (x1 : Int32) (M : ow_M) : Option Int32 := (if (((M.1 34 7) >>> (x1 &&& 31)) &&& 1) = 0 then some 1 else some 0)
set_option maxRecDepth 100000 in
set_option maxHeartbeats 4000000 in
theorem ctX8_isOpen (l : Launch) {x1 : Int32} {M : ow_M} {r : Int32}  (h : fX8_isOpen x1 M = some r) : ow_F l 0 yX8_isOpen cX8_isOpen 2 (some .boolean) [.ref 34, .int x1] M (some (.int r)) M := by
  unfold fX8_isOpen at h
  refine ow_enterO (own := RX8) rfl (by decide +kernel) rfl (ls := [some (.ref 34), some (.int x1)]) rfl ?_
  refine gw_aload0 dX8_isOpen_0 ?_
  refine gw_getI dX8_isOpen_1 fkX8_97 rfl rfl ?_
  refine gw_iload1 dX8_isOpen_4 ?_
  refine gw_ishr dX8_isOpen_5 ?_
  refine gw_ic1 dX8_isOpen_6 ?_
  refine gw_iand dX8_isOpen_7 ?_
  refine gw_if_ne (tgt := 15) dX8_isOpen_8 rfl (fun h1 => ?_) (fun h1 => ?_)
  · replace h := (if_neg h1).symm.trans h
    refine gw_ic0 dX8_isOpen_15 ?_
    have hA := Option.some.inj h
    subst hA
    exact gw_zret (Or.inl rfl) dX8_isOpen_16 ⟨rfl, rfl⟩
  · replace h := (if_pos h1).symm.trans h
    refine gw_ic1 dX8_isOpen_11 ?_
    refine gw_goto (tgt := 16) rfl dX8_isOpen_12 ?_
    have hA := Option.some.inj h
    subst hA
    exact gw_zret (Or.inr rfl) dX8_isOpen_16 ⟨rfl, rfl⟩

def fX8_grudge (x1 : Int32) (x2 : Int32) (M : ow_M) : Option (Int32 × ow_M) := Option.bind (fX8_isEdge x1 M) (fun v2 => (if v2 = 0 then some ((-1), M) else Option.bind (fX8_isOpen x1 M) (fun v5 => (if v5 = x2 then some (1, (ow_up M 34 7 ((M.1 34 7) ^^^ (1 <<< (x1 &&& 31))))) else some (0, M)))))
set_option maxRecDepth 100000 in
set_option maxHeartbeats 4000000 in
theorem ctX8_grudge (l : Launch) {x1 : Int32} {x2 : Int32} {M : ow_M} {r : Int32} {M9 : ow_M}  (h : fX8_grudge x1 x2 M = some (r, M9)) : ow_F l 2 yX8_grudge cX8_grudge 3 (some .int) [.ref 34, .int x1, .int x2] M (some (.int r)) M9 := by
  unfold fX8_grudge at h
  refine ow_enterO (own := RX8) rfl (by decide +kernel) rfl (ls := [some (.ref 34), some (.int x1), some (.int x2)]) rfl ?_
  refine gw_aload0 dX8_grudge_0 ?_
  refine gw_iload1 dX8_grudge_1 ?_
  obtain ⟨v2, hc1, h⟩ := ow_b_some h
  refine gw_cVI1 dX8_grudge_2 lkX8_141 mkX8_isEdge (ow_rm_in rfl rfl) rfl rfl (ctX8_isEdge l hc1) rfl ?_
  refine gw_if_ne (tgt := 10) dX8_grudge_5 rfl (fun h3 => ?_) (fun h3 => ?_)
  · replace h := (if_neg h3).symm.trans h
    refine gw_aload0 dX8_grudge_10 ?_
    refine gw_iload1 dX8_grudge_11 ?_
    obtain ⟨v5, hc4, h⟩ := ow_b_some h
    refine gw_cVI1 dX8_grudge_12 lkX8_144 mkX8_isOpen (ow_rm_in rfl rfl) rfl rfl (ctX8_isOpen l hc4) rfl ?_
    refine gw_iload2 dX8_grudge_15 ?_
    refine gw_icmp_eq (tgt := 21) dX8_grudge_16 rfl (fun h6 => ?_) (fun h6 => ?_)
    · replace h := (if_pos h6).symm.trans h
      refine gw_aload0 dX8_grudge_21 ?_
      refine gw_dup rfl dX8_grudge_22 ?_
      refine gw_getI dX8_grudge_23 fkX8_97 rfl rfl ?_
      refine gw_ic1 dX8_grudge_26 ?_
      refine gw_iload1 dX8_grudge_27 ?_
      refine gw_ishl dX8_grudge_28 ?_
      refine gw_ixor dX8_grudge_29 ?_
      refine gw_putI dX8_grudge_30 fkX8_97 fp8_7 rfl rfl ?_
      refine gw_ic1 dX8_grudge_33 ?_
      obtain ⟨hA, hB⟩ := Prod.mk.inj (Option.some.inj h)
      subst hA
      subst hB
      exact gw_iret dX8_grudge_34 ⟨rfl, rfl⟩
    · replace h := (if_neg h6).symm.trans h
      refine gw_ic0 dX8_grudge_19 ?_
      obtain ⟨hA, hB⟩ := Prod.mk.inj (Option.some.inj h)
      subst hA
      subst hB
      exact gw_iret dX8_grudge_20 ⟨rfl, rfl⟩
  · replace h := (if_pos h3).symm.trans h
    refine gw_icm1 dX8_grudge_8 ?_
    obtain ⟨hA, hB⟩ := Prod.mk.inj (Option.some.inj h)
    subst hA
    subst hB
    exact gw_iret dX8_grudge_9 ⟨rfl, rfl⟩

def fX8_farEnd (x1 : Int32) (M : ow_M) : Option Int32 := (if (x1 + 1) = (M.1 34 5) then some 0 else some (x1 + 1))
set_option maxRecDepth 100000 in
set_option maxHeartbeats 4000000 in
theorem ctX8_farEnd (l : Launch) {x1 : Int32} {M : ow_M} {r : Int32}  (h : fX8_farEnd x1 M = some r) : ow_F l 0 yX8_farEnd cX8_farEnd 2 (some .int) [.ref 34, .int x1] M (some (.int r)) M := by
  unfold fX8_farEnd at h
  refine ow_enterO (own := RX8) rfl (by decide +kernel) rfl (ls := [some (.ref 34), some (.int x1)]) rfl ?_
  refine gw_iload1 dX8_farEnd_0 ?_
  refine gw_ic1 dX8_farEnd_1 ?_
  refine gw_iadd dX8_farEnd_2 ?_
  refine gw_aload0 dX8_farEnd_3 ?_
  refine gw_getI dX8_farEnd_4 fkX8_86 rfl rfl ?_
  refine gw_icmp_ne (tgt := 14) dX8_farEnd_7 rfl (fun h1 => ?_) (fun h1 => ?_)
  · replace h := (if_neg h1).symm.trans h
    refine gw_iload1 dX8_farEnd_14 ?_
    refine gw_ic1 dX8_farEnd_15 ?_
    refine gw_iadd dX8_farEnd_16 ?_
    have hA := Option.some.inj h
    subst hA
    exact gw_iret dX8_farEnd_17 ⟨rfl, rfl⟩
  · replace h := (if_pos h1).symm.trans h
    refine gw_ic0 dX8_farEnd_10 ?_
    refine gw_goto (tgt := 17) rfl dX8_farEnd_11 ?_
    have hA := Option.some.inj h
    subst hA
    exact gw_iret dX8_farEnd_17 ⟨rfl, rfl⟩

def fX8_hand (x1 : Int32) (M : ow_M) : Option (Int32 × ow_M) := Option.bind (fX8_isEdge x1 M) (fun v2 => (if v2 = 0 then some ((-1), M) else Option.bind (fX8_isOpen x1 M) (fun v5 => (if v5 = 0 then some ((-3), M) else if ow_inn x1 7 then Option.bind (fX8_farEnd x1 M) (fun v9 => if ow_inn v9 7 then if ow_inn x1 7 then Option.bind (fX8_farEnd x1 (ow_up M 40 x1.toNatClampNeg (M.1 40 v9.toNatClampNeg))) (fun v13 => if ow_inn v13 7 then some (1, (ow_up (ow_up M 40 x1.toNatClampNeg (M.1 40 v9.toNatClampNeg)) 40 v13.toNatClampNeg (M.1 40 x1.toNatClampNeg))) else none) else none else none) else none))))
set_option maxRecDepth 100000 in
set_option maxHeartbeats 4000000 in
theorem ctX8_hand (l : Launch) {x1 : Int32} {M : ow_M} {r : Int32} {M9 : ow_M}  (h : fX8_hand x1 M = some (r, M9)) : ow_F l 2 yX8_hand cX8_hand 3 (some .int) [.ref 34, .int x1] M (some (.int r)) M9 := by
  unfold fX8_hand at h
  refine ow_enterO (own := RX8) rfl (by decide +kernel) rfl (ls := [some (.ref 34), some (.int x1), none]) rfl ?_
  refine gw_aload0 dX8_hand_0 ?_
  refine gw_iload1 dX8_hand_1 ?_
  obtain ⟨v2, hc1, h⟩ := ow_b_some h
  refine gw_cVI1 dX8_hand_2 lkX8_141 mkX8_isEdge (ow_rm_in rfl rfl) rfl rfl (ctX8_isEdge l hc1) rfl ?_
  refine gw_if_ne (tgt := 10) dX8_hand_5 rfl (fun h3 => ?_) (fun h3 => ?_)
  · replace h := (if_neg h3).symm.trans h
    refine gw_aload0 dX8_hand_10 ?_
    refine gw_iload1 dX8_hand_11 ?_
    obtain ⟨v5, hc4, h⟩ := ow_b_some h
    refine gw_cVI1 dX8_hand_12 lkX8_144 mkX8_isOpen (ow_rm_in rfl rfl) rfl rfl (ctX8_isOpen l hc4) rfl ?_
    refine gw_if_ne (tgt := 21) dX8_hand_15 rfl (fun h6 => ?_) (fun h6 => ?_)
    · replace h := (if_neg h6).symm.trans h
      refine gw_aload0 dX8_hand_21 ?_
      refine gw_getR dX8_hand_22 fkX8_25 rfl rfl ?_
      refine gw_iload1 dX8_hand_25 ?_
      by_cases h7 : ow_inn x1 7
      rotate_left
      · replace h := (if_neg h7).symm.trans h
        cases h
      replace h := (if_pos h7).symm.trans h
      refine gw_iald dX8_hand_26 rfl h7 ?_
      refine gw_istore2 dX8_hand_27 (by decide) rfl ?_
      refine gw_aload0 dX8_hand_28 ?_
      refine gw_getR dX8_hand_29 fkX8_25 rfl rfl ?_
      refine gw_iload1 dX8_hand_32 ?_
      refine gw_aload0 dX8_hand_33 ?_
      refine gw_getR dX8_hand_34 fkX8_25 rfl rfl ?_
      refine gw_aload0 dX8_hand_37 ?_
      refine gw_iload1 dX8_hand_38 ?_
      obtain ⟨v9, hc8, h⟩ := ow_b_some h
      refine gw_cVI1 dX8_hand_39 lkX8_147 mkX8_farEnd (ow_rm_in rfl rfl) rfl rfl (ctX8_farEnd l hc8) rfl ?_
      by_cases h10 : ow_inn v9 7
      rotate_left
      · replace h := (if_neg h10).symm.trans h
        cases h
      replace h := (if_pos h10).symm.trans h
      refine gw_iald dX8_hand_42 rfl h10 ?_
      by_cases h11 : ow_inn x1 7
      rotate_left
      · replace h := (if_neg h11).symm.trans h
        cases h
      replace h := (if_pos h11).symm.trans h
      refine gw_iast dX8_hand_43 rfl h11 ?_
      refine gw_aload0 dX8_hand_44 ?_
      refine gw_getR dX8_hand_45 fkX8_25 rfl rfl ?_
      refine gw_aload0 dX8_hand_48 ?_
      refine gw_iload1 dX8_hand_49 ?_
      obtain ⟨v13, hc12, h⟩ := ow_b_some h
      refine gw_cVI1 dX8_hand_50 lkX8_147 mkX8_farEnd (ow_rm_in rfl rfl) rfl rfl (ctX8_farEnd l hc12) rfl ?_
      refine gw_iload2 dX8_hand_53 ?_
      by_cases h14 : ow_inn v13 7
      rotate_left
      · replace h := (if_neg h14).symm.trans h
        cases h
      replace h := (if_pos h14).symm.trans h
      refine gw_iast dX8_hand_54 rfl h14 ?_
      refine gw_ic1 dX8_hand_55 ?_
      obtain ⟨hA, hB⟩ := Prod.mk.inj (Option.some.inj h)
      subst hA
      subst hB
      exact gw_iret dX8_hand_56 ⟨rfl, rfl⟩
    · replace h := (if_pos h6).symm.trans h
      refine gw_bipush (-3) dX8_hand_18 (by decide) ?_
      obtain ⟨hA, hB⟩ := Prod.mk.inj (Option.some.inj h)
      subst hA
      subst hB
      exact gw_iret dX8_hand_20 ⟨rfl, rfl⟩
  · replace h := (if_pos h3).symm.trans h
    refine gw_icm1 dX8_hand_8 ?_
    obtain ⟨hA, hB⟩ := Prod.mk.inj (Option.some.inj h)
    subst hA
    subst hB
    exact gw_iret dX8_hand_9 ⟨rfl, rfl⟩

def fX8_wish (x1 : Int32) (x2 : Int32) (M : ow_M) : Option (Int32 × ow_M) := Option.bind (fX8_isPerson x1 M) (fun v2 => (if v2 = 0 then some ((-1), M) else Option.bind (fX8_within x2 0 3) (fun v5 => (if v5 = 0 then some ((-2), M) else if ow_inn x1 7 then if ow_inn x1 7 then some ((M.1 41 x1.toNatClampNeg), (ow_up M 41 x1.toNatClampNeg x2)) else none else none))))
set_option maxRecDepth 100000 in
set_option maxHeartbeats 4000000 in
theorem ctX8_wish (l : Launch) {x1 : Int32} {x2 : Int32} {M : ow_M} {r : Int32} {M9 : ow_M}  (h : fX8_wish x1 x2 M = some (r, M9)) : ow_F l 1 yX8_wish cX8_wish 4 (some .int) [.ref 34, .int x1, .int x2] M (some (.int r)) M9 := by
  unfold fX8_wish at h
  refine ow_enterO (own := RX8) rfl (by decide +kernel) rfl (ls := [some (.ref 34), some (.int x1), some (.int x2), none]) rfl ?_
  refine gw_aload0 dX8_wish_0 ?_
  refine gw_iload1 dX8_wish_1 ?_
  obtain ⟨v2, hc1, h⟩ := ow_b_some h
  refine gw_cVI1 dX8_wish_2 lkX8_138 mkX8_isPerson (ow_rm_in rfl rfl) rfl rfl (ctX8_isPerson l hc1) rfl ?_
  refine gw_if_ne (tgt := 10) dX8_wish_5 rfl (fun h3 => ?_) (fun h3 => ?_)
  · replace h := (if_neg h3).symm.trans h
    refine gw_iload2 dX8_wish_10 ?_
    refine gw_ic0 dX8_wish_11 ?_
    refine gw_ic3 dX8_wish_12 ?_
    obtain ⟨v5, hc4, h⟩ := ow_b_some h
    refine gw_cSI3 dX8_wish_13 lkX8_82 mkX8_within (ow_rm_in rfl rfl) (ctX8_within l hc4) rfl ?_
    refine gw_if_ne (tgt := 22) dX8_wish_16 rfl (fun h6 => ?_) (fun h6 => ?_)
    · replace h := (if_neg h6).symm.trans h
      refine gw_aload0 dX8_wish_22 ?_
      refine gw_getR dX8_wish_23 fkX8_28 rfl rfl ?_
      refine gw_iload1 dX8_wish_26 ?_
      by_cases h7 : ow_inn x1 7
      rotate_left
      · replace h := (if_neg h7).symm.trans h
        cases h
      replace h := (if_pos h7).symm.trans h
      refine gw_iald dX8_wish_27 rfl h7 ?_
      refine gw_istore3 dX8_wish_28 (by decide) rfl ?_
      refine gw_aload0 dX8_wish_29 ?_
      refine gw_getR dX8_wish_30 fkX8_28 rfl rfl ?_
      refine gw_iload1 dX8_wish_33 ?_
      refine gw_iload2 dX8_wish_34 ?_
      by_cases h8 : ow_inn x1 7
      rotate_left
      · replace h := (if_neg h8).symm.trans h
        cases h
      replace h := (if_pos h8).symm.trans h
      refine gw_iast dX8_wish_35 rfl h8 ?_
      refine gw_iload3 dX8_wish_36 ?_
      obtain ⟨hA, hB⟩ := Prod.mk.inj (Option.some.inj h)
      subst hA
      subst hB
      exact gw_iret dX8_wish_37 ⟨rfl, rfl⟩
    · replace h := (if_pos h6).symm.trans h
      refine gw_bipush (-2) dX8_wish_19 (by decide) ?_
      obtain ⟨hA, hB⟩ := Prod.mk.inj (Option.some.inj h)
      subst hA
      subst hB
      exact gw_iret dX8_wish_21 ⟨rfl, rfl⟩
  · replace h := (if_pos h3).symm.trans h
    refine gw_icm1 dX8_wish_8 ?_
    obtain ⟨hA, hB⟩ := Prod.mk.inj (Option.some.inj h)
    subst hA
    subst hB
    exact gw_iret dX8_wish_9 ⟨rfl, rfl⟩

def fX8_isNumber (x0 : Int32) : Option Int32 := Option.bind (fX8_within x0 0 99) (fun v2 => if v2 = 0 ∨ v2 = 1 then some v2 else none)
set_option maxRecDepth 100000 in
set_option maxHeartbeats 4000000 in
theorem ctX8_isNumber (l : Launch) {x0 : Int32} {M : ow_M} {r : Int32}  (h : fX8_isNumber x0 = some r) : ow_F l 1 yX8_isNumber cX8_isNumber 1 (some .boolean) [.int x0] M (some (.int r)) M := by
  unfold fX8_isNumber at h
  refine ow_enterO (own := RX8) rfl (by decide +kernel) rfl (ls := [some (.int x0)]) rfl ?_
  refine gw_iload0 dX8_isNumber_0 ?_
  refine gw_ic0 dX8_isNumber_1 ?_
  refine gw_bipush 99 dX8_isNumber_2 (by decide) ?_
  obtain ⟨v2, hc1, h⟩ := ow_b_some h
  refine gw_cSI3 dX8_isNumber_4 lkX8_82 mkX8_within (ow_rm_in rfl rfl) (ctX8_within l hc1) rfl ?_
  by_cases h3 : v2 = 0 ∨ v2 = 1
  rotate_left
  · replace h := (if_neg h3).symm.trans h
    cases h
  replace h := (if_pos h3).symm.trans h
  have hA := Option.some.inj h
  subst hA
  exact gw_zret h3 dX8_isNumber_7 ⟨rfl, rfl⟩

def jX8_isBeside_43 (x1 : Int32) (x2 : Int32) (x3 : Int32) (s0 : Int32) (kb : Int32 → Option Int32) (k : Int32 → Option Int32) (M : ow_M) : Option Int32 := (if s0 = 0 then kb (x3 + 1) else Option.bind (fX8_isOpen x3 M) (fun v8 => (if v8 = 0 then kb (x3 + 1) else some 1)))
set_option maxRecDepth 100000 in
set_option maxHeartbeats 4000000 in
theorem tjX8_isBeside_43 (l : Launch) {x1 : Int32} {x2 : Int32} {x3 : Int32} {s0 : Int32} {kb : Int32 → Option Int32} {k : Int32 → Option Int32} {M : ow_M} {r : Int32}  (hkb : ∀ (z3 : Int32), kb z3 = some r → ow_G (ow_Γ l 1 (some .boolean) (ow_is (some (.int r)) M)) RX8 cX8_isBeside 5 2 [some (.ref 34), some (.int x1), some (.int x2), some (.int z3), none] [] M) (hk : ∀ (z3 : Int32), k z3 = some r → ow_G (ow_Γ l 1 (some .boolean) (ow_is (some (.int r)) M)) RX8 cX8_isBeside 5 66 [some (.ref 34), some (.int x1), some (.int x2), some (.int z3), none] [] M) (h : jX8_isBeside_43 x1 x2 x3 s0 kb k M = some r) : ow_G (ow_Γ l 1 (some .boolean) (ow_is (some (.int r)) M)) RX8 cX8_isBeside 5 43 [some (.ref 34), some (.int x1), some (.int x2), some (.int x3), none] [.int s0] M := by
  unfold jX8_isBeside_43 at h
  refine gw_istore4 dX8_isBeside_43 (by decide) rfl ?_
  refine gw_iload4 dX8_isBeside_45 ?_
  refine gw_if_eq (tgt := 60) dX8_isBeside_47 rfl (fun h6 => ?_) (fun h6 => ?_)
  · replace h := (if_pos h6).symm.trans h
    refine gw_iinc3 1 dX8_isBeside_60 (by decide) rfl (by decide) ?_
    refine gw_goto (tgt := 2) rfl dX8_isBeside_63 ?_
    refine gw_drp4 ?_
    exact hkb _ h
  · replace h := (if_neg h6).symm.trans h
    refine gw_aload0 dX8_isBeside_50 ?_
    refine gw_iload3 dX8_isBeside_51 ?_
    obtain ⟨v8, hc7, h⟩ := ow_b_some h
    refine gw_cVI1 dX8_isBeside_52 lkX8_144 mkX8_isOpen (ow_rm_in rfl rfl) rfl rfl (ctX8_isOpen l hc7) rfl ?_
    refine gw_if_eq (tgt := 60) dX8_isBeside_55 rfl (fun h9 => ?_) (fun h9 => ?_)
    · replace h := (if_pos h9).symm.trans h
      refine gw_iinc3 1 dX8_isBeside_60 (by decide) rfl (by decide) ?_
      refine gw_goto (tgt := 2) rfl dX8_isBeside_63 ?_
      refine gw_drp4 ?_
      exact hkb _ h
    · replace h := (if_neg h9).symm.trans h
      refine gw_ic1 dX8_isBeside_58 ?_
      have hA := Option.some.inj h
      subst hA
      exact gw_zret (Or.inr rfl) dX8_isBeside_59 ⟨rfl, rfl⟩

def jX8_isBeside_42 (x1 : Int32) (x2 : Int32) (x3 : Int32) (kb : Int32 → Option Int32) (k : Int32 → Option Int32) (M : ow_M) : Option Int32 := jX8_isBeside_43 x1 x2 x3 0 (kb) k M
set_option maxRecDepth 100000 in
set_option maxHeartbeats 4000000 in
theorem tjX8_isBeside_42 (l : Launch) {x1 : Int32} {x2 : Int32} {x3 : Int32} {kb : Int32 → Option Int32} {k : Int32 → Option Int32} {M : ow_M} {r : Int32}  (hkb : ∀ (z3 : Int32), kb z3 = some r → ow_G (ow_Γ l 1 (some .boolean) (ow_is (some (.int r)) M)) RX8 cX8_isBeside 5 2 [some (.ref 34), some (.int x1), some (.int x2), some (.int z3), none] [] M) (hk : ∀ (z3 : Int32), k z3 = some r → ow_G (ow_Γ l 1 (some .boolean) (ow_is (some (.int r)) M)) RX8 cX8_isBeside 5 66 [some (.ref 34), some (.int x1), some (.int x2), some (.int z3), none] [] M) (h : jX8_isBeside_42 x1 x2 x3 kb k M = some r) : ow_G (ow_Γ l 1 (some .boolean) (ow_is (some (.int r)) M)) RX8 cX8_isBeside 5 42 [some (.ref 34), some (.int x1), some (.int x2), some (.int x3), none] [] M := by
  unfold jX8_isBeside_42 at h
  refine gw_ic0 dX8_isBeside_42 ?_
  exact tjX8_isBeside_43 l hkb hk h

def jX8_isBeside_38 (x1 : Int32) (x2 : Int32) (x3 : Int32) (kb : Int32 → Option Int32) (k : Int32 → Option Int32) (M : ow_M) : Option Int32 := jX8_isBeside_43 x1 x2 x3 1 (kb) k M
set_option maxRecDepth 100000 in
set_option maxHeartbeats 4000000 in
theorem tjX8_isBeside_38 (l : Launch) {x1 : Int32} {x2 : Int32} {x3 : Int32} {kb : Int32 → Option Int32} {k : Int32 → Option Int32} {M : ow_M} {r : Int32}  (hkb : ∀ (z3 : Int32), kb z3 = some r → ow_G (ow_Γ l 1 (some .boolean) (ow_is (some (.int r)) M)) RX8 cX8_isBeside 5 2 [some (.ref 34), some (.int x1), some (.int x2), some (.int z3), none] [] M) (hk : ∀ (z3 : Int32), k z3 = some r → ow_G (ow_Γ l 1 (some .boolean) (ow_is (some (.int r)) M)) RX8 cX8_isBeside 5 66 [some (.ref 34), some (.int x1), some (.int x2), some (.int z3), none] [] M) (h : jX8_isBeside_38 x1 x2 x3 kb k M = some r) : ow_G (ow_Γ l 1 (some .boolean) (ow_is (some (.int r)) M)) RX8 cX8_isBeside 5 38 [some (.ref 34), some (.int x1), some (.int x2), some (.int x3), none] [] M := by
  unfold jX8_isBeside_38 at h
  refine gw_ic1 dX8_isBeside_38 ?_
  refine gw_goto (tgt := 43) rfl dX8_isBeside_39 ?_
  exact tjX8_isBeside_43 l hkb hk h

def jX8_isBeside_24 (x1 : Int32) (x2 : Int32) (x3 : Int32) (kb : Int32 → Option Int32) (k : Int32 → Option Int32) (M : ow_M) : Option Int32 := (if x3 = x2 then Option.bind (fX8_farEnd x3 M) (fun v11 => (if v11 = x1 then jX8_isBeside_38 x1 x2 x3 (kb) k M else jX8_isBeside_42 x1 x2 x3 (kb) k M)) else jX8_isBeside_42 x1 x2 x3 (kb) k M)
set_option maxRecDepth 100000 in
set_option maxHeartbeats 4000000 in
theorem tjX8_isBeside_24 (l : Launch) {x1 : Int32} {x2 : Int32} {x3 : Int32} {kb : Int32 → Option Int32} {k : Int32 → Option Int32} {M : ow_M} {r : Int32}  (hkb : ∀ (z3 : Int32), kb z3 = some r → ow_G (ow_Γ l 1 (some .boolean) (ow_is (some (.int r)) M)) RX8 cX8_isBeside 5 2 [some (.ref 34), some (.int x1), some (.int x2), some (.int z3), none] [] M) (hk : ∀ (z3 : Int32), k z3 = some r → ow_G (ow_Γ l 1 (some .boolean) (ow_is (some (.int r)) M)) RX8 cX8_isBeside 5 66 [some (.ref 34), some (.int x1), some (.int x2), some (.int z3), none] [] M) (h : jX8_isBeside_24 x1 x2 x3 kb k M = some r) : ow_G (ow_Γ l 1 (some .boolean) (ow_is (some (.int r)) M)) RX8 cX8_isBeside 5 24 [some (.ref 34), some (.int x1), some (.int x2), some (.int x3), none] [] M := by
  unfold jX8_isBeside_24 at h
  refine gw_iload3 dX8_isBeside_24 ?_
  refine gw_iload2 dX8_isBeside_25 ?_
  refine gw_icmp_ne (tgt := 42) dX8_isBeside_26 rfl (fun h5 => ?_) (fun h5 => ?_)
  · replace h := (if_neg h5).symm.trans h
    exact tjX8_isBeside_42 l hkb hk h
  · replace h := (if_pos h5).symm.trans h
    refine gw_aload0 dX8_isBeside_29 ?_
    refine gw_iload3 dX8_isBeside_30 ?_
    obtain ⟨v11, hc10, h⟩ := ow_b_some h
    refine gw_cVI1 dX8_isBeside_31 lkX8_147 mkX8_farEnd (ow_rm_in rfl rfl) rfl rfl (ctX8_farEnd l hc10) rfl ?_
    refine gw_iload1 dX8_isBeside_34 ?_
    refine gw_icmp_ne (tgt := 42) dX8_isBeside_35 rfl (fun h12 => ?_) (fun h12 => ?_)
    · replace h := (if_neg h12).symm.trans h
      exact tjX8_isBeside_42 l hkb hk h
    · replace h := (if_pos h12).symm.trans h
      exact tjX8_isBeside_38 l hkb hk h

def lpX8_isBeside_2 (x1 : Int32) (x2 : Int32) (M : ow_M) (k : Int32 → Option Int32) : Nat → Int32 → Option Int32
  | 0, _ => none
  | n + 1, x3 => Option.bind (fX8_edges M) (fun v2 => (if v2 ≤ x3 then k x3 else (if x3 = x1 then Option.bind (fX8_farEnd x3 M) (fun v14 => (if v14 = x2 then jX8_isBeside_38 x1 x2 x3 (lpX8_isBeside_2 x1 x2 M k n) k M else jX8_isBeside_24 x1 x2 x3 (lpX8_isBeside_2 x1 x2 M k n) k M)) else jX8_isBeside_24 x1 x2 x3 (lpX8_isBeside_2 x1 x2 M k n) k M)))
set_option maxRecDepth 100000 in
set_option maxHeartbeats 4000000 in
theorem tlpX8_isBeside_2 (l : Launch) {x1 : Int32} {x2 : Int32} {M : ow_M} {k : Int32 → Option Int32} {r : Int32}  (hk : ∀ (x3 : Int32), k x3 = some r → ow_G (ow_Γ l 1 (some .boolean) (ow_is (some (.int r)) M)) RX8 cX8_isBeside 5 66 [some (.ref 34), some (.int x1), some (.int x2), some (.int x3), none] [] M) : ∀ (n : Nat) (x3 : Int32), lpX8_isBeside_2 x1 x2 M k n x3 = some r → ow_G (ow_Γ l 1 (some .boolean) (ow_is (some (.int r)) M)) RX8 cX8_isBeside 5 2 [some (.ref 34), some (.int x1), some (.int x2), some (.int x3), none] [] M := by
  intro n
  induction n with
  | zero => intro _ h; cases h
  | succ n ih =>
    intro x3 h
    unfold lpX8_isBeside_2 at h
    refine gw_iload3 dX8_isBeside_2 ?_
    refine gw_aload0 dX8_isBeside_3 ?_
    obtain ⟨v2, hc1, h⟩ := ow_b_some h
    refine gw_cVI0 dX8_isBeside_4 lkX8_93 mkX8_edges (ow_rm_in rfl rfl) rfl rfl (ctX8_edges l hc1) rfl ?_
    refine gw_icmp_ge (tgt := 66) dX8_isBeside_7 rfl (fun h3 => ?_) (fun h3 => ?_)
    · replace h := (if_pos h3).symm.trans h
      exact hk _ h
    · replace h := (if_neg h3).symm.trans h
      refine gw_iload3 dX8_isBeside_10 ?_
      refine gw_iload1 dX8_isBeside_11 ?_
      refine gw_icmp_ne (tgt := 24) dX8_isBeside_12 rfl (fun h4 => ?_) (fun h4 => ?_)
      · replace h := (if_neg h4).symm.trans h
        exact tjX8_isBeside_24 l ih hk h
      · replace h := (if_pos h4).symm.trans h
        refine gw_aload0 dX8_isBeside_15 ?_
        refine gw_iload3 dX8_isBeside_16 ?_
        obtain ⟨v14, hc13, h⟩ := ow_b_some h
        refine gw_cVI1 dX8_isBeside_17 lkX8_147 mkX8_farEnd (ow_rm_in rfl rfl) rfl rfl (ctX8_farEnd l hc13) rfl ?_
        refine gw_iload2 dX8_isBeside_20 ?_
        refine gw_icmp_eq (tgt := 38) dX8_isBeside_21 rfl (fun h15 => ?_) (fun h15 => ?_)
        · replace h := (if_pos h15).symm.trans h
          exact tjX8_isBeside_38 l ih hk h
        · replace h := (if_neg h15).symm.trans h
          exact tjX8_isBeside_24 l ih hk h

def fX8_isBeside (x1 : Int32) (x2 : Int32) (M : ow_M) : Option Int32 := lpX8_isBeside_2 x1 x2 M (fun u16 => some 0) ow_N 0
set_option maxRecDepth 100000 in
set_option maxHeartbeats 4000000 in
theorem ctX8_isBeside (l : Launch) {x1 : Int32} {x2 : Int32} {M : ow_M} {r : Int32}  (h : fX8_isBeside x1 x2 M = some r) : ow_F l 1 yX8_isBeside cX8_isBeside 5 (some .boolean) [.ref 34, .int x1, .int x2] M (some (.int r)) M := by
  unfold fX8_isBeside at h
  refine ow_enterO (own := RX8) rfl (by decide +kernel) rfl (ls := [some (.ref 34), some (.int x1), some (.int x2), none, none]) rfl ?_
  refine gw_ic0 dX8_isBeside_0 ?_
  refine gw_istore3 dX8_isBeside_1 (by decide) rfl ?_
  refine tlpX8_isBeside_2 l ?_ _ _ h
  intro u16 h
  refine gw_ic0 dX8_isBeside_66 ?_
  have hA := Option.some.inj h
  subst hA
  exact gw_zret (Or.inl rfl) dX8_isBeside_67 ⟨rfl, rfl⟩

def fX8_altered (x1 : Int32) (x2 : Int32) (M : ow_M) : Option Int32 := if ow_inn x1 7 then (if (M.1 38 x1.toNatClampNeg) = 0 then some x2 else if ow_inn x1 7 then if ow_inn x1 7 then (if (M.1 38 x1.toNatClampNeg) = 1 then some ((x2 + (M.1 39 x1.toNatClampNeg)) - (x2 + (M.1 39 x1.toNatClampNeg)) / 100 * 100) else some ((2 * ((x2 + (M.1 39 x1.toNatClampNeg)) - (x2 + (M.1 39 x1.toNatClampNeg)) / 100 * 100)) - (2 * ((x2 + (M.1 39 x1.toNatClampNeg)) - (x2 + (M.1 39 x1.toNatClampNeg)) / 100 * 100)) / 100 * 100)) else none else none) else none
set_option maxRecDepth 100000 in
set_option maxHeartbeats 4000000 in
theorem ctX8_altered (l : Launch) {x1 : Int32} {x2 : Int32} {M : ow_M} {r : Int32}  (h : fX8_altered x1 x2 M = some r) : ow_F l 0 yX8_altered cX8_altered 4 (some .int) [.ref 34, .int x1, .int x2] M (some (.int r)) M := by
  unfold fX8_altered at h
  refine ow_enterO (own := RX8) rfl (by decide +kernel) rfl (ls := [some (.ref 34), some (.int x1), some (.int x2), none]) rfl ?_
  refine gw_aload0 dX8_altered_0 ?_
  refine gw_getR dX8_altered_1 fkX8_19 rfl rfl ?_
  refine gw_iload1 dX8_altered_4 ?_
  by_cases h1 : ow_inn x1 7
  rotate_left
  · replace h := (if_neg h1).symm.trans h
    cases h
  replace h := (if_pos h1).symm.trans h
  refine gw_iald dX8_altered_5 rfl h1 ?_
  refine gw_if_ne (tgt := 11) dX8_altered_6 rfl (fun h2 => ?_) (fun h2 => ?_)
  · replace h := (if_neg h2).symm.trans h
    refine gw_iload2 dX8_altered_11 ?_
    refine gw_aload0 dX8_altered_12 ?_
    refine gw_getR dX8_altered_13 fkX8_22 rfl rfl ?_
    refine gw_iload1 dX8_altered_16 ?_
    by_cases h3 : ow_inn x1 7
    rotate_left
    · replace h := (if_neg h3).symm.trans h
      cases h
    replace h := (if_pos h3).symm.trans h
    refine gw_iald dX8_altered_17 rfl h3 ?_
    refine gw_iadd dX8_altered_18 ?_
    refine gw_bipush 100 dX8_altered_19 (by decide) ?_
    refine gw_irem (by decide) dX8_altered_21 ?_
    refine gw_istore3 dX8_altered_22 (by decide) rfl ?_
    refine gw_aload0 dX8_altered_23 ?_
    refine gw_getR dX8_altered_24 fkX8_19 rfl rfl ?_
    refine gw_iload1 dX8_altered_27 ?_
    by_cases h4 : ow_inn x1 7
    rotate_left
    · replace h := (if_neg h4).symm.trans h
      cases h
    replace h := (if_pos h4).symm.trans h
    refine gw_iald dX8_altered_28 rfl h4 ?_
    refine gw_ic1 dX8_altered_29 ?_
    refine gw_icmp_ne (tgt := 37) dX8_altered_30 rfl (fun h5 => ?_) (fun h5 => ?_)
    · replace h := (if_neg h5).symm.trans h
      refine gw_ic2 dX8_altered_37 ?_
      refine gw_iload3 dX8_altered_38 ?_
      refine gw_imul dX8_altered_39 ?_
      refine gw_bipush 100 dX8_altered_40 (by decide) ?_
      refine gw_irem (by decide) dX8_altered_42 ?_
      have hA := Option.some.inj h
      subst hA
      exact gw_iret dX8_altered_43 ⟨rfl, rfl⟩
    · replace h := (if_pos h5).symm.trans h
      refine gw_iload3 dX8_altered_33 ?_
      refine gw_goto (tgt := 43) rfl dX8_altered_34 ?_
      have hA := Option.some.inj h
      subst hA
      exact gw_iret dX8_altered_43 ⟨rfl, rfl⟩
  · replace h := (if_pos h2).symm.trans h
    refine gw_iload2 dX8_altered_9 ?_
    have hA := Option.some.inj h
    subst hA
    exact gw_iret dX8_altered_10 ⟨rfl, rfl⟩

def fX8_pass (x1 : Int32) (x2 : Int32) (x3 : Int32) (x4 : Int32) (M : ow_M) : Option ow_M := if ow_inn x1 7 then (if (M.1 47 x1.toNatClampNeg) = (x3 - 1) then if ow_inn x2 7 then (if (M.1 47 x2.toNatClampNeg) = (-9) then if ow_inn x2 7 then (if x1 = x4 then if ow_inn x1 7 then if ow_inn x2 7 then some (ow_up (ow_up M 47 x2.toNatClampNeg x3) 46 x2.toNatClampNeg ((ow_up M 47 x2.toNatClampNeg x3).1 46 x1.toNatClampNeg)) else none else none else if ow_inn x1 7 then Option.bind (fX8_altered x1 ((ow_up M 47 x2.toNatClampNeg x3).1 46 x1.toNatClampNeg) (ow_up M 47 x2.toNatClampNeg x3)) (fun v9 => if ow_inn x2 7 then some (ow_up (ow_up M 47 x2.toNatClampNeg x3) 46 x2.toNatClampNeg v9) else none) else none) else none else some M) else none else some M) else none
set_option maxRecDepth 100000 in
set_option maxHeartbeats 4000000 in
theorem ctX8_pass (l : Launch) {x1 : Int32} {x2 : Int32} {x3 : Int32} {x4 : Int32} {M : ow_M} {M9 : ow_M}  (h : fX8_pass x1 x2 x3 x4 M = some M9) : ow_F l 1 yX8_pass cX8_pass 5 none [.ref 34, .int x1, .int x2, .int x3, .int x4] M none M9 := by
  unfold fX8_pass at h
  refine ow_enterO (own := RX8) rfl (by decide +kernel) rfl (ls := [some (.ref 34), some (.int x1), some (.int x2), some (.int x3), some (.int x4)]) rfl ?_
  refine gw_aload0 dX8_pass_0 ?_
  refine gw_getR dX8_pass_1 fkX8_46 rfl rfl ?_
  refine gw_iload1 dX8_pass_4 ?_
  by_cases h1 : ow_inn x1 7
  rotate_left
  · replace h := (if_neg h1).symm.trans h
    cases h
  replace h := (if_pos h1).symm.trans h
  refine gw_iald dX8_pass_5 rfl h1 ?_
  refine gw_iload3 dX8_pass_6 ?_
  refine gw_ic1 dX8_pass_7 ?_
  refine gw_isub dX8_pass_8 ?_
  refine gw_icmp_ne (tgt := 62) dX8_pass_9 rfl (fun h2 => ?_) (fun h2 => ?_)
  · replace h := (if_neg h2).symm.trans h
    have hA := Option.some.inj h
    subst hA
    exact gw_vret dX8_pass_62 ⟨rfl, rfl⟩
  · replace h := (if_pos h2).symm.trans h
    refine gw_aload0 dX8_pass_12 ?_
    refine gw_getR dX8_pass_13 fkX8_46 rfl rfl ?_
    refine gw_iload2 dX8_pass_16 ?_
    by_cases h3 : ow_inn x2 7
    rotate_left
    · replace h := (if_neg h3).symm.trans h
      cases h
    replace h := (if_pos h3).symm.trans h
    refine gw_iald dX8_pass_17 rfl h3 ?_
    refine gw_bipush (-9) dX8_pass_18 (by decide) ?_
    refine gw_icmp_ne (tgt := 62) dX8_pass_20 rfl (fun h4 => ?_) (fun h4 => ?_)
    · replace h := (if_neg h4).symm.trans h
      have hA := Option.some.inj h
      subst hA
      exact gw_vret dX8_pass_62 ⟨rfl, rfl⟩
    · replace h := (if_pos h4).symm.trans h
      refine gw_aload0 dX8_pass_23 ?_
      refine gw_getR dX8_pass_24 fkX8_46 rfl rfl ?_
      refine gw_iload2 dX8_pass_27 ?_
      refine gw_iload3 dX8_pass_28 ?_
      by_cases h5 : ow_inn x2 7
      rotate_left
      · replace h := (if_neg h5).symm.trans h
        cases h
      replace h := (if_pos h5).symm.trans h
      refine gw_iast dX8_pass_29 rfl h5 ?_
      refine gw_aload0 dX8_pass_30 ?_
      refine gw_getR dX8_pass_31 fkX8_43 rfl rfl ?_
      refine gw_iload2 dX8_pass_34 ?_
      refine gw_iload1 dX8_pass_35 ?_
      refine gw_iload4 dX8_pass_36 ?_
      refine gw_icmp_ne (tgt := 50) dX8_pass_38 rfl (fun h6 => ?_) (fun h6 => ?_)
      · replace h := (if_neg h6).symm.trans h
        refine gw_aload0 dX8_pass_50 ?_
        refine gw_iload1 dX8_pass_51 ?_
        refine gw_aload0 dX8_pass_52 ?_
        refine gw_getR dX8_pass_53 fkX8_43 rfl rfl ?_
        refine gw_iload1 dX8_pass_56 ?_
        by_cases h7 : ow_inn x1 7
        rotate_left
        · replace h := (if_neg h7).symm.trans h
          cases h
        replace h := (if_pos h7).symm.trans h
        refine gw_iald dX8_pass_57 rfl h7 ?_
        obtain ⟨v9, hc8, h⟩ := ow_b_some h
        refine gw_cVI2 dX8_pass_58 lkX8_150 mkX8_altered (ow_rm_in rfl rfl) rfl rfl (ctX8_altered l hc8) rfl ?_
        by_cases h10 : ow_inn x2 7
        rotate_left
        · replace h := (if_neg h10).symm.trans h
          cases h
        replace h := (if_pos h10).symm.trans h
        refine gw_iast dX8_pass_61 rfl h10 ?_
        have hA := Option.some.inj h
        subst hA
        exact gw_vret dX8_pass_62 ⟨rfl, rfl⟩
      · replace h := (if_pos h6).symm.trans h
        refine gw_aload0 dX8_pass_41 ?_
        refine gw_getR dX8_pass_42 fkX8_43 rfl rfl ?_
        refine gw_iload1 dX8_pass_45 ?_
        by_cases h11 : ow_inn x1 7
        rotate_left
        · replace h := (if_neg h11).symm.trans h
          cases h
        replace h := (if_pos h11).symm.trans h
        refine gw_iald dX8_pass_46 rfl h11 ?_
        refine gw_goto (tgt := 61) rfl dX8_pass_47 ?_
        by_cases h12 : ow_inn x2 7
        rotate_left
        · replace h := (if_neg h12).symm.trans h
          cases h
        replace h := (if_pos h12).symm.trans h
        refine gw_iast dX8_pass_61 rfl h12 ?_
        have hA := Option.some.inj h
        subst hA
        exact gw_vret dX8_pass_62 ⟨rfl, rfl⟩

def lpX8_spread_2 (x1 : Int32) (x2 : Int32) (k : Int32 → ow_M → Option ow_M) : Nat → Int32 → ow_M → Option ow_M
  | 0, _, _ => none
  | n + 1, x3, M => (if (M.1 34 5) ≤ x3 then k x3 M else if ow_inn x3 7 then lpX8_spread_2 x1 x2 k n (x3 + 1) (ow_up M 47 x3.toNatClampNeg (-9)) else none)
set_option maxRecDepth 100000 in
set_option maxHeartbeats 4000000 in
theorem tlpX8_spread_2 (l : Launch) {x1 : Int32} {x2 : Int32} {k : Int32 → ow_M → Option ow_M} {M9 : ow_M}  (hk : ∀ (x3 : Int32) (M : ow_M), k x3 M = some M9 → ow_G (ow_Γ l 2 none (ow_is none M9)) RX8 cX8_spread 6 24 [some (.ref 34), some (.int x1), some (.int x2), some (.int x3), none, none] [] M) : ∀ (n : Nat) (x3 : Int32) (M : ow_M), lpX8_spread_2 x1 x2 k n x3 M = some M9 → ow_G (ow_Γ l 2 none (ow_is none M9)) RX8 cX8_spread 6 2 [some (.ref 34), some (.int x1), some (.int x2), some (.int x3), none, none] [] M := by
  intro n
  induction n with
  | zero => intro _ _ h; cases h
  | succ n ih =>
    intro x3 M h
    unfold lpX8_spread_2 at h
    refine gw_iload3 dX8_spread_2 ?_
    refine gw_aload0 dX8_spread_3 ?_
    refine gw_getI dX8_spread_4 fkX8_86 rfl rfl ?_
    refine gw_icmp_ge (tgt := 24) dX8_spread_7 rfl (fun h1 => ?_) (fun h1 => ?_)
    · replace h := (if_pos h1).symm.trans h
      exact hk _ _ h
    · replace h := (if_neg h1).symm.trans h
      refine gw_aload0 dX8_spread_10 ?_
      refine gw_getR dX8_spread_11 fkX8_46 rfl rfl ?_
      refine gw_iload3 dX8_spread_14 ?_
      refine gw_bipush (-9) dX8_spread_15 (by decide) ?_
      by_cases h2 : ow_inn x3 7
      rotate_left
      · replace h := (if_neg h2).symm.trans h
        cases h
      replace h := (if_pos h2).symm.trans h
      refine gw_iast dX8_spread_17 rfl h2 ?_
      refine gw_iinc3 1 dX8_spread_18 (by decide) rfl (by decide) ?_
      refine gw_goto (tgt := 2) rfl dX8_spread_21 ?_
      exact ih _ _ h

def lpX8_spread_63 (x1 : Int32) (x3 : Int32) (x4 : Int32) (k : Int32 → ow_M → Option ow_M) : Nat → Int32 → ow_M → Option ow_M
  | 0, _, _ => none
  | n + 1, x5, M => (if (M.1 34 5) ≤ x5 then k x5 M else Option.bind (fX8_isBeside x4 x5 M) (fun v11 => (if v11 = 0 then lpX8_spread_63 x1 x3 x4 k n (x5 + 1) M else Option.bind (fX8_pass x4 x5 x3 x1 M) (fun M15 => lpX8_spread_63 x1 x3 x4 k n (x5 + 1) M15))))
set_option maxRecDepth 100000 in
set_option maxHeartbeats 4000000 in
theorem tlpX8_spread_63 (l : Launch) {x1 : Int32} {x3 : Int32} {x4 : Int32} {k : Int32 → ow_M → Option ow_M} {M9 : ow_M}  (hk : ∀ (x5 : Int32) (M : ow_M), k x5 M = some M9 → ow_G (ow_Γ l 2 none (ow_is none M9)) RX8 cX8_spread 6 99 [some (.ref 34), some (.int x1), none, some (.int x3), some (.int x4), some (.int x5)] [] M) : ∀ (n : Nat) (x5 : Int32) (M : ow_M), lpX8_spread_63 x1 x3 x4 k n x5 M = some M9 → ow_G (ow_Γ l 2 none (ow_is none M9)) RX8 cX8_spread 6 63 [some (.ref 34), some (.int x1), none, some (.int x3), some (.int x4), some (.int x5)] [] M := by
  intro n
  induction n with
  | zero => intro _ _ h; cases h
  | succ n ih =>
    intro x5 M h
    unfold lpX8_spread_63 at h
    refine gw_iload5 dX8_spread_63 ?_
    refine gw_aload0 dX8_spread_65 ?_
    refine gw_getI dX8_spread_66 fkX8_86 rfl rfl ?_
    refine gw_icmp_ge (tgt := 99) dX8_spread_69 rfl (fun h9 => ?_) (fun h9 => ?_)
    · replace h := (if_pos h9).symm.trans h
      exact hk _ _ h
    · replace h := (if_neg h9).symm.trans h
      refine gw_aload0 dX8_spread_72 ?_
      refine gw_iload4 dX8_spread_73 ?_
      refine gw_iload5 dX8_spread_75 ?_
      obtain ⟨v11, hc10, h⟩ := ow_b_some h
      refine gw_cVI2 dX8_spread_77 lkX8_154 mkX8_isBeside (ow_rm_in rfl rfl) rfl rfl (ctX8_isBeside l hc10) rfl ?_
      refine gw_if_eq (tgt := 93) dX8_spread_80 rfl (fun h12 => ?_) (fun h12 => ?_)
      · replace h := (if_pos h12).symm.trans h
        refine gw_iinc5 1 dX8_spread_93 (by decide) rfl (by decide) ?_
        refine gw_goto (tgt := 63) rfl dX8_spread_96 ?_
        exact ih _ _ h
      · replace h := (if_neg h12).symm.trans h
        refine gw_aload0 dX8_spread_83 ?_
        refine gw_iload4 dX8_spread_84 ?_
        refine gw_iload5 dX8_spread_86 ?_
        refine gw_iload3 dX8_spread_88 ?_
        refine gw_iload1 dX8_spread_89 ?_
        obtain ⟨M15, hc13, h⟩ := ow_b_some h
        refine gw_cVV4 dX8_spread_90 lkX8_157 mkX8_pass (ow_rm_in rfl rfl) rfl rfl (ctX8_pass l hc13) rfl ?_
        refine gw_iinc5 1 dX8_spread_93 (by decide) rfl (by decide) ?_
        refine gw_goto (tgt := 63) rfl dX8_spread_96 ?_
        exact ih _ _ h

def lpX8_spread_51 (x1 : Int32) (x3 : Int32) (k : Int32 → ow_M → Option ow_M) : Nat → Int32 → ow_M → Option ow_M
  | 0, _, _ => none
  | n + 1, x4, M => (if (M.1 34 5) ≤ x4 then k x4 M else lpX8_spread_63 x1 x3 x4 (fun u16 M17 => lpX8_spread_51 x1 x3 k n (x4 + 1) M17) ow_N 0 M)
set_option maxRecDepth 100000 in
set_option maxHeartbeats 4000000 in
theorem tlpX8_spread_51 (l : Launch) {x1 : Int32} {x3 : Int32} {k : Int32 → ow_M → Option ow_M} {M9 : ow_M}  (hk : ∀ (x4 : Int32) (M : ow_M), k x4 M = some M9 → ow_G (ow_Γ l 2 none (ow_is none M9)) RX8 cX8_spread 6 105 [some (.ref 34), some (.int x1), none, some (.int x3), some (.int x4), none] [] M) : ∀ (n : Nat) (x4 : Int32) (M : ow_M), lpX8_spread_51 x1 x3 k n x4 M = some M9 → ow_G (ow_Γ l 2 none (ow_is none M9)) RX8 cX8_spread 6 51 [some (.ref 34), some (.int x1), none, some (.int x3), some (.int x4), none] [] M := by
  intro n
  induction n with
  | zero => intro _ _ h; cases h
  | succ n ih =>
    intro x4 M h
    unfold lpX8_spread_51 at h
    refine gw_iload4 dX8_spread_51 ?_
    refine gw_aload0 dX8_spread_53 ?_
    refine gw_getI dX8_spread_54 fkX8_86 rfl rfl ?_
    refine gw_icmp_ge (tgt := 105) dX8_spread_57 rfl (fun h8 => ?_) (fun h8 => ?_)
    · replace h := (if_pos h8).symm.trans h
      exact hk _ _ h
    · replace h := (if_neg h8).symm.trans h
      refine gw_ic0 dX8_spread_60 ?_
      refine gw_istore5 dX8_spread_61 (by decide) rfl ?_
      refine tlpX8_spread_63 l ?_ _ _ _ h
      intro u16 M17 h
      refine gw_iinc4 1 dX8_spread_99 (by decide) rfl (by decide) ?_
      refine gw_goto (tgt := 51) rfl dX8_spread_102 ?_
      refine gw_drp5 ?_
      exact ih _ _ h

def lpX8_spread_40 (x1 : Int32) (k : Int32 → ow_M → Option ow_M) : Nat → Int32 → ow_M → Option ow_M
  | 0, _, _ => none
  | n + 1, x3, M => (if (M.1 34 5) ≤ x3 then k x3 M else lpX8_spread_51 x1 x3 (fun u18 M19 => lpX8_spread_40 x1 k n (x3 + 1) M19) ow_N 0 M)
set_option maxRecDepth 100000 in
set_option maxHeartbeats 4000000 in
theorem tlpX8_spread_40 (l : Launch) {x1 : Int32} {k : Int32 → ow_M → Option ow_M} {M9 : ow_M}  (hk : ∀ (x3 : Int32) (M : ow_M), k x3 M = some M9 → ow_G (ow_Γ l 2 none (ow_is none M9)) RX8 cX8_spread 6 111 [some (.ref 34), some (.int x1), none, some (.int x3), none, none] [] M) : ∀ (n : Nat) (x3 : Int32) (M : ow_M), lpX8_spread_40 x1 k n x3 M = some M9 → ow_G (ow_Γ l 2 none (ow_is none M9)) RX8 cX8_spread 6 40 [some (.ref 34), some (.int x1), none, some (.int x3), none, none] [] M := by
  intro n
  induction n with
  | zero => intro _ _ h; cases h
  | succ n ih =>
    intro x3 M h
    unfold lpX8_spread_40 at h
    refine gw_iload3 dX8_spread_40 ?_
    refine gw_aload0 dX8_spread_41 ?_
    refine gw_getI dX8_spread_42 fkX8_86 rfl rfl ?_
    refine gw_icmp_ge (tgt := 111) dX8_spread_45 rfl (fun h7 => ?_) (fun h7 => ?_)
    · replace h := (if_pos h7).symm.trans h
      exact hk _ _ h
    · replace h := (if_neg h7).symm.trans h
      refine gw_ic0 dX8_spread_48 ?_
      refine gw_istore4 dX8_spread_49 (by decide) rfl ?_
      refine tlpX8_spread_51 l ?_ _ _ _ h
      intro u18 M19 h
      refine gw_iinc3 1 dX8_spread_105 (by decide) rfl (by decide) ?_
      refine gw_goto (tgt := 40) rfl dX8_spread_108 ?_
      refine gw_drp4 ?_
      exact ih _ _ h

def fX8_spread (x1 : Int32) (x2 : Int32) (M : ow_M) : Option ow_M := lpX8_spread_2 x1 x2 (fun u3 M4 => if ow_inn x1 7 then if ow_inn x1 7 then lpX8_spread_40 x1 (fun u20 M21 => some M21) ow_N 1 (ow_up (ow_up M4 47 x1.toNatClampNeg 0) 46 x1.toNatClampNeg x2) else none else none) ow_N 0 M
set_option maxRecDepth 100000 in
set_option maxHeartbeats 4000000 in
theorem ctX8_spread (l : Launch) {x1 : Int32} {x2 : Int32} {M : ow_M} {M9 : ow_M}  (h : fX8_spread x1 x2 M = some M9) : ow_F l 2 yX8_spread cX8_spread 6 none [.ref 34, .int x1, .int x2] M none M9 := by
  unfold fX8_spread at h
  refine ow_enterO (own := RX8) rfl (by decide +kernel) rfl (ls := [some (.ref 34), some (.int x1), some (.int x2), none, none, none]) rfl ?_
  refine gw_ic0 dX8_spread_0 ?_
  refine gw_istore3 dX8_spread_1 (by decide) rfl ?_
  refine tlpX8_spread_2 l ?_ _ _ _ h
  intro u3 M4 h
  refine gw_aload0 dX8_spread_24 ?_
  refine gw_getR dX8_spread_25 fkX8_46 rfl rfl ?_
  refine gw_iload1 dX8_spread_28 ?_
  refine gw_ic0 dX8_spread_29 ?_
  by_cases h5 : ow_inn x1 7
  rotate_left
  · replace h := (if_neg h5).symm.trans h
    cases h
  replace h := (if_pos h5).symm.trans h
  refine gw_iast dX8_spread_30 rfl h5 ?_
  refine gw_aload0 dX8_spread_31 ?_
  refine gw_getR dX8_spread_32 fkX8_43 rfl rfl ?_
  refine gw_iload1 dX8_spread_35 ?_
  refine gw_iload2 dX8_spread_36 ?_
  by_cases h6 : ow_inn x1 7
  rotate_left
  · replace h := (if_neg h6).symm.trans h
    cases h
  replace h := (if_pos h6).symm.trans h
  refine gw_iast dX8_spread_37 rfl h6 ?_
  refine gw_ic1 dX8_spread_38 ?_
  refine gw_istore3 dX8_spread_39 (by decide) rfl ?_
  refine gw_drp2 ?_
  refine tlpX8_spread_40 l ?_ _ _ _ h
  intro u20 M21 h
  have hA := Option.some.inj h
  subst hA
  exact gw_vret dX8_spread_111 ⟨rfl, rfl⟩

def fX8_news (x1 : Int32) (x2 : Int32) (x3 : Int32) (x4 : Int32) (M : ow_M) : Option (Int32 × ow_M) := Option.bind (fX8_isPerson x1 M) (fun v2 => (if v2 = 0 then some ((-1), M) else Option.bind (fX8_isPerson x3 M) (fun v5 => (if v5 = 0 then some ((-1), M) else Option.bind (fX8_isNumber x2) (fun v8 => (if v8 = 0 then some ((-2), M) else Option.bind (fX8_within x4 0 1) (fun v11 => (if v11 = 0 then some ((-2), M) else Option.bind (fX8_spread x1 x2 M) (fun M15 => if ow_inn x3 7 then (if (M15.1 47 x3.toNatClampNeg) = (-9) then some ((-9), M15) else (if x4 = 0 then if ow_inn x3 7 then some ((M15.1 46 x3.toNatClampNeg), M15) else none else if ow_inn x3 7 then some ((M15.1 47 x3.toNatClampNeg), M15) else none)) else none)))))))))
set_option maxRecDepth 100000 in
set_option maxHeartbeats 4000000 in
theorem ctX8_news (l : Launch) {x1 : Int32} {x2 : Int32} {x3 : Int32} {x4 : Int32} {M : ow_M} {r : Int32} {M9 : ow_M}  (h : fX8_news x1 x2 x3 x4 M = some (r, M9)) : ow_F l 3 yX8_news cX8_news 5 (some .int) [.ref 34, .int x1, .int x2, .int x3, .int x4] M (some (.int r)) M9 := by
  unfold fX8_news at h
  refine ow_enterO (own := RX8) rfl (by decide +kernel) rfl (ls := [some (.ref 34), some (.int x1), some (.int x2), some (.int x3), some (.int x4)]) rfl ?_
  refine gw_aload0 dX8_news_0 ?_
  refine gw_iload1 dX8_news_1 ?_
  obtain ⟨v2, hc1, h⟩ := ow_b_some h
  refine gw_cVI1 dX8_news_2 lkX8_138 mkX8_isPerson (ow_rm_in rfl rfl) rfl rfl (ctX8_isPerson l hc1) rfl ?_
  refine gw_if_eq (tgt := 16) dX8_news_5 rfl (fun h3 => ?_) (fun h3 => ?_)
  · replace h := (if_pos h3).symm.trans h
    refine gw_icm1 dX8_news_16 ?_
    obtain ⟨hA, hB⟩ := Prod.mk.inj (Option.some.inj h)
    subst hA
    subst hB
    exact gw_iret dX8_news_17 ⟨rfl, rfl⟩
  · replace h := (if_neg h3).symm.trans h
    refine gw_aload0 dX8_news_8 ?_
    refine gw_iload3 dX8_news_9 ?_
    obtain ⟨v5, hc4, h⟩ := ow_b_some h
    refine gw_cVI1 dX8_news_10 lkX8_138 mkX8_isPerson (ow_rm_in rfl rfl) rfl rfl (ctX8_isPerson l hc4) rfl ?_
    refine gw_if_ne (tgt := 18) dX8_news_13 rfl (fun h6 => ?_) (fun h6 => ?_)
    · replace h := (if_neg h6).symm.trans h
      refine gw_iload2 dX8_news_18 ?_
      obtain ⟨v8, hc7, h⟩ := ow_b_some h
      refine gw_cSI1 dX8_news_19 lkX8_161 mkX8_isNumber (ow_rm_in rfl rfl) (ctX8_isNumber l hc7) rfl ?_
      refine gw_if_eq (tgt := 35) dX8_news_22 rfl (fun h9 => ?_) (fun h9 => ?_)
      · replace h := (if_pos h9).symm.trans h
        refine gw_bipush (-2) dX8_news_35 (by decide) ?_
        obtain ⟨hA, hB⟩ := Prod.mk.inj (Option.some.inj h)
        subst hA
        subst hB
        exact gw_iret dX8_news_37 ⟨rfl, rfl⟩
      · replace h := (if_neg h9).symm.trans h
        refine gw_iload4 dX8_news_25 ?_
        refine gw_ic0 dX8_news_27 ?_
        refine gw_ic1 dX8_news_28 ?_
        obtain ⟨v11, hc10, h⟩ := ow_b_some h
        refine gw_cSI3 dX8_news_29 lkX8_82 mkX8_within (ow_rm_in rfl rfl) (ctX8_within l hc10) rfl ?_
        refine gw_if_ne (tgt := 38) dX8_news_32 rfl (fun h12 => ?_) (fun h12 => ?_)
        · replace h := (if_neg h12).symm.trans h
          refine gw_aload0 dX8_news_38 ?_
          refine gw_iload1 dX8_news_39 ?_
          refine gw_iload2 dX8_news_40 ?_
          obtain ⟨M15, hc13, h⟩ := ow_b_some h
          refine gw_cVV2 dX8_news_41 lkX8_164 mkX8_spread (ow_rm_in rfl rfl) rfl rfl (ctX8_spread l hc13) rfl ?_
          refine gw_aload0 dX8_news_44 ?_
          refine gw_getR dX8_news_45 fkX8_46 rfl rfl ?_
          refine gw_iload3 dX8_news_48 ?_
          by_cases h16 : ow_inn x3 7
          rotate_left
          · replace h := (if_neg h16).symm.trans h
            cases h
          replace h := (if_pos h16).symm.trans h
          refine gw_iald dX8_news_49 rfl h16 ?_
          refine gw_bipush (-9) dX8_news_50 (by decide) ?_
          refine gw_icmp_ne (tgt := 60) dX8_news_52 rfl (fun h17 => ?_) (fun h17 => ?_)
          · replace h := (if_neg h17).symm.trans h
            refine gw_iload4 dX8_news_60 ?_
            refine gw_if_ne (tgt := 74) dX8_news_62 rfl (fun h18 => ?_) (fun h18 => ?_)
            · replace h := (if_neg h18).symm.trans h
              refine gw_aload0 dX8_news_74 ?_
              refine gw_getR dX8_news_75 fkX8_46 rfl rfl ?_
              refine gw_iload3 dX8_news_78 ?_
              by_cases h19 : ow_inn x3 7
              rotate_left
              · replace h := (if_neg h19).symm.trans h
                cases h
              replace h := (if_pos h19).symm.trans h
              refine gw_iald dX8_news_79 rfl h19 ?_
              obtain ⟨hA, hB⟩ := Prod.mk.inj (Option.some.inj h)
              subst hA
              subst hB
              exact gw_iret dX8_news_80 ⟨rfl, rfl⟩
            · replace h := (if_pos h18).symm.trans h
              refine gw_aload0 dX8_news_65 ?_
              refine gw_getR dX8_news_66 fkX8_43 rfl rfl ?_
              refine gw_iload3 dX8_news_69 ?_
              by_cases h20 : ow_inn x3 7
              rotate_left
              · replace h := (if_neg h20).symm.trans h
                cases h
              replace h := (if_pos h20).symm.trans h
              refine gw_iald dX8_news_70 rfl h20 ?_
              refine gw_goto (tgt := 80) rfl dX8_news_71 ?_
              obtain ⟨hA, hB⟩ := Prod.mk.inj (Option.some.inj h)
              subst hA
              subst hB
              exact gw_iret dX8_news_80 ⟨rfl, rfl⟩
          · replace h := (if_pos h17).symm.trans h
            refine gw_bipush (-9) dX8_news_55 (by decide) ?_
            refine gw_goto (tgt := 80) rfl dX8_news_57 ?_
            obtain ⟨hA, hB⟩ := Prod.mk.inj (Option.some.inj h)
            subst hA
            subst hB
            exact gw_iret dX8_news_80 ⟨rfl, rfl⟩
        · replace h := (if_pos h12).symm.trans h
          refine gw_bipush (-2) dX8_news_35 (by decide) ?_
          obtain ⟨hA, hB⟩ := Prod.mk.inj (Option.some.inj h)
          subst hA
          subst hB
          exact gw_iret dX8_news_37 ⟨rfl, rfl⟩
    · replace h := (if_pos h6).symm.trans h
      refine gw_icm1 dX8_news_16 ?_
      obtain ⟨hA, hB⟩ := Prod.mk.inj (Option.some.inj h)
      subst hA
      subst hB
      exact gw_iret dX8_news_17 ⟨rfl, rfl⟩

def lpX8_said_40 (x1 : Int32) (x2 : Int32) (x3 : Int32) (x4 : Int32) (k : Int32 → Int32 → ow_M → Option (Int32 × ow_M)) : Nat → Int32 → Int32 → ow_M → Option (Int32 × ow_M)
  | 0, _, _, _ => none
  | n + 1, x5, x6, M => (if 100 ≤ x6 then k x5 x6 M else Option.bind (fX8_spread x1 x6 M) (fun M14 => if ow_inn x2 7 then (if (M14.1 47 x2.toNatClampNeg) = (-9) then lpX8_said_40 x1 x2 x3 x4 k n x5 (x6 + 1) M14 else if ow_inn x2 7 then (if (M14.1 46 x2.toNatClampNeg) = x3 then (if x5 = x4 then some (x6, M14) else lpX8_said_40 x1 x2 x3 x4 k n (x5 + 1) (x6 + 1) M14) else lpX8_said_40 x1 x2 x3 x4 k n x5 (x6 + 1) M14) else none) else none))
set_option maxRecDepth 100000 in
set_option maxHeartbeats 4000000 in
theorem tlpX8_said_40 (l : Launch) {x1 : Int32} {x2 : Int32} {x3 : Int32} {x4 : Int32} {k : Int32 → Int32 → ow_M → Option (Int32 × ow_M)} {r : Int32} {M9 : ow_M}  (hk : ∀ (x5 : Int32) (x6 : Int32) (M : ow_M), k x5 x6 M = some (r, M9) → ow_G (ow_Γ l 3 (some .int) (ow_is (some (.int r)) M9)) RX8 cX8_said 7 94 [some (.ref 34), some (.int x1), some (.int x2), some (.int x3), some (.int x4), some (.int x5), some (.int x6)] [] M) : ∀ (n : Nat) (x5 : Int32) (x6 : Int32) (M : ow_M), lpX8_said_40 x1 x2 x3 x4 k n x5 x6 M = some (r, M9) → ow_G (ow_Γ l 3 (some .int) (ow_is (some (.int r)) M9)) RX8 cX8_said 7 40 [some (.ref 34), some (.int x1), some (.int x2), some (.int x3), some (.int x4), some (.int x5), some (.int x6)] [] M := by
  intro n
  induction n with
  | zero => intro _ _ _ h; cases h
  | succ n ih =>
    intro x5 x6 M h
    unfold lpX8_said_40 at h
    refine gw_iload6 dX8_said_40 ?_
    refine gw_bipush 100 dX8_said_42 (by decide) ?_
    refine gw_icmp_ge (tgt := 94) dX8_said_44 rfl (fun h11 => ?_) (fun h11 => ?_)
    · replace h := (if_pos h11).symm.trans h
      exact hk _ _ _ h
    · replace h := (if_neg h11).symm.trans h
      refine gw_aload0 dX8_said_47 ?_
      refine gw_iload1 dX8_said_48 ?_
      refine gw_iload6 dX8_said_49 ?_
      obtain ⟨M14, hc12, h⟩ := ow_b_some h
      refine gw_cVV2 dX8_said_51 lkX8_164 mkX8_spread (ow_rm_in rfl rfl) rfl rfl (ctX8_spread l hc12) rfl ?_
      refine gw_aload0 dX8_said_54 ?_
      refine gw_getR dX8_said_55 fkX8_46 rfl rfl ?_
      refine gw_iload2 dX8_said_58 ?_
      by_cases h15 : ow_inn x2 7
      rotate_left
      · replace h := (if_neg h15).symm.trans h
        cases h
      replace h := (if_pos h15).symm.trans h
      refine gw_iald dX8_said_59 rfl h15 ?_
      refine gw_bipush (-9) dX8_said_60 (by decide) ?_
      refine gw_icmp_eq (tgt := 88) dX8_said_62 rfl (fun h16 => ?_) (fun h16 => ?_)
      · replace h := (if_pos h16).symm.trans h
        refine gw_iinc6 1 dX8_said_88 (by decide) rfl (by decide) ?_
        refine gw_goto (tgt := 40) rfl dX8_said_91 ?_
        exact ih _ _ _ h
      · replace h := (if_neg h16).symm.trans h
        refine gw_aload0 dX8_said_65 ?_
        refine gw_getR dX8_said_66 fkX8_43 rfl rfl ?_
        refine gw_iload2 dX8_said_69 ?_
        by_cases h17 : ow_inn x2 7
        rotate_left
        · replace h := (if_neg h17).symm.trans h
          cases h
        replace h := (if_pos h17).symm.trans h
        refine gw_iald dX8_said_70 rfl h17 ?_
        refine gw_iload3 dX8_said_71 ?_
        refine gw_icmp_ne (tgt := 88) dX8_said_72 rfl (fun h18 => ?_) (fun h18 => ?_)
        · replace h := (if_neg h18).symm.trans h
          refine gw_iinc6 1 dX8_said_88 (by decide) rfl (by decide) ?_
          refine gw_goto (tgt := 40) rfl dX8_said_91 ?_
          exact ih _ _ _ h
        · replace h := (if_pos h18).symm.trans h
          refine gw_iload5 dX8_said_75 ?_
          refine gw_iload4 dX8_said_77 ?_
          refine gw_icmp_ne (tgt := 85) dX8_said_79 rfl (fun h19 => ?_) (fun h19 => ?_)
          · replace h := (if_neg h19).symm.trans h
            refine gw_iinc5 1 dX8_said_85 (by decide) rfl (by decide) ?_
            refine gw_iinc6 1 dX8_said_88 (by decide) rfl (by decide) ?_
            refine gw_goto (tgt := 40) rfl dX8_said_91 ?_
            exact ih _ _ _ h
          · replace h := (if_pos h19).symm.trans h
            refine gw_iload6 dX8_said_82 ?_
            obtain ⟨hA, hB⟩ := Prod.mk.inj (Option.some.inj h)
            subst hA
            subst hB
            exact gw_iret dX8_said_84 ⟨rfl, rfl⟩

def fX8_said (x1 : Int32) (x2 : Int32) (x3 : Int32) (x4 : Int32) (M : ow_M) : Option (Int32 × ow_M) := Option.bind (fX8_isPerson x1 M) (fun v2 => (if v2 = 0 then some ((-1), M) else Option.bind (fX8_isPerson x2 M) (fun v5 => (if v5 = 0 then some ((-1), M) else (if (-1) ≤ x4 then Option.bind (fX8_isNumber x3) (fun v9 => (if v9 = 0 then some ((-2), M) else lpX8_said_40 x1 x2 x3 x4 (fun u20 u21 M22 => (if x4 = (-1) then some (u20, M22) else some ((-9), M22))) ow_N 0 0 M)) else some ((-1), M))))))
set_option maxRecDepth 100000 in
set_option maxHeartbeats 4000000 in
theorem ctX8_said (l : Launch) {x1 : Int32} {x2 : Int32} {x3 : Int32} {x4 : Int32} {M : ow_M} {r : Int32} {M9 : ow_M}  (h : fX8_said x1 x2 x3 x4 M = some (r, M9)) : ow_F l 3 yX8_said cX8_said 7 (some .int) [.ref 34, .int x1, .int x2, .int x3, .int x4] M (some (.int r)) M9 := by
  unfold fX8_said at h
  refine ow_enterO (own := RX8) rfl (by decide +kernel) rfl (ls := [some (.ref 34), some (.int x1), some (.int x2), some (.int x3), some (.int x4), none, none]) rfl ?_
  refine gw_aload0 dX8_said_0 ?_
  refine gw_iload1 dX8_said_1 ?_
  obtain ⟨v2, hc1, h⟩ := ow_b_some h
  refine gw_cVI1 dX8_said_2 lkX8_138 mkX8_isPerson (ow_rm_in rfl rfl) rfl rfl (ctX8_isPerson l hc1) rfl ?_
  refine gw_if_eq (tgt := 22) dX8_said_5 rfl (fun h3 => ?_) (fun h3 => ?_)
  · replace h := (if_pos h3).symm.trans h
    refine gw_icm1 dX8_said_22 ?_
    obtain ⟨hA, hB⟩ := Prod.mk.inj (Option.some.inj h)
    subst hA
    subst hB
    exact gw_iret dX8_said_23 ⟨rfl, rfl⟩
  · replace h := (if_neg h3).symm.trans h
    refine gw_aload0 dX8_said_8 ?_
    refine gw_iload2 dX8_said_9 ?_
    obtain ⟨v5, hc4, h⟩ := ow_b_some h
    refine gw_cVI1 dX8_said_10 lkX8_138 mkX8_isPerson (ow_rm_in rfl rfl) rfl rfl (ctX8_isPerson l hc4) rfl ?_
    refine gw_if_eq (tgt := 22) dX8_said_13 rfl (fun h6 => ?_) (fun h6 => ?_)
    · replace h := (if_pos h6).symm.trans h
      refine gw_icm1 dX8_said_22 ?_
      obtain ⟨hA, hB⟩ := Prod.mk.inj (Option.some.inj h)
      subst hA
      subst hB
      exact gw_iret dX8_said_23 ⟨rfl, rfl⟩
    · replace h := (if_neg h6).symm.trans h
      refine gw_iload4 dX8_said_16 ?_
      refine gw_icm1 dX8_said_18 ?_
      refine gw_icmp_ge (tgt := 24) dX8_said_19 rfl (fun h7 => ?_) (fun h7 => ?_)
      · replace h := (if_pos h7).symm.trans h
        refine gw_iload3 dX8_said_24 ?_
        obtain ⟨v9, hc8, h⟩ := ow_b_some h
        refine gw_cSI1 dX8_said_25 lkX8_161 mkX8_isNumber (ow_rm_in rfl rfl) (ctX8_isNumber l hc8) rfl ?_
        refine gw_if_ne (tgt := 34) dX8_said_28 rfl (fun h10 => ?_) (fun h10 => ?_)
        · replace h := (if_neg h10).symm.trans h
          refine gw_ic0 dX8_said_34 ?_
          refine gw_istore5 dX8_said_35 (by decide) rfl ?_
          refine gw_ic0 dX8_said_37 ?_
          refine gw_istore6 dX8_said_38 (by decide) rfl ?_
          refine tlpX8_said_40 l ?_ _ _ _ _ h
          intro u20 u21 M22 h
          refine gw_iload4 dX8_said_94 ?_
          refine gw_icm1 dX8_said_96 ?_
          refine gw_icmp_ne (tgt := 105) dX8_said_97 rfl (fun h23 => ?_) (fun h23 => ?_)
          · replace h := (if_neg h23).symm.trans h
            refine gw_bipush (-9) dX8_said_105 (by decide) ?_
            obtain ⟨hA, hB⟩ := Prod.mk.inj (Option.some.inj h)
            subst hA
            subst hB
            exact gw_iret dX8_said_107 ⟨rfl, rfl⟩
          · replace h := (if_pos h23).symm.trans h
            refine gw_iload5 dX8_said_100 ?_
            refine gw_goto (tgt := 107) rfl dX8_said_102 ?_
            obtain ⟨hA, hB⟩ := Prod.mk.inj (Option.some.inj h)
            subst hA
            subst hB
            exact gw_iret dX8_said_107 ⟨rfl, rfl⟩
        · replace h := (if_pos h10).symm.trans h
          refine gw_bipush (-2) dX8_said_31 (by decide) ?_
          obtain ⟨hA, hB⟩ := Prod.mk.inj (Option.some.inj h)
          subst hA
          subst hB
          exact gw_iret dX8_said_33 ⟨rfl, rfl⟩
      · replace h := (if_neg h7).symm.trans h
        refine gw_icm1 dX8_said_22 ?_
        obtain ⟨hA, hB⟩ := Prod.mk.inj (Option.some.inj h)
        subst hA
        subst hB
        exact gw_iret dX8_said_23 ⟨rfl, rfl⟩

def fX8_reach (x1 : Int32) (x2 : Int32) (M : ow_M) : Option ow_M := if ow_inn x1 16384 then (if (M.1 48 x1.toNatClampNeg) = (-9) then if ow_inn x1 16384 then if ow_inn ((ow_up M 48 x1.toNatClampNeg x2).1 34 23) 16384 then some (ow_up (ow_up (ow_up M 48 x1.toNatClampNeg x2) 49 ((ow_up M 48 x1.toNatClampNeg x2).1 34 23).toNatClampNeg x1) 34 23 (((ow_up (ow_up M 48 x1.toNatClampNeg x2) 49 ((ow_up M 48 x1.toNatClampNeg x2).1 34 23).toNatClampNeg x1).1 34 23) + 1)) else none else none else some M) else none
set_option maxRecDepth 100000 in
set_option maxHeartbeats 4000000 in
theorem ctX8_reach (l : Launch) {x1 : Int32} {x2 : Int32} {M : ow_M} {M9 : ow_M}  (h : fX8_reach x1 x2 M = some M9) : ow_F l 0 yX8_reach cX8_reach 3 none [.ref 34, .int x1, .int x2] M none M9 := by
  unfold fX8_reach at h
  refine ow_enterO (own := RX8) rfl (by decide +kernel) rfl (ls := [some (.ref 34), some (.int x1), some (.int x2)]) rfl ?_
  refine gw_aload0 dX8_reach_0 ?_
  refine gw_getR dX8_reach_1 fkX8_49 rfl rfl ?_
  refine gw_iload1 dX8_reach_4 ?_
  by_cases h1 : ow_inn x1 16384
  rotate_left
  · replace h := (if_neg h1).symm.trans h
    cases h
  replace h := (if_pos h1).symm.trans h
  refine gw_iald dX8_reach_5 rfl h1 ?_
  refine gw_bipush (-9) dX8_reach_6 (by decide) ?_
  refine gw_icmp_ne (tgt := 38) dX8_reach_8 rfl (fun h2 => ?_) (fun h2 => ?_)
  · replace h := (if_neg h2).symm.trans h
    have hA := Option.some.inj h
    subst hA
    exact gw_vret dX8_reach_38 ⟨rfl, rfl⟩
  · replace h := (if_pos h2).symm.trans h
    refine gw_aload0 dX8_reach_11 ?_
    refine gw_getR dX8_reach_12 fkX8_49 rfl rfl ?_
    refine gw_iload1 dX8_reach_15 ?_
    refine gw_iload2 dX8_reach_16 ?_
    by_cases h3 : ow_inn x1 16384
    rotate_left
    · replace h := (if_neg h3).symm.trans h
      cases h
    replace h := (if_pos h3).symm.trans h
    refine gw_iast dX8_reach_17 rfl h3 ?_
    refine gw_aload0 dX8_reach_18 ?_
    refine gw_getR dX8_reach_19 fkX8_52 rfl rfl ?_
    refine gw_aload0 dX8_reach_22 ?_
    refine gw_getI dX8_reach_23 fkX8_174 rfl rfl ?_
    refine gw_iload1 dX8_reach_26 ?_
    by_cases h4 : ow_inn ((ow_up M 48 x1.toNatClampNeg x2).1 34 23) 16384
    rotate_left
    · replace h := (if_neg h4).symm.trans h
      cases h
    replace h := (if_pos h4).symm.trans h
    refine gw_iast dX8_reach_27 rfl h4 ?_
    refine gw_aload0 dX8_reach_28 ?_
    refine gw_dup rfl dX8_reach_29 ?_
    refine gw_getI dX8_reach_30 fkX8_174 rfl rfl ?_
    refine gw_ic1 dX8_reach_33 ?_
    refine gw_iadd dX8_reach_34 ?_
    refine gw_putI dX8_reach_35 fkX8_174 fp8_23 rfl rfl ?_
    have hA := Option.some.inj h
    subst hA
    exact gw_vret dX8_reach_38 ⟨rfl, rfl⟩

def lpX8_mayBe_4 (x1 : Int32) (M : ow_M) (k : Int32 → Int32 → Option Int32) : Nat → Int32 → Int32 → Option Int32
  | 0, _, _ => none
  | n + 1, x2, x3 => Option.bind (fX8_edges M) (fun v2 => (if v2 ≤ x3 then k x2 x3 else (if ((x1 >>> (x3 &&& 31)) &&& 1) = 1 then Option.bind (fX8_farEnd x3 M) (fun v6 => Option.bind (fX8_isOpen x3 M) (fun v8 => (if v8 = 0 then some 0 else (if (x2 &&& ((1 <<< (x3 &&& 31)) ||| (1 <<< (v6 &&& 31)))) = 0 then lpX8_mayBe_4 x1 M k n (x2 ||| ((1 <<< (x3 &&& 31)) ||| (1 <<< (v6 &&& 31)))) (x3 + 1) else some 0)))) else lpX8_mayBe_4 x1 M k n x2 (x3 + 1))))
set_option maxRecDepth 100000 in
set_option maxHeartbeats 4000000 in
theorem tlpX8_mayBe_4 (l : Launch) {x1 : Int32} {M : ow_M} {k : Int32 → Int32 → Option Int32} {r : Int32}  (hk : ∀ (x2 : Int32) (x3 : Int32), k x2 x3 = some r → ow_G (ow_Γ l 1 (some .boolean) (ow_is (some (.int r)) M)) RX8 cX8_mayBe 5 62 [some (.ref 34), some (.int x1), some (.int x2), some (.int x3), none] [] M) : ∀ (n : Nat) (x2 : Int32) (x3 : Int32), lpX8_mayBe_4 x1 M k n x2 x3 = some r → ow_G (ow_Γ l 1 (some .boolean) (ow_is (some (.int r)) M)) RX8 cX8_mayBe 5 4 [some (.ref 34), some (.int x1), some (.int x2), some (.int x3), none] [] M := by
  intro n
  induction n with
  | zero => intro _ _ h; cases h
  | succ n ih =>
    intro x2 x3 h
    unfold lpX8_mayBe_4 at h
    refine gw_iload3 dX8_mayBe_4 ?_
    refine gw_aload0 dX8_mayBe_5 ?_
    obtain ⟨v2, hc1, h⟩ := ow_b_some h
    refine gw_cVI0 dX8_mayBe_6 lkX8_93 mkX8_edges (ow_rm_in rfl rfl) rfl rfl (ctX8_edges l hc1) rfl ?_
    refine gw_icmp_ge (tgt := 62) dX8_mayBe_9 rfl (fun h3 => ?_) (fun h3 => ?_)
    · replace h := (if_pos h3).symm.trans h
      exact hk _ _ h
    · replace h := (if_neg h3).symm.trans h
      refine gw_iload1 dX8_mayBe_12 ?_
      refine gw_iload3 dX8_mayBe_13 ?_
      refine gw_ishr dX8_mayBe_14 ?_
      refine gw_ic1 dX8_mayBe_15 ?_
      refine gw_iand dX8_mayBe_16 ?_
      refine gw_ic1 dX8_mayBe_17 ?_
      refine gw_icmp_ne (tgt := 56) dX8_mayBe_18 rfl (fun h4 => ?_) (fun h4 => ?_)
      · replace h := (if_neg h4).symm.trans h
        refine gw_iinc3 1 dX8_mayBe_56 (by decide) rfl (by decide) ?_
        refine gw_goto (tgt := 4) rfl dX8_mayBe_59 ?_
        exact ih _ _ h
      · replace h := (if_pos h4).symm.trans h
        refine gw_ic1 dX8_mayBe_21 ?_
        refine gw_iload3 dX8_mayBe_22 ?_
        refine gw_ishl dX8_mayBe_23 ?_
        refine gw_ic1 dX8_mayBe_24 ?_
        refine gw_aload0 dX8_mayBe_25 ?_
        refine gw_iload3 dX8_mayBe_26 ?_
        obtain ⟨v6, hc5, h⟩ := ow_b_some h
        refine gw_cVI1 dX8_mayBe_27 lkX8_147 mkX8_farEnd (ow_rm_in rfl rfl) rfl rfl (ctX8_farEnd l hc5) rfl ?_
        refine gw_ishl dX8_mayBe_30 ?_
        refine gw_ior dX8_mayBe_31 ?_
        refine gw_istore4 dX8_mayBe_32 (by decide) rfl ?_
        refine gw_aload0 dX8_mayBe_34 ?_
        refine gw_iload3 dX8_mayBe_35 ?_
        obtain ⟨v8, hc7, h⟩ := ow_b_some h
        refine gw_cVI1 dX8_mayBe_36 lkX8_144 mkX8_isOpen (ow_rm_in rfl rfl) rfl rfl (ctX8_isOpen l hc7) rfl ?_
        refine gw_if_eq (tgt := 49) dX8_mayBe_39 rfl (fun h9 => ?_) (fun h9 => ?_)
        · replace h := (if_pos h9).symm.trans h
          refine gw_ic0 dX8_mayBe_49 ?_
          have hA := Option.some.inj h
          subst hA
          exact gw_zret (Or.inl rfl) dX8_mayBe_50 ⟨rfl, rfl⟩
        · replace h := (if_neg h9).symm.trans h
          refine gw_iload2 dX8_mayBe_42 ?_
          refine gw_iload4 dX8_mayBe_43 ?_
          refine gw_iand dX8_mayBe_45 ?_
          refine gw_if_eq (tgt := 51) dX8_mayBe_46 rfl (fun h10 => ?_) (fun h10 => ?_)
          · replace h := (if_pos h10).symm.trans h
            refine gw_iload2 dX8_mayBe_51 ?_
            refine gw_iload4 dX8_mayBe_52 ?_
            refine gw_ior dX8_mayBe_54 ?_
            refine gw_istore2 dX8_mayBe_55 (by decide) rfl ?_
            refine gw_iinc3 1 dX8_mayBe_56 (by decide) rfl (by decide) ?_
            refine gw_goto (tgt := 4) rfl dX8_mayBe_59 ?_
            refine gw_drp4 ?_
            exact ih _ _ h
          · replace h := (if_neg h10).symm.trans h
            refine gw_ic0 dX8_mayBe_49 ?_
            have hA := Option.some.inj h
            subst hA
            exact gw_zret (Or.inl rfl) dX8_mayBe_50 ⟨rfl, rfl⟩

def fX8_mayBe (x1 : Int32) (M : ow_M) : Option Int32 := lpX8_mayBe_4 x1 M (fun u11 u12 => some 1) ow_N 0 0
set_option maxRecDepth 100000 in
set_option maxHeartbeats 4000000 in
theorem ctX8_mayBe (l : Launch) {x1 : Int32} {M : ow_M} {r : Int32}  (h : fX8_mayBe x1 M = some r) : ow_F l 1 yX8_mayBe cX8_mayBe 5 (some .boolean) [.ref 34, .int x1] M (some (.int r)) M := by
  unfold fX8_mayBe at h
  refine ow_enterO (own := RX8) rfl (by decide +kernel) rfl (ls := [some (.ref 34), some (.int x1), none, none, none]) rfl ?_
  refine gw_ic0 dX8_mayBe_0 ?_
  refine gw_istore2 dX8_mayBe_1 (by decide) rfl ?_
  refine gw_ic0 dX8_mayBe_2 ?_
  refine gw_istore3 dX8_mayBe_3 (by decide) rfl ?_
  refine tlpX8_mayBe_4 l ?_ _ _ _ h
  intro u11 u12 h
  refine gw_ic1 dX8_mayBe_62 ?_
  have hA := Option.some.inj h
  subst hA
  exact gw_zret (Or.inr rfl) dX8_mayBe_63 ⟨rfl, rfl⟩

def fX8_goodIn (x0 : Int32) (x1 : Int32) : Option Int32 := some ((x0 >>> ((2 * x1) &&& 31)) &&& 3)
set_option maxRecDepth 100000 in
set_option maxHeartbeats 4000000 in
theorem ctX8_goodIn (l : Launch) {x0 : Int32} {x1 : Int32} {M : ow_M} {r : Int32}  (h : fX8_goodIn x0 x1 = some r) : ow_F l 0 yX8_goodIn cX8_goodIn 2 (some .int) [.int x0, .int x1] M (some (.int r)) M := by
  unfold fX8_goodIn at h
  refine ow_enterO (own := RX8) rfl (by decide +kernel) rfl (ls := [some (.int x0), some (.int x1)]) rfl ?_
  refine gw_iload0 dX8_goodIn_0 ?_
  refine gw_ic2 dX8_goodIn_1 ?_
  refine gw_iload1 dX8_goodIn_2 ?_
  refine gw_imul dX8_goodIn_3 ?_
  refine gw_ishr dX8_goodIn_4 ?_
  refine gw_ic3 dX8_goodIn_5 ?_
  refine gw_iand dX8_goodIn_6 ?_
  have hA := Option.some.inj h
  subst hA
  exact gw_iret dX8_goodIn_7 ⟨rfl, rfl⟩

def fX8_exchanged (x1 : Int32) (x2 : Int32) (M : ow_M) : Option Int32 := Option.bind (fX8_goodIn x1 x2) (fun v2 => Option.bind (fX8_farEnd x2 M) (fun v4 => Option.bind (fX8_goodIn x1 v4) (fun v6 => Option.bind (fX8_farEnd x2 M) (fun v8 => some ((x1 ^^^ ((v2 ^^^ v6) <<< ((2 * x2) &&& 31))) ^^^ ((v2 ^^^ v6) <<< ((2 * v8) &&& 31)))))))
set_option maxRecDepth 100000 in
set_option maxHeartbeats 4000000 in
theorem ctX8_exchanged (l : Launch) {x1 : Int32} {x2 : Int32} {M : ow_M} {r : Int32}  (h : fX8_exchanged x1 x2 M = some r) : ow_F l 1 yX8_exchanged cX8_exchanged 5 (some .int) [.ref 34, .int x1, .int x2] M (some (.int r)) M := by
  unfold fX8_exchanged at h
  refine ow_enterO (own := RX8) rfl (by decide +kernel) rfl (ls := [some (.ref 34), some (.int x1), some (.int x2), none, none]) rfl ?_
  refine gw_iload1 dX8_exchanged_0 ?_
  refine gw_iload2 dX8_exchanged_1 ?_
  obtain ⟨v2, hc1, h⟩ := ow_b_some h
  refine gw_cSI2 dX8_exchanged_2 lkX8_168 mkX8_goodIn (ow_rm_in rfl rfl) (ctX8_goodIn l hc1) rfl ?_
  refine gw_istore3 dX8_exchanged_5 (by decide) rfl ?_
  refine gw_iload1 dX8_exchanged_6 ?_
  refine gw_aload0 dX8_exchanged_7 ?_
  refine gw_iload2 dX8_exchanged_8 ?_
  obtain ⟨v4, hc3, h⟩ := ow_b_some h
  refine gw_cVI1 dX8_exchanged_9 lkX8_147 mkX8_farEnd (ow_rm_in rfl rfl) rfl rfl (ctX8_farEnd l hc3) rfl ?_
  obtain ⟨v6, hc5, h⟩ := ow_b_some h
  refine gw_cSI2 dX8_exchanged_12 lkX8_168 mkX8_goodIn (ow_rm_in rfl rfl) (ctX8_goodIn l hc5) rfl ?_
  refine gw_istore4 dX8_exchanged_15 (by decide) rfl ?_
  refine gw_iload1 dX8_exchanged_17 ?_
  refine gw_iload3 dX8_exchanged_18 ?_
  refine gw_iload4 dX8_exchanged_19 ?_
  refine gw_ixor dX8_exchanged_21 ?_
  refine gw_ic2 dX8_exchanged_22 ?_
  refine gw_iload2 dX8_exchanged_23 ?_
  refine gw_imul dX8_exchanged_24 ?_
  refine gw_ishl dX8_exchanged_25 ?_
  refine gw_ixor dX8_exchanged_26 ?_
  refine gw_iload3 dX8_exchanged_27 ?_
  refine gw_iload4 dX8_exchanged_28 ?_
  refine gw_ixor dX8_exchanged_30 ?_
  refine gw_ic2 dX8_exchanged_31 ?_
  refine gw_aload0 dX8_exchanged_32 ?_
  refine gw_iload2 dX8_exchanged_33 ?_
  obtain ⟨v8, hc7, h⟩ := ow_b_some h
  refine gw_cVI1 dX8_exchanged_34 lkX8_147 mkX8_farEnd (ow_rm_in rfl rfl) rfl rfl (ctX8_farEnd l hc7) rfl ?_
  refine gw_imul dX8_exchanged_37 ?_
  refine gw_ishl dX8_exchanged_38 ?_
  refine gw_ixor dX8_exchanged_39 ?_
  have hA := Option.some.inj h
  subst hA
  exact gw_iret dX8_exchanged_40 ⟨rfl, rfl⟩

def lpX8_after_5 (x2 : Int32) (M : ow_M) (k : Int32 → Int32 → Option Int32) : Nat → Int32 → Int32 → Option Int32
  | 0, _, _ => none
  | n + 1, x3, x4 => Option.bind (fX8_edges M) (fun v2 => (if v2 ≤ x4 then k x3 x4 else (if ((x2 >>> (x4 &&& 31)) &&& 1) = 1 then Option.bind (fX8_exchanged x3 x4 M) (fun v6 => lpX8_after_5 x2 M k n v6 (x4 + 1)) else lpX8_after_5 x2 M k n x3 (x4 + 1))))
set_option maxRecDepth 100000 in
set_option maxHeartbeats 4000000 in
theorem tlpX8_after_5 (l : Launch) {x2 : Int32} {M : ow_M} {k : Int32 → Int32 → Option Int32} {r : Int32}  (hk : ∀ (x3 : Int32) (x4 : Int32), k x3 x4 = some r → ow_G (ow_Γ l 2 (some .int) (ow_is (some (.int r)) M)) RX8 cX8_after 5 42 [some (.ref 34), none, some (.int x2), some (.int x3), some (.int x4)] [] M) : ∀ (n : Nat) (x3 : Int32) (x4 : Int32), lpX8_after_5 x2 M k n x3 x4 = some r → ow_G (ow_Γ l 2 (some .int) (ow_is (some (.int r)) M)) RX8 cX8_after 5 5 [some (.ref 34), none, some (.int x2), some (.int x3), some (.int x4)] [] M := by
  intro n
  induction n with
  | zero => intro _ _ h; cases h
  | succ n ih =>
    intro x3 x4 h
    unfold lpX8_after_5 at h
    refine gw_iload4 dX8_after_5 ?_
    refine gw_aload0 dX8_after_7 ?_
    obtain ⟨v2, hc1, h⟩ := ow_b_some h
    refine gw_cVI0 dX8_after_8 lkX8_93 mkX8_edges (ow_rm_in rfl rfl) rfl rfl (ctX8_edges l hc1) rfl ?_
    refine gw_icmp_ge (tgt := 42) dX8_after_11 rfl (fun h3 => ?_) (fun h3 => ?_)
    · replace h := (if_pos h3).symm.trans h
      exact hk _ _ h
    · replace h := (if_neg h3).symm.trans h
      refine gw_iload2 dX8_after_14 ?_
      refine gw_iload4 dX8_after_15 ?_
      refine gw_ishr dX8_after_17 ?_
      refine gw_ic1 dX8_after_18 ?_
      refine gw_iand dX8_after_19 ?_
      refine gw_ic1 dX8_after_20 ?_
      refine gw_icmp_ne (tgt := 34) dX8_after_21 rfl (fun h4 => ?_) (fun h4 => ?_)
      · replace h := (if_neg h4).symm.trans h
        refine gw_iload3 dX8_after_34 ?_
        refine gw_istore3 dX8_after_35 (by decide) rfl ?_
        refine gw_iinc4 1 dX8_after_36 (by decide) rfl (by decide) ?_
        refine gw_goto (tgt := 5) rfl dX8_after_39 ?_
        exact ih _ _ h
      · replace h := (if_pos h4).symm.trans h
        refine gw_aload0 dX8_after_24 ?_
        refine gw_iload3 dX8_after_25 ?_
        refine gw_iload4 dX8_after_26 ?_
        obtain ⟨v6, hc5, h⟩ := ow_b_some h
        refine gw_cVI2 dX8_after_28 lkX8_171 mkX8_exchanged (ow_rm_in rfl rfl) rfl rfl (ctX8_exchanged l hc5) rfl ?_
        refine gw_goto (tgt := 35) rfl dX8_after_31 ?_
        refine gw_istore3 dX8_after_35 (by decide) rfl ?_
        refine gw_iinc4 1 dX8_after_36 (by decide) rfl (by decide) ?_
        refine gw_goto (tgt := 5) rfl dX8_after_39 ?_
        exact ih _ _ h

def fX8_after (x1 : Int32) (x2 : Int32) (M : ow_M) : Option Int32 := lpX8_after_5 x2 M (fun u7 u8 => some u7) ow_N x1 0
set_option maxRecDepth 100000 in
set_option maxHeartbeats 4000000 in
theorem ctX8_after (l : Launch) {x1 : Int32} {x2 : Int32} {M : ow_M} {r : Int32}  (h : fX8_after x1 x2 M = some r) : ow_F l 2 yX8_after cX8_after 5 (some .int) [.ref 34, .int x1, .int x2] M (some (.int r)) M := by
  unfold fX8_after at h
  refine ow_enterO (own := RX8) rfl (by decide +kernel) rfl (ls := [some (.ref 34), some (.int x1), some (.int x2), none, none]) rfl ?_
  refine gw_iload1 dX8_after_0 ?_
  refine gw_istore3 dX8_after_1 (by decide) rfl ?_
  refine gw_ic0 dX8_after_2 ?_
  refine gw_istore4 dX8_after_3 (by decide) rfl ?_
  refine gw_drp1 ?_
  refine tlpX8_after_5 l ?_ _ _ _ h
  intro u7 u8 h
  refine gw_iload3 dX8_after_42 ?_
  have hA := Option.some.inj h
  subst hA
  exact gw_iret dX8_after_43 ⟨rfl, rfl⟩

def lpX8_findSteps_2 (x1 : Int32) (k : Int32 → ow_M → Option (Int32 × ow_M)) : Nat → Int32 → ow_M → Option (Int32 × ow_M)
  | 0, _, _ => none
  | n + 1, x2, M => (if 16384 ≤ x2 then k x2 M else if ow_inn x2 16384 then lpX8_findSteps_2 x1 k n (x2 + 1) (ow_up M 48 x2.toNatClampNeg (-9)) else none)
set_option maxRecDepth 100000 in
set_option maxHeartbeats 4000000 in
theorem tlpX8_findSteps_2 (l : Launch) {x1 : Int32} {k : Int32 → ow_M → Option (Int32 × ow_M)} {r : Int32} {M9 : ow_M}  (hk : ∀ (x2 : Int32) (M : ow_M), k x2 M = some (r, M9) → ow_G (ow_Γ l 3 (some .int) (ow_is (some (.int r)) M9)) RX8 cX8_findSteps 8 23 [some (.ref 34), some (.int x1), some (.int x2), none, none, none, none, none] [] M) : ∀ (n : Nat) (x2 : Int32) (M : ow_M), lpX8_findSteps_2 x1 k n x2 M = some (r, M9) → ow_G (ow_Γ l 3 (some .int) (ow_is (some (.int r)) M9)) RX8 cX8_findSteps 8 2 [some (.ref 34), some (.int x1), some (.int x2), none, none, none, none, none] [] M := by
  intro n
  induction n with
  | zero => intro _ _ h; cases h
  | succ n ih =>
    intro x2 M h
    unfold lpX8_findSteps_2 at h
    refine gw_iload2 dX8_findSteps_2 ?_
    refine gw_sipush 16384 dX8_findSteps_3 (by decide) ?_
    refine gw_icmp_ge (tgt := 23) dX8_findSteps_6 rfl (fun h1 => ?_) (fun h1 => ?_)
    · replace h := (if_pos h1).symm.trans h
      exact hk _ _ h
    · replace h := (if_neg h1).symm.trans h
      refine gw_aload0 dX8_findSteps_9 ?_
      refine gw_getR dX8_findSteps_10 fkX8_49 rfl rfl ?_
      refine gw_iload2 dX8_findSteps_13 ?_
      refine gw_bipush (-9) dX8_findSteps_14 (by decide) ?_
      by_cases h2 : ow_inn x2 16384
      rotate_left
      · replace h := (if_neg h2).symm.trans h
        cases h
      replace h := (if_pos h2).symm.trans h
      refine gw_iast dX8_findSteps_16 rfl h2 ?_
      refine gw_iinc2 1 dX8_findSteps_17 (by decide) rfl (by decide) ?_
      refine gw_goto (tgt := 2) rfl dX8_findSteps_20 ?_
      exact ih _ _ h

def lpX8_findSteps_30 (x1 : Int32) (M : ow_M) (k : Int32 → Int32 → Int32 → Option (Int32 × ow_M)) : Nat → Int32 → Int32 → Int32 → Option (Int32 × ow_M)
  | 0, _, _, _ => none
  | n + 1, x2, x3, x4 => (if (M.1 34 5) ≤ x4 then k x2 x3 x4 else if ow_inn x4 7 then if ow_inn x4 7 then lpX8_findSteps_30 x1 M k n (x2 ||| ((M.1 40 x4.toNatClampNeg) <<< ((2 * x4) &&& 31))) (x3 ||| ((M.1 41 x4.toNatClampNeg) <<< ((2 * x4) &&& 31))) (x4 + 1) else none else none)
set_option maxRecDepth 100000 in
set_option maxHeartbeats 4000000 in
theorem tlpX8_findSteps_30 (l : Launch) {x1 : Int32} {M : ow_M} {k : Int32 → Int32 → Int32 → Option (Int32 × ow_M)} {r : Int32} {M9 : ow_M}  (hk : ∀ (x2 : Int32) (x3 : Int32) (x4 : Int32), k x2 x3 x4 = some (r, M9) → ow_G (ow_Γ l 3 (some .int) (ow_is (some (.int r)) M9)) RX8 cX8_findSteps 8 75 [some (.ref 34), some (.int x1), some (.int x2), some (.int x3), some (.int x4), none, none, none] [] M) : ∀ (n : Nat) (x2 : Int32) (x3 : Int32) (x4 : Int32), lpX8_findSteps_30 x1 M k n x2 x3 x4 = some (r, M9) → ow_G (ow_Γ l 3 (some .int) (ow_is (some (.int r)) M9)) RX8 cX8_findSteps 8 30 [some (.ref 34), some (.int x1), some (.int x2), some (.int x3), some (.int x4), none, none, none] [] M := by
  intro n
  induction n with
  | zero => intro _ _ _ h; cases h
  | succ n ih =>
    intro x2 x3 x4 h
    unfold lpX8_findSteps_30 at h
    refine gw_iload4 dX8_findSteps_30 ?_
    refine gw_aload0 dX8_findSteps_32 ?_
    refine gw_getI dX8_findSteps_33 fkX8_86 rfl rfl ?_
    refine gw_icmp_ge (tgt := 75) dX8_findSteps_36 rfl (fun h5 => ?_) (fun h5 => ?_)
    · replace h := (if_pos h5).symm.trans h
      exact hk _ _ _ h
    · replace h := (if_neg h5).symm.trans h
      refine gw_iload2 dX8_findSteps_39 ?_
      refine gw_aload0 dX8_findSteps_40 ?_
      refine gw_getR dX8_findSteps_41 fkX8_25 rfl rfl ?_
      refine gw_iload4 dX8_findSteps_44 ?_
      by_cases h6 : ow_inn x4 7
      rotate_left
      · replace h := (if_neg h6).symm.trans h
        cases h
      replace h := (if_pos h6).symm.trans h
      refine gw_iald dX8_findSteps_46 rfl h6 ?_
      refine gw_ic2 dX8_findSteps_47 ?_
      refine gw_iload4 dX8_findSteps_48 ?_
      refine gw_imul dX8_findSteps_50 ?_
      refine gw_ishl dX8_findSteps_51 ?_
      refine gw_ior dX8_findSteps_52 ?_
      refine gw_istore2 dX8_findSteps_53 (by decide) rfl ?_
      refine gw_iload3 dX8_findSteps_54 ?_
      refine gw_aload0 dX8_findSteps_55 ?_
      refine gw_getR dX8_findSteps_56 fkX8_28 rfl rfl ?_
      refine gw_iload4 dX8_findSteps_59 ?_
      by_cases h7 : ow_inn x4 7
      rotate_left
      · replace h := (if_neg h7).symm.trans h
        cases h
      replace h := (if_pos h7).symm.trans h
      refine gw_iald dX8_findSteps_61 rfl h7 ?_
      refine gw_ic2 dX8_findSteps_62 ?_
      refine gw_iload4 dX8_findSteps_63 ?_
      refine gw_imul dX8_findSteps_65 ?_
      refine gw_ishl dX8_findSteps_66 ?_
      refine gw_ior dX8_findSteps_67 ?_
      refine gw_istore3 dX8_findSteps_68 (by decide) rfl ?_
      refine gw_iinc4 1 dX8_findSteps_69 (by decide) rfl (by decide) ?_
      refine gw_goto (tgt := 30) rfl dX8_findSteps_72 ?_
      exact ih _ _ _ h

def jX8_findSteps_158 (x1 : Int32) (x3 : Int32) (x4 : Int32) (x5 : Int32) (x6 : Int32) (kb : Int32 → ow_M → Option (Int32 × ow_M)) (k : Int32 → ow_M → Option (Int32 × ow_M)) (M : ow_M) : Option (Int32 × ow_M) := Option.bind (fX8_mayBe x6 M) (fun v24 => (if v24 = 0 then kb (x6 + 1) M else Option.bind (fX8_after x5 x6 M) (fun v27 => if ow_inn x5 16384 then Option.bind (fX8_reach v27 ((M.1 48 x5.toNatClampNeg) + 1) M) (fun M31 => kb (x6 + 1) M31) else none)))
set_option maxRecDepth 100000 in
set_option maxHeartbeats 4000000 in
theorem tjX8_findSteps_158 (l : Launch) {x1 : Int32} {x3 : Int32} {x4 : Int32} {x5 : Int32} {x6 : Int32} {kb : Int32 → ow_M → Option (Int32 × ow_M)} {k : Int32 → ow_M → Option (Int32 × ow_M)} {M : ow_M} {r : Int32} {M9 : ow_M}  (hkb : ∀ (z6 : Int32) (Mz : ow_M), kb z6 Mz = some (r, M9) → ow_G (ow_Γ l 3 (some .int) (ow_is (some (.int r)) M9)) RX8 cX8_findSteps 8 121 [some (.ref 34), some (.int x1), none, some (.int x3), some (.int x4), some (.int x5), some (.int z6), none] [] Mz) (hk : ∀ (z6 : Int32) (Mz : ow_M), k z6 Mz = some (r, M9) → ow_G (ow_Γ l 3 (some .int) (ow_is (some (.int r)) M9)) RX8 cX8_findSteps 8 194 [some (.ref 34), some (.int x1), none, some (.int x3), some (.int x4), some (.int x5), some (.int z6), none] [] Mz) (h : jX8_findSteps_158 x1 x3 x4 x5 x6 kb k M = some (r, M9)) : ow_G (ow_Γ l 3 (some .int) (ow_is (some (.int r)) M9)) RX8 cX8_findSteps 8 158 [some (.ref 34), some (.int x1), none, some (.int x3), some (.int x4), some (.int x5), some (.int x6), none] [] M := by
  unfold jX8_findSteps_158 at h
  refine gw_aload0 dX8_findSteps_158 ?_
  refine gw_iload6 dX8_findSteps_159 ?_
  obtain ⟨v24, hc23, h⟩ := ow_b_some h
  refine gw_cVI1 dX8_findSteps_161 lkX8_180 mkX8_mayBe (ow_rm_in rfl rfl) rfl rfl (ctX8_mayBe l hc23) rfl ?_
  refine gw_if_eq (tgt := 188) dX8_findSteps_164 rfl (fun h25 => ?_) (fun h25 => ?_)
  · replace h := (if_pos h25).symm.trans h
    refine gw_iinc6 1 dX8_findSteps_188 (by decide) rfl (by decide) ?_
    refine gw_goto (tgt := 121) rfl dX8_findSteps_191 ?_
    exact hkb _ _ h
  · replace h := (if_neg h25).symm.trans h
    refine gw_aload0 dX8_findSteps_167 ?_
    refine gw_aload0 dX8_findSteps_168 ?_
    refine gw_iload5 dX8_findSteps_169 ?_
    refine gw_iload6 dX8_findSteps_171 ?_
    obtain ⟨v27, hc26, h⟩ := ow_b_some h
    refine gw_cVI2 dX8_findSteps_173 lkX8_183 mkX8_after (ow_rm_in rfl rfl) rfl rfl (ctX8_after l hc26) rfl ?_
    refine gw_aload0 dX8_findSteps_176 ?_
    refine gw_getR dX8_findSteps_177 fkX8_49 rfl rfl ?_
    refine gw_iload5 dX8_findSteps_180 ?_
    by_cases h28 : ow_inn x5 16384
    rotate_left
    · replace h := (if_neg h28).symm.trans h
      cases h
    replace h := (if_pos h28).symm.trans h
    refine gw_iald dX8_findSteps_182 rfl h28 ?_
    refine gw_ic1 dX8_findSteps_183 ?_
    refine gw_iadd dX8_findSteps_184 ?_
    obtain ⟨M31, hc29, h⟩ := ow_b_some h
    refine gw_cVV2 dX8_findSteps_185 lkX8_177 mkX8_reach (ow_rm_in rfl rfl) rfl rfl (ctX8_reach l hc29) rfl ?_
    refine gw_iinc6 1 dX8_findSteps_188 (by decide) rfl (by decide) ?_
    refine gw_goto (tgt := 121) rfl dX8_findSteps_191 ?_
    exact hkb _ _ h

def jX8_findSteps_147 (x1 : Int32) (x3 : Int32) (x4 : Int32) (x5 : Int32) (x6 : Int32) (s0 : Int32) (kb : Int32 → ow_M → Option (Int32 × ow_M)) (k : Int32 → ow_M → Option (Int32 × ow_M)) (M : ow_M) : Option (Int32 × ow_M) := (if x1 = 0 then (if s0 = 0 then kb (x6 + 1) M else jX8_findSteps_158 x1 x3 x4 x5 x6 (kb) k M) else jX8_findSteps_158 x1 x3 x4 x5 x6 (kb) k M)
set_option maxRecDepth 100000 in
set_option maxHeartbeats 4000000 in
theorem tjX8_findSteps_147 (l : Launch) {x1 : Int32} {x3 : Int32} {x4 : Int32} {x5 : Int32} {x6 : Int32} {s0 : Int32} {kb : Int32 → ow_M → Option (Int32 × ow_M)} {k : Int32 → ow_M → Option (Int32 × ow_M)} {M : ow_M} {r : Int32} {M9 : ow_M}  (hkb : ∀ (z6 : Int32) (Mz : ow_M), kb z6 Mz = some (r, M9) → ow_G (ow_Γ l 3 (some .int) (ow_is (some (.int r)) M9)) RX8 cX8_findSteps 8 121 [some (.ref 34), some (.int x1), none, some (.int x3), some (.int x4), some (.int x5), some (.int z6), none] [] Mz) (hk : ∀ (z6 : Int32) (Mz : ow_M), k z6 Mz = some (r, M9) → ow_G (ow_Γ l 3 (some .int) (ow_is (some (.int r)) M9)) RX8 cX8_findSteps 8 194 [some (.ref 34), some (.int x1), none, some (.int x3), some (.int x4), some (.int x5), some (.int z6), none] [] Mz) (h : jX8_findSteps_147 x1 x3 x4 x5 x6 s0 kb k M = some (r, M9)) : ow_G (ow_Γ l 3 (some .int) (ow_is (some (.int r)) M9)) RX8 cX8_findSteps 8 147 [some (.ref 34), some (.int x1), none, some (.int x3), some (.int x4), some (.int x5), some (.int x6), none] [.int s0] M := by
  unfold jX8_findSteps_147 at h
  refine gw_istore7 dX8_findSteps_147 (by decide) rfl ?_
  refine gw_iload1 dX8_findSteps_149 ?_
  refine gw_if_ne (tgt := 158) dX8_findSteps_150 rfl (fun h22 => ?_) (fun h22 => ?_)
  · replace h := (if_neg h22).symm.trans h
    refine gw_drp7 ?_
    exact tjX8_findSteps_158 l hkb hk h
  · replace h := (if_pos h22).symm.trans h
    refine gw_iload7 dX8_findSteps_153 ?_
    refine gw_if_eq (tgt := 188) dX8_findSteps_155 rfl (fun h32 => ?_) (fun h32 => ?_)
    · replace h := (if_pos h32).symm.trans h
      refine gw_iinc6 1 dX8_findSteps_188 (by decide) rfl (by decide) ?_
      refine gw_goto (tgt := 121) rfl dX8_findSteps_191 ?_
      refine gw_drp7 ?_
      exact hkb _ _ h
    · replace h := (if_neg h32).symm.trans h
      refine gw_drp7 ?_
      exact tjX8_findSteps_158 l hkb hk h

def lpX8_findSteps_121 (x1 : Int32) (x3 : Int32) (x4 : Int32) (x5 : Int32) (k : Int32 → ow_M → Option (Int32 × ow_M)) : Nat → Int32 → ow_M → Option (Int32 × ow_M)
  | 0, _, _ => none
  | n + 1, x6, M => Option.bind (fX8_edges M) (fun v19 => (if (1 <<< (v19 &&& 31)) ≤ x6 then k x6 M else (if (x6 &&& (x6 - 1)) = 0 then jX8_findSteps_147 x1 x3 x4 x5 x6 1 (lpX8_findSteps_121 x1 x3 x4 x5 k n) k M else jX8_findSteps_147 x1 x3 x4 x5 x6 0 (lpX8_findSteps_121 x1 x3 x4 x5 k n) k M)))
set_option maxRecDepth 100000 in
set_option maxHeartbeats 4000000 in
theorem tlpX8_findSteps_121 (l : Launch) {x1 : Int32} {x3 : Int32} {x4 : Int32} {x5 : Int32} {k : Int32 → ow_M → Option (Int32 × ow_M)} {r : Int32} {M9 : ow_M}  (hk : ∀ (x6 : Int32) (M : ow_M), k x6 M = some (r, M9) → ow_G (ow_Γ l 3 (some .int) (ow_is (some (.int r)) M9)) RX8 cX8_findSteps 8 194 [some (.ref 34), some (.int x1), none, some (.int x3), some (.int x4), some (.int x5), some (.int x6), none] [] M) : ∀ (n : Nat) (x6 : Int32) (M : ow_M), lpX8_findSteps_121 x1 x3 x4 x5 k n x6 M = some (r, M9) → ow_G (ow_Γ l 3 (some .int) (ow_is (some (.int r)) M9)) RX8 cX8_findSteps 8 121 [some (.ref 34), some (.int x1), none, some (.int x3), some (.int x4), some (.int x5), some (.int x6), none] [] M := by
  intro n
  induction n with
  | zero => intro _ _ h; cases h
  | succ n ih =>
    intro x6 M h
    unfold lpX8_findSteps_121 at h
    refine gw_iload6 dX8_findSteps_121 ?_
    refine gw_ic1 dX8_findSteps_123 ?_
    refine gw_aload0 dX8_findSteps_124 ?_
    obtain ⟨v19, hc18, h⟩ := ow_b_some h
    refine gw_cVI0 dX8_findSteps_125 lkX8_93 mkX8_edges (ow_rm_in rfl rfl) rfl rfl (ctX8_edges l hc18) rfl ?_
    refine gw_ishl dX8_findSteps_128 ?_
    refine gw_icmp_ge (tgt := 194) dX8_findSteps_129 rfl (fun h20 => ?_) (fun h20 => ?_)
    · replace h := (if_pos h20).symm.trans h
      exact hk _ _ h
    · replace h := (if_neg h20).symm.trans h
      refine gw_iload6 dX8_findSteps_132 ?_
      refine gw_iload6 dX8_findSteps_134 ?_
      refine gw_ic1 dX8_findSteps_136 ?_
      refine gw_isub dX8_findSteps_137 ?_
      refine gw_iand dX8_findSteps_138 ?_
      refine gw_if_ne (tgt := 146) dX8_findSteps_139 rfl (fun h21 => ?_) (fun h21 => ?_)
      · replace h := (if_neg h21).symm.trans h
        refine gw_ic0 dX8_findSteps_146 ?_
        exact tjX8_findSteps_147 l ih hk h
      · replace h := (if_pos h21).symm.trans h
        refine gw_ic1 dX8_findSteps_142 ?_
        refine gw_goto (tgt := 147) rfl dX8_findSteps_143 ?_
        exact tjX8_findSteps_147 l ih hk h

def lpX8_findSteps_89 (x1 : Int32) (x3 : Int32) (k : Int32 → ow_M → Option (Int32 × ow_M)) : Nat → Int32 → ow_M → Option (Int32 × ow_M)
  | 0, _, _ => none
  | n + 1, x4, M => (if (M.1 34 23) ≤ x4 then k x4 M else if ow_inn x3 16384 then (if (M.1 48 x3.toNatClampNeg) = (-9) then if ow_inn x4 16384 then lpX8_findSteps_121 x1 x3 x4 (M.1 49 x4.toNatClampNeg) (fun u33 M34 => lpX8_findSteps_89 x1 x3 k n (x4 + 1) M34) ow_N 1 M else none else k x4 M) else none)
set_option maxRecDepth 100000 in
set_option maxHeartbeats 4000000 in
theorem tlpX8_findSteps_89 (l : Launch) {x1 : Int32} {x3 : Int32} {k : Int32 → ow_M → Option (Int32 × ow_M)} {r : Int32} {M9 : ow_M}  (hk : ∀ (x4 : Int32) (M : ow_M), k x4 M = some (r, M9) → ow_G (ow_Γ l 3 (some .int) (ow_is (some (.int r)) M9)) RX8 cX8_findSteps 8 200 [some (.ref 34), some (.int x1), none, some (.int x3), some (.int x4), none, none, none] [] M) : ∀ (n : Nat) (x4 : Int32) (M : ow_M), lpX8_findSteps_89 x1 x3 k n x4 M = some (r, M9) → ow_G (ow_Γ l 3 (some .int) (ow_is (some (.int r)) M9)) RX8 cX8_findSteps 8 89 [some (.ref 34), some (.int x1), none, some (.int x3), some (.int x4), none, none, none] [] M := by
  intro n
  induction n with
  | zero => intro _ _ h; cases h
  | succ n ih =>
    intro x4 M h
    unfold lpX8_findSteps_89 at h
    refine gw_iload4 dX8_findSteps_89 ?_
    refine gw_aload0 dX8_findSteps_91 ?_
    refine gw_getI dX8_findSteps_92 fkX8_174 rfl rfl ?_
    refine gw_icmp_ge (tgt := 200) dX8_findSteps_95 rfl (fun h14 => ?_) (fun h14 => ?_)
    · replace h := (if_pos h14).symm.trans h
      exact hk _ _ h
    · replace h := (if_neg h14).symm.trans h
      refine gw_aload0 dX8_findSteps_98 ?_
      refine gw_getR dX8_findSteps_99 fkX8_49 rfl rfl ?_
      refine gw_iload3 dX8_findSteps_102 ?_
      by_cases h15 : ow_inn x3 16384
      rotate_left
      · replace h := (if_neg h15).symm.trans h
        cases h
      replace h := (if_pos h15).symm.trans h
      refine gw_iald dX8_findSteps_103 rfl h15 ?_
      refine gw_bipush (-9) dX8_findSteps_104 (by decide) ?_
      refine gw_icmp_ne (tgt := 200) dX8_findSteps_106 rfl (fun h16 => ?_) (fun h16 => ?_)
      · replace h := (if_neg h16).symm.trans h
        exact hk _ _ h
      · replace h := (if_pos h16).symm.trans h
        refine gw_aload0 dX8_findSteps_109 ?_
        refine gw_getR dX8_findSteps_110 fkX8_52 rfl rfl ?_
        refine gw_iload4 dX8_findSteps_113 ?_
        by_cases h17 : ow_inn x4 16384
        rotate_left
        · replace h := (if_neg h17).symm.trans h
          cases h
        replace h := (if_pos h17).symm.trans h
        refine gw_iald dX8_findSteps_115 rfl h17 ?_
        refine gw_istore5 dX8_findSteps_116 (by decide) rfl ?_
        refine gw_ic1 dX8_findSteps_118 ?_
        refine gw_istore6 dX8_findSteps_119 (by decide) rfl ?_
        refine tlpX8_findSteps_121 l ?_ _ _ _ h
        intro u33 M34 h
        refine gw_iinc4 1 dX8_findSteps_194 (by decide) rfl (by decide) ?_
        refine gw_goto (tgt := 89) rfl dX8_findSteps_197 ?_
        refine gw_drp5 ?_
        refine gw_drp6 ?_
        exact ih _ _ h

def fX8_findSteps (x1 : Int32) (M : ow_M) : Option (Int32 × ow_M) := lpX8_findSteps_2 x1 (fun u3 M4 => lpX8_findSteps_30 x1 M4 (fun u8 u9 u10 => Option.bind (fX8_reach u8 0 (ow_up M4 34 23 0)) (fun M13 => lpX8_findSteps_89 x1 u9 (fun u35 M36 => if ow_inn u9 16384 then some ((M36.1 48 u9.toNatClampNeg), M36) else none) ow_N 0 M13)) ow_N 0 0 0) ow_N 0 M
set_option maxRecDepth 100000 in
set_option maxHeartbeats 4000000 in
theorem ctX8_findSteps (l : Launch) {x1 : Int32} {M : ow_M} {r : Int32} {M9 : ow_M}  (h : fX8_findSteps x1 M = some (r, M9)) : ow_F l 3 yX8_findSteps cX8_findSteps 8 (some .int) [.ref 34, .int x1] M (some (.int r)) M9 := by
  unfold fX8_findSteps at h
  refine ow_enterO (own := RX8) rfl (by decide +kernel) rfl (ls := [some (.ref 34), some (.int x1), none, none, none, none, none, none]) rfl ?_
  refine gw_ic0 dX8_findSteps_0 ?_
  refine gw_istore2 dX8_findSteps_1 (by decide) rfl ?_
  refine tlpX8_findSteps_2 l ?_ _ _ _ h
  intro u3 M4 h
  refine gw_ic0 dX8_findSteps_23 ?_
  refine gw_istore2 dX8_findSteps_24 (by decide) rfl ?_
  refine gw_ic0 dX8_findSteps_25 ?_
  refine gw_istore3 dX8_findSteps_26 (by decide) rfl ?_
  refine gw_ic0 dX8_findSteps_27 ?_
  refine gw_istore4 dX8_findSteps_28 (by decide) rfl ?_
  refine tlpX8_findSteps_30 l ?_ _ _ _ _ h
  intro u8 u9 u10 h
  refine gw_aload0 dX8_findSteps_75 ?_
  refine gw_ic0 dX8_findSteps_76 ?_
  refine gw_putI dX8_findSteps_77 fkX8_174 fp8_23 rfl rfl ?_
  refine gw_aload0 dX8_findSteps_80 ?_
  refine gw_iload2 dX8_findSteps_81 ?_
  refine gw_ic0 dX8_findSteps_82 ?_
  obtain ⟨M13, hc11, h⟩ := ow_b_some h
  refine gw_cVV2 dX8_findSteps_83 lkX8_177 mkX8_reach (ow_rm_in rfl rfl) rfl rfl (ctX8_reach l hc11) rfl ?_
  refine gw_ic0 dX8_findSteps_86 ?_
  refine gw_istore4 dX8_findSteps_87 (by decide) rfl ?_
  refine gw_drp2 ?_
  refine tlpX8_findSteps_89 l ?_ _ _ _ h
  intro u35 M36 h
  refine gw_aload0 dX8_findSteps_200 ?_
  refine gw_getR dX8_findSteps_201 fkX8_49 rfl rfl ?_
  refine gw_iload3 dX8_findSteps_204 ?_
  by_cases h37 : ow_inn u9 16384
  rotate_left
  · replace h := (if_neg h37).symm.trans h
    cases h
  replace h := (if_pos h37).symm.trans h
  refine gw_iald dX8_findSteps_205 rfl h37 ?_
  obtain ⟨hA, hB⟩ := Prod.mk.inj (Option.some.inj h)
  subst hA
  subst hB
  exact gw_iret dX8_findSteps_206 ⟨rfl, rfl⟩

def fX8_fewest  (M : ow_M) : Option (Int32 × ow_M) := (if (M.1 34 5) = 0 then some ((-3), M) else ow_bd (fX8_findSteps 0 M) (fun v3 M4 => some (v3, M4)))
set_option maxRecDepth 100000 in
set_option maxHeartbeats 4000000 in
theorem ctX8_fewest (l : Launch)  {M : ow_M} {r : Int32} {M9 : ow_M}  (h : fX8_fewest M = some (r, M9)) : ow_F l 4 yX8_fewest cX8_fewest 1 (some .int) [.ref 34] M (some (.int r)) M9 := by
  unfold fX8_fewest at h
  refine ow_enterO (own := RX8) rfl (by decide +kernel) rfl (ls := [some (.ref 34)]) rfl ?_
  refine gw_aload0 dX8_fewest_0 ?_
  refine gw_getI dX8_fewest_1 fkX8_86 rfl rfl ?_
  refine gw_if_ne (tgt := 12) dX8_fewest_4 rfl (fun h1 => ?_) (fun h1 => ?_)
  · replace h := (if_neg h1).symm.trans h
    refine gw_aload0 dX8_fewest_12 ?_
    refine gw_ic0 dX8_fewest_13 ?_
    obtain ⟨v3, M4, hc2, h⟩ := ow_bd_some h
    refine gw_cVI1 dX8_fewest_14 lkX8_186 mkX8_findSteps (ow_rm_in rfl rfl) rfl rfl (ctX8_findSteps l hc2) rfl ?_
    obtain ⟨hA, hB⟩ := Prod.mk.inj (Option.some.inj h)
    subst hA
    subst hB
    exact gw_iret dX8_fewest_17 ⟨rfl, rfl⟩
  · replace h := (if_pos h1).symm.trans h
    refine gw_bipush (-3) dX8_fewest_7 (by decide) ?_
    refine gw_goto (tgt := 17) rfl dX8_fewest_9 ?_
    obtain ⟨hA, hB⟩ := Prod.mk.inj (Option.some.inj h)
    subst hA
    subst hB
    exact gw_iret dX8_fewest_17 ⟨rfl, rfl⟩

def fX8_soonest  (M : ow_M) : Option (Int32 × ow_M) := (if (M.1 34 5) = 0 then some ((-3), M) else ow_bd (fX8_findSteps 1 M) (fun v3 M4 => some (v3, M4)))
set_option maxRecDepth 100000 in
set_option maxHeartbeats 4000000 in
theorem ctX8_soonest (l : Launch)  {M : ow_M} {r : Int32} {M9 : ow_M}  (h : fX8_soonest M = some (r, M9)) : ow_F l 4 yX8_soonest cX8_soonest 1 (some .int) [.ref 34] M (some (.int r)) M9 := by
  unfold fX8_soonest at h
  refine ow_enterO (own := RX8) rfl (by decide +kernel) rfl (ls := [some (.ref 34)]) rfl ?_
  refine gw_aload0 dX8_soonest_0 ?_
  refine gw_getI dX8_soonest_1 fkX8_86 rfl rfl ?_
  refine gw_if_ne (tgt := 12) dX8_soonest_4 rfl (fun h1 => ?_) (fun h1 => ?_)
  · replace h := (if_neg h1).symm.trans h
    refine gw_aload0 dX8_soonest_12 ?_
    refine gw_ic1 dX8_soonest_13 ?_
    obtain ⟨v3, M4, hc2, h⟩ := ow_bd_some h
    refine gw_cVI1 dX8_soonest_14 lkX8_186 mkX8_findSteps (ow_rm_in rfl rfl) rfl rfl (ctX8_findSteps l hc2) rfl ?_
    obtain ⟨hA, hB⟩ := Prod.mk.inj (Option.some.inj h)
    subst hA
    subst hB
    exact gw_iret dX8_soonest_17 ⟨rfl, rfl⟩
  · replace h := (if_pos h1).symm.trans h
    refine gw_bipush (-3) dX8_soonest_7 (by decide) ?_
    refine gw_goto (tgt := 17) rfl dX8_soonest_9 ?_
    obtain ⟨hA, hB⟩ := Prod.mk.inj (Option.some.inj h)
    subst hA
    subst hB
    exact gw_iret dX8_soonest_17 ⟨rfl, rfl⟩

