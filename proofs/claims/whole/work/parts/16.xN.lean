def jX8_cut_59 (x1 : Int32) (x2 : Int32) (x3 : Int32) (x5 : Int32) (s0 : Int32) (s1 : Int32) (kb : Int32 → Int32 → Option Int32) (k : Int32 → Int32 → Option Int32) (M : ow_M) : Option Int32 := if ow_inn x5 7 then (if (M.1 41 x5.toNatClampNeg) = x3 then kb ((s0 + s1) - 1) (x5 + 1) else kb ((s0 + s1) - 0) (x5 + 1)) else none
set_option maxRecDepth 100000 in
set_option maxHeartbeats 4000000 in
theorem tjX8_cut_59 (l : Launch) {x1 : Int32} {x2 : Int32} {x3 : Int32} {x5 : Int32} {s0 : Int32} {s1 : Int32} {kb : Int32 → Int32 → Option Int32} {k : Int32 → Int32 → Option Int32} {M : ow_M} {r : Int32}  (hkb : ∀ (z4 : Int32) (z5 : Int32), kb z4 z5 = some r → ow_G (ow_Γ l 2 (some .int) (ow_is (some (.int r)) M)) RX8 cX8_cut 6 35 [some (.ref 34), some (.int x1), some (.int x2), some (.int x3), some (.int z4), some (.int z5)] [] M) (hk : ∀ (z4 : Int32) (z5 : Int32), k z4 z5 = some r → ow_G (ow_Γ l 2 (some .int) (ow_is (some (.int r)) M)) RX8 cX8_cut 6 89 [some (.ref 34), some (.int x1), some (.int x2), some (.int x3), some (.int z4), some (.int z5)] [] M) (h : jX8_cut_59 x1 x2 x3 x5 s0 s1 kb k M = some r) : ow_G (ow_Γ l 2 (some .int) (ow_is (some (.int r)) M)) RX8 cX8_cut 6 59 [some (.ref 34), some (.int x1), some (.int x2), some (.int x3), none, some (.int x5)] [.int s1, .int s0] M := by
  unfold jX8_cut_59 at h
  refine gw_iadd dX8_cut_59 ?_
  refine gw_istore4 dX8_cut_60 (by decide) rfl ?_
  refine gw_iload4 dX8_cut_62 ?_
  refine gw_aload0 dX8_cut_64 ?_
  refine gw_getR dX8_cut_65 fkX8_28 rfl rfl ?_
  refine gw_iload5 dX8_cut_68 ?_
  by_cases h9 : ow_inn x5 7
  rotate_left
  · replace h := (if_neg h9).symm.trans h
    cases h
  replace h := (if_pos h9).symm.trans h
  refine gw_iald dX8_cut_70 rfl h9 ?_
  refine gw_iload3 dX8_cut_71 ?_
  refine gw_icmp_ne (tgt := 79) dX8_cut_72 rfl (fun h10 => ?_) (fun h10 => ?_)
  · replace h := (if_neg h10).symm.trans h
    refine gw_ic0 dX8_cut_79 ?_
    refine gw_isub dX8_cut_80 ?_
    refine gw_istore4 dX8_cut_81 (by decide) rfl ?_
    refine gw_iinc5 1 dX8_cut_83 (by decide) rfl (by decide) ?_
    refine gw_goto (tgt := 35) rfl dX8_cut_86 ?_
    exact hkb _ _ h
  · replace h := (if_pos h10).symm.trans h
    refine gw_ic1 dX8_cut_75 ?_
    refine gw_goto (tgt := 80) rfl dX8_cut_76 ?_
    refine gw_isub dX8_cut_80 ?_
    refine gw_istore4 dX8_cut_81 (by decide) rfl ?_
    refine gw_iinc5 1 dX8_cut_83 (by decide) rfl (by decide) ?_
    refine gw_goto (tgt := 35) rfl dX8_cut_86 ?_
    exact hkb _ _ h

def lpX8_cut_35 (x1 : Int32) (x2 : Int32) (x3 : Int32) (M : ow_M) (k : Int32 → Int32 → Option Int32) : Nat → Int32 → Int32 → Option Int32
  | 0, _, _ => none
  | n + 1, x4, x5 => (if x1 < x5 then k x4 x5 else if ow_inn x5 7 then (if (M.1 40 x5.toNatClampNeg) = x3 then jX8_cut_59 x1 x2 x3 x5 x4 1 (lpX8_cut_35 x1 x2 x3 M k n) k M else jX8_cut_59 x1 x2 x3 x5 x4 0 (lpX8_cut_35 x1 x2 x3 M k n) k M) else none)
set_option maxRecDepth 100000 in
set_option maxHeartbeats 4000000 in
theorem tlpX8_cut_35 (l : Launch) {x1 : Int32} {x2 : Int32} {x3 : Int32} {M : ow_M} {k : Int32 → Int32 → Option Int32} {r : Int32}  (hk : ∀ (x4 : Int32) (x5 : Int32), k x4 x5 = some r → ow_G (ow_Γ l 2 (some .int) (ow_is (some (.int r)) M)) RX8 cX8_cut 6 89 [some (.ref 34), some (.int x1), some (.int x2), some (.int x3), some (.int x4), some (.int x5)] [] M) : ∀ (n : Nat) (x4 : Int32) (x5 : Int32), lpX8_cut_35 x1 x2 x3 M k n x4 x5 = some r → ow_G (ow_Γ l 2 (some .int) (ow_is (some (.int r)) M)) RX8 cX8_cut 6 35 [some (.ref 34), some (.int x1), some (.int x2), some (.int x3), some (.int x4), some (.int x5)] [] M := by
  intro n
  induction n with
  | zero => intro _ _ h; cases h
  | succ n ih =>
    intro x4 x5 h
    unfold lpX8_cut_35 at h
    refine gw_iload5 dX8_cut_35 ?_
    refine gw_iload1 dX8_cut_37 ?_
    refine gw_icmp_gt (tgt := 89) dX8_cut_38 rfl (fun h6 => ?_) (fun h6 => ?_)
    · replace h := (if_pos h6).symm.trans h
      exact hk _ _ h
    · replace h := (if_neg h6).symm.trans h
      refine gw_iload4 dX8_cut_41 ?_
      refine gw_aload0 dX8_cut_43 ?_
      refine gw_getR dX8_cut_44 fkX8_25 rfl rfl ?_
      refine gw_iload5 dX8_cut_47 ?_
      by_cases h7 : ow_inn x5 7
      rotate_left
      · replace h := (if_neg h7).symm.trans h
        cases h
      replace h := (if_pos h7).symm.trans h
      refine gw_iald dX8_cut_49 rfl h7 ?_
      refine gw_iload3 dX8_cut_50 ?_
      refine gw_icmp_ne (tgt := 58) dX8_cut_51 rfl (fun h8 => ?_) (fun h8 => ?_)
      · replace h := (if_neg h8).symm.trans h
        refine gw_ic0 dX8_cut_58 ?_
        refine gw_drp4 ?_
        exact tjX8_cut_59 l ih hk h
      · replace h := (if_pos h8).symm.trans h
        refine gw_ic1 dX8_cut_54 ?_
        refine gw_goto (tgt := 59) rfl dX8_cut_55 ?_
        refine gw_drp4 ?_
        exact tjX8_cut_59 l ih hk h

def lpX8_cut_24 (x1 : Int32) (M : ow_M) (k : Int32 → Int32 → Option Int32) : Nat → Int32 → Int32 → Option Int32
  | 0, _, _ => none
  | n + 1, x2, x3 => (if 4 ≤ x3 then k x2 x3 else lpX8_cut_35 x1 x2 x3 M (fun u11 u12 => (if u11 ≤ 0 then lpX8_cut_24 x1 M k n (x2 + 0) (x3 + 1) else lpX8_cut_24 x1 M k n (x2 + u11) (x3 + 1))) ow_N 0 0)
set_option maxRecDepth 100000 in
set_option maxHeartbeats 4000000 in
theorem tlpX8_cut_24 (l : Launch) {x1 : Int32} {M : ow_M} {k : Int32 → Int32 → Option Int32} {r : Int32}  (hk : ∀ (x2 : Int32) (x3 : Int32), k x2 x3 = some r → ow_G (ow_Γ l 2 (some .int) (ow_is (some (.int r)) M)) RX8 cX8_cut 6 109 [some (.ref 34), some (.int x1), some (.int x2), some (.int x3), none, none] [] M) : ∀ (n : Nat) (x2 : Int32) (x3 : Int32), lpX8_cut_24 x1 M k n x2 x3 = some r → ow_G (ow_Γ l 2 (some .int) (ow_is (some (.int r)) M)) RX8 cX8_cut 6 24 [some (.ref 34), some (.int x1), some (.int x2), some (.int x3), none, none] [] M := by
  intro n
  induction n with
  | zero => intro _ _ h; cases h
  | succ n ih =>
    intro x2 x3 h
    unfold lpX8_cut_24 at h
    refine gw_iload3 dX8_cut_24 ?_
    refine gw_ic4 dX8_cut_25 ?_
    refine gw_icmp_ge (tgt := 109) dX8_cut_26 rfl (fun h5 => ?_) (fun h5 => ?_)
    · replace h := (if_pos h5).symm.trans h
      exact hk _ _ h
    · replace h := (if_neg h5).symm.trans h
      refine gw_ic0 dX8_cut_29 ?_
      refine gw_istore4 dX8_cut_30 (by decide) rfl ?_
      refine gw_ic0 dX8_cut_32 ?_
      refine gw_istore5 dX8_cut_33 (by decide) rfl ?_
      refine tlpX8_cut_35 l ?_ _ _ _ h
      intro u11 u12 h
      refine gw_iload2 dX8_cut_89 ?_
      refine gw_iload4 dX8_cut_90 ?_
      refine gw_if_le (tgt := 100) dX8_cut_92 rfl (fun h13 => ?_) (fun h13 => ?_)
      · replace h := (if_pos h13).symm.trans h
        refine gw_ic0 dX8_cut_100 ?_
        refine gw_iadd dX8_cut_101 ?_
        refine gw_istore2 dX8_cut_102 (by decide) rfl ?_
        refine gw_iinc3 1 dX8_cut_103 (by decide) rfl (by decide) ?_
        refine gw_goto (tgt := 24) rfl dX8_cut_106 ?_
        refine gw_drp4 ?_
        refine gw_drp5 ?_
        exact ih _ _ h
      · replace h := (if_neg h13).symm.trans h
        refine gw_iload4 dX8_cut_95 ?_
        refine gw_goto (tgt := 101) rfl dX8_cut_97 ?_
        refine gw_iadd dX8_cut_101 ?_
        refine gw_istore2 dX8_cut_102 (by decide) rfl ?_
        refine gw_iinc3 1 dX8_cut_103 (by decide) rfl (by decide) ?_
        refine gw_goto (tgt := 24) rfl dX8_cut_106 ?_
        refine gw_drp4 ?_
        refine gw_drp5 ?_
        exact ih _ _ h

def fX8_cut (x1 : Int32) (M : ow_M) : Option Int32 := Option.bind (fX8_isEdge x1 M) (fun v2 => (if v2 = 0 then some (-1) else (if (M.1 34 6) = 0 then lpX8_cut_24 x1 M (fun u14 u15 => some u14) ow_N 0 0 else some (-3))))
set_option maxRecDepth 100000 in
set_option maxHeartbeats 4000000 in
theorem ctX8_cut (l : Launch) {x1 : Int32} {M : ow_M} {r : Int32}  (h : fX8_cut x1 M = some r) : ow_F l 2 yX8_cut cX8_cut 6 (some .int) [.ref 34, .int x1] M (some (.int r)) M := by
  unfold fX8_cut at h
  refine ow_enterO (own := RX8) rfl (by decide +kernel) rfl (ls := [some (.ref 34), some (.int x1), none, none, none, none]) rfl ?_
  refine gw_aload0 dX8_cut_0 ?_
  refine gw_iload1 dX8_cut_1 ?_
  obtain ⟨v2, hc1, h⟩ := ow_b_some h
  refine gw_cVI1 dX8_cut_2 lkX8_141 mkX8_isEdge (ow_rm_in rfl rfl) rfl rfl (ctX8_isEdge l hc1) rfl ?_
  refine gw_if_ne (tgt := 10) dX8_cut_5 rfl (fun h3 => ?_) (fun h3 => ?_)
  · replace h := (if_neg h3).symm.trans h
    refine gw_aload0 dX8_cut_10 ?_
    refine gw_getI dX8_cut_11 fkX8_89 rfl rfl ?_
    refine gw_if_eq (tgt := 20) dX8_cut_14 rfl (fun h4 => ?_) (fun h4 => ?_)
    · replace h := (if_pos h4).symm.trans h
      refine gw_ic0 dX8_cut_20 ?_
      refine gw_istore2 dX8_cut_21 (by decide) rfl ?_
      refine gw_ic0 dX8_cut_22 ?_
      refine gw_istore3 dX8_cut_23 (by decide) rfl ?_
      refine tlpX8_cut_24 l ?_ _ _ _ h
      intro u14 u15 h
      refine gw_iload2 dX8_cut_109 ?_
      have hA := Option.some.inj h
      subst hA
      exact gw_iret dX8_cut_110 ⟨rfl, rfl⟩
    · replace h := (if_neg h4).symm.trans h
      refine gw_bipush (-3) dX8_cut_17 (by decide) ?_
      have hA := Option.some.inj h
      subst hA
      exact gw_iret dX8_cut_19 ⟨rfl, rfl⟩
  · replace h := (if_pos h3).symm.trans h
    refine gw_icm1 dX8_cut_8 ?_
    have hA := Option.some.inj h
    subst hA
    exact gw_iret dX8_cut_9 ⟨rfl, rfl⟩

def lpX8_barred_14 (x1 : Int32) (M : ow_M) (k : Int32 → Option Int32) : Nat → Int32 → Option Int32
  | 0, _ => none
  | n + 1, x2 => (if (M.1 34 5) ≤ x2 then k x2 else if ow_inn x2 7 then if ow_inn x1 7 then (if (M.1 50 x1.toNatClampNeg) ≤ (M.1 50 x2.toNatClampNeg) then lpX8_barred_14 x1 M k n (x2 + 1) else if ow_inn x2 7 then if ow_inn x1 7 then (if (M.1 39 x1.toNatClampNeg) ≤ (M.1 39 x2.toNatClampNeg) then lpX8_barred_14 x1 M k n (x2 + 1) else some ((10 * x1) + x2)) else none else none) else none else none)
set_option maxRecDepth 100000 in
set_option maxHeartbeats 4000000 in
theorem tlpX8_barred_14 (l : Launch) {x1 : Int32} {M : ow_M} {k : Int32 → Option Int32} {r : Int32}  (hk : ∀ (x2 : Int32), k x2 = some r → ow_G (ow_Γ l 0 (some .int) (ow_is (some (.int r)) M)) RX8 cX8_barred 3 65 [some (.ref 34), some (.int x1), some (.int x2)] [] M) : ∀ (n : Nat) (x2 : Int32), lpX8_barred_14 x1 M k n x2 = some r → ow_G (ow_Γ l 0 (some .int) (ow_is (some (.int r)) M)) RX8 cX8_barred 3 14 [some (.ref 34), some (.int x1), some (.int x2)] [] M := by
  intro n
  induction n with
  | zero => intro _ h; cases h
  | succ n ih =>
    intro x2 h
    unfold lpX8_barred_14 at h
    refine gw_iload2 dX8_barred_14 ?_
    refine gw_aload0 dX8_barred_15 ?_
    refine gw_getI dX8_barred_16 fkX8_86 rfl rfl ?_
    refine gw_icmp_ge (tgt := 65) dX8_barred_19 rfl (fun h2 => ?_) (fun h2 => ?_)
    · replace h := (if_pos h2).symm.trans h
      exact hk _ h
    · replace h := (if_neg h2).symm.trans h
      refine gw_aload0 dX8_barred_22 ?_
      refine gw_getR dX8_barred_23 fkX8_55 rfl rfl ?_
      refine gw_iload2 dX8_barred_26 ?_
      by_cases h3 : ow_inn x2 7
      rotate_left
      · replace h := (if_neg h3).symm.trans h
        cases h
      replace h := (if_pos h3).symm.trans h
      refine gw_iald dX8_barred_27 rfl h3 ?_
      refine gw_aload0 dX8_barred_28 ?_
      refine gw_getR dX8_barred_29 fkX8_55 rfl rfl ?_
      refine gw_iload1 dX8_barred_32 ?_
      by_cases h4 : ow_inn x1 7
      rotate_left
      · replace h := (if_neg h4).symm.trans h
        cases h
      replace h := (if_pos h4).symm.trans h
      refine gw_iald dX8_barred_33 rfl h4 ?_
      refine gw_icmp_ge (tgt := 59) dX8_barred_34 rfl (fun h5 => ?_) (fun h5 => ?_)
      · replace h := (if_pos h5).symm.trans h
        refine gw_iinc2 1 dX8_barred_59 (by decide) rfl (by decide) ?_
        refine gw_goto (tgt := 14) rfl dX8_barred_62 ?_
        exact ih _ h
      · replace h := (if_neg h5).symm.trans h
        refine gw_aload0 dX8_barred_37 ?_
        refine gw_getR dX8_barred_38 fkX8_22 rfl rfl ?_
        refine gw_iload2 dX8_barred_41 ?_
        by_cases h6 : ow_inn x2 7
        rotate_left
        · replace h := (if_neg h6).symm.trans h
          cases h
        replace h := (if_pos h6).symm.trans h
        refine gw_iald dX8_barred_42 rfl h6 ?_
        refine gw_aload0 dX8_barred_43 ?_
        refine gw_getR dX8_barred_44 fkX8_22 rfl rfl ?_
        refine gw_iload1 dX8_barred_47 ?_
        by_cases h7 : ow_inn x1 7
        rotate_left
        · replace h := (if_neg h7).symm.trans h
          cases h
        replace h := (if_pos h7).symm.trans h
        refine gw_iald dX8_barred_48 rfl h7 ?_
        refine gw_icmp_ge (tgt := 59) dX8_barred_49 rfl (fun h8 => ?_) (fun h8 => ?_)
        · replace h := (if_pos h8).symm.trans h
          refine gw_iinc2 1 dX8_barred_59 (by decide) rfl (by decide) ?_
          refine gw_goto (tgt := 14) rfl dX8_barred_62 ?_
          exact ih _ h
        · replace h := (if_neg h8).symm.trans h
          refine gw_bipush 10 dX8_barred_52 (by decide) ?_
          refine gw_iload1 dX8_barred_54 ?_
          refine gw_imul dX8_barred_55 ?_
          refine gw_iload2 dX8_barred_56 ?_
          refine gw_iadd dX8_barred_57 ?_
          have hA := Option.some.inj h
          subst hA
          exact gw_iret dX8_barred_58 ⟨rfl, rfl⟩

def lpX8_barred_2  (M : ow_M) (k : Int32 → Option Int32) : Nat → Int32 → Option Int32
  | 0, _ => none
  | n + 1, x1 => (if (M.1 34 5) ≤ x1 then k x1 else lpX8_barred_14 x1 M (fun u9 => lpX8_barred_2 M k n (x1 + 1)) ow_N (x1 + 1))
set_option maxRecDepth 100000 in
set_option maxHeartbeats 4000000 in
theorem tlpX8_barred_2 (l : Launch)  {M : ow_M} {k : Int32 → Option Int32} {r : Int32}  (hk : ∀ (x1 : Int32), k x1 = some r → ow_G (ow_Γ l 0 (some .int) (ow_is (some (.int r)) M)) RX8 cX8_barred 3 71 [some (.ref 34), some (.int x1), none] [] M) : ∀ (n : Nat) (x1 : Int32), lpX8_barred_2  M k n x1 = some r → ow_G (ow_Γ l 0 (some .int) (ow_is (some (.int r)) M)) RX8 cX8_barred 3 2 [some (.ref 34), some (.int x1), none] [] M := by
  intro n
  induction n with
  | zero => intro _ h; cases h
  | succ n ih =>
    intro x1 h
    unfold lpX8_barred_2 at h
    refine gw_iload1 dX8_barred_2 ?_
    refine gw_aload0 dX8_barred_3 ?_
    refine gw_getI dX8_barred_4 fkX8_86 rfl rfl ?_
    refine gw_icmp_ge (tgt := 71) dX8_barred_7 rfl (fun h1 => ?_) (fun h1 => ?_)
    · replace h := (if_pos h1).symm.trans h
      exact hk _ h
    · replace h := (if_neg h1).symm.trans h
      refine gw_iload1 dX8_barred_10 ?_
      refine gw_ic1 dX8_barred_11 ?_
      refine gw_iadd dX8_barred_12 ?_
      refine gw_istore2 dX8_barred_13 (by decide) rfl ?_
      refine tlpX8_barred_14 l ?_ _ _ h
      intro u9 h
      refine gw_iinc1 1 dX8_barred_65 (by decide) rfl (by decide) ?_
      refine gw_goto (tgt := 2) rfl dX8_barred_68 ?_
      refine gw_drp2 ?_
      exact ih _ h

def fX8_barred  (M : ow_M) : Option Int32 := lpX8_barred_2 M (fun u10 => some (-9)) ow_N 0
set_option maxRecDepth 100000 in
set_option maxHeartbeats 4000000 in
theorem ctX8_barred (l : Launch)  {M : ow_M} {r : Int32}  (h : fX8_barred M = some r) : ow_F l 0 yX8_barred cX8_barred 3 (some .int) [.ref 34] M (some (.int r)) M := by
  unfold fX8_barred at h
  refine ow_enterO (own := RX8) rfl (by decide +kernel) rfl (ls := [some (.ref 34), none, none]) rfl ?_
  refine gw_ic0 dX8_barred_0 ?_
  refine gw_istore1 dX8_barred_1 (by decide) rfl ?_
  refine tlpX8_barred_2 l ?_ _ _ h
  intro u10 h
  refine gw_bipush (-9) dX8_barred_71 (by decide) ?_
  have hA := Option.some.inj h
  subst hA
  exact gw_iret dX8_barred_73 ⟨rfl, rfl⟩

def lpX8_changes_16 (x2 : Int32) (M : ow_M) (k : Int32 → Int32 → Option Int32) : Nat → Int32 → Int32 → Option Int32
  | 0, _, _ => none
  | n + 1, x1, x3 => (if (M.1 34 5) ≤ x3 then k x1 x3 else if ow_inn x3 7 then if ow_inn x2 7 then (if (M.1 50 x2.toNatClampNeg) ≤ (M.1 50 x3.toNatClampNeg) then lpX8_changes_16 x2 M k n (x1 + 0) (x3 + 1) else lpX8_changes_16 x2 M k n (x1 + 1) (x3 + 1)) else none else none)
set_option maxRecDepth 100000 in
set_option maxHeartbeats 4000000 in
theorem tlpX8_changes_16 (l : Launch) {x2 : Int32} {M : ow_M} {k : Int32 → Int32 → Option Int32} {r : Int32}  (hk : ∀ (x1 : Int32) (x3 : Int32), k x1 x3 = some r → ow_G (ow_Γ l 0 (some .int) (ow_is (some (.int r)) M)) RX8 cX8_changes 4 53 [some (.ref 34), some (.int x1), some (.int x2), some (.int x3)] [] M) : ∀ (n : Nat) (x1 : Int32) (x3 : Int32), lpX8_changes_16 x2 M k n x1 x3 = some r → ow_G (ow_Γ l 0 (some .int) (ow_is (some (.int r)) M)) RX8 cX8_changes 4 16 [some (.ref 34), some (.int x1), some (.int x2), some (.int x3)] [] M := by
  intro n
  induction n with
  | zero => intro _ _ h; cases h
  | succ n ih =>
    intro x1 x3 h
    unfold lpX8_changes_16 at h
    refine gw_iload3 dX8_changes_16 ?_
    refine gw_aload0 dX8_changes_17 ?_
    refine gw_getI dX8_changes_18 fkX8_86 rfl rfl ?_
    refine gw_icmp_ge (tgt := 53) dX8_changes_21 rfl (fun h2 => ?_) (fun h2 => ?_)
    · replace h := (if_pos h2).symm.trans h
      exact hk _ _ h
    · replace h := (if_neg h2).symm.trans h
      refine gw_iload1 dX8_changes_24 ?_
      refine gw_aload0 dX8_changes_25 ?_
      refine gw_getR dX8_changes_26 fkX8_55 rfl rfl ?_
      refine gw_iload3 dX8_changes_29 ?_
      by_cases h3 : ow_inn x3 7
      rotate_left
      · replace h := (if_neg h3).symm.trans h
        cases h
      replace h := (if_pos h3).symm.trans h
      refine gw_iald dX8_changes_30 rfl h3 ?_
      refine gw_aload0 dX8_changes_31 ?_
      refine gw_getR dX8_changes_32 fkX8_55 rfl rfl ?_
      refine gw_iload2 dX8_changes_35 ?_
      by_cases h4 : ow_inn x2 7
      rotate_left
      · replace h := (if_neg h4).symm.trans h
        cases h
      replace h := (if_pos h4).symm.trans h
      refine gw_iald dX8_changes_36 rfl h4 ?_
      refine gw_icmp_ge (tgt := 44) dX8_changes_37 rfl (fun h5 => ?_) (fun h5 => ?_)
      · replace h := (if_pos h5).symm.trans h
        refine gw_ic0 dX8_changes_44 ?_
        refine gw_iadd dX8_changes_45 ?_
        refine gw_istore1 dX8_changes_46 (by decide) rfl ?_
        refine gw_iinc3 1 dX8_changes_47 (by decide) rfl (by decide) ?_
        refine gw_goto (tgt := 16) rfl dX8_changes_50 ?_
        exact ih _ _ h
      · replace h := (if_neg h5).symm.trans h
        refine gw_ic1 dX8_changes_40 ?_
        refine gw_goto (tgt := 45) rfl dX8_changes_41 ?_
        refine gw_iadd dX8_changes_45 ?_
        refine gw_istore1 dX8_changes_46 (by decide) rfl ?_
        refine gw_iinc3 1 dX8_changes_47 (by decide) rfl (by decide) ?_
        refine gw_goto (tgt := 16) rfl dX8_changes_50 ?_
        exact ih _ _ h

def lpX8_changes_4  (M : ow_M) (k : Int32 → Int32 → Option Int32) : Nat → Int32 → Int32 → Option Int32
  | 0, _, _ => none
  | n + 1, x1, x2 => (if (M.1 34 5) ≤ x2 then k x1 x2 else lpX8_changes_16 x2 M (fun u6 u7 => lpX8_changes_4 M k n u6 (x2 + 1)) ow_N x1 (x2 + 1))
set_option maxRecDepth 100000 in
set_option maxHeartbeats 4000000 in
theorem tlpX8_changes_4 (l : Launch)  {M : ow_M} {k : Int32 → Int32 → Option Int32} {r : Int32}  (hk : ∀ (x1 : Int32) (x2 : Int32), k x1 x2 = some r → ow_G (ow_Γ l 0 (some .int) (ow_is (some (.int r)) M)) RX8 cX8_changes 4 59 [some (.ref 34), some (.int x1), some (.int x2), none] [] M) : ∀ (n : Nat) (x1 : Int32) (x2 : Int32), lpX8_changes_4  M k n x1 x2 = some r → ow_G (ow_Γ l 0 (some .int) (ow_is (some (.int r)) M)) RX8 cX8_changes 4 4 [some (.ref 34), some (.int x1), some (.int x2), none] [] M := by
  intro n
  induction n with
  | zero => intro _ _ h; cases h
  | succ n ih =>
    intro x1 x2 h
    unfold lpX8_changes_4 at h
    refine gw_iload2 dX8_changes_4 ?_
    refine gw_aload0 dX8_changes_5 ?_
    refine gw_getI dX8_changes_6 fkX8_86 rfl rfl ?_
    refine gw_icmp_ge (tgt := 59) dX8_changes_9 rfl (fun h1 => ?_) (fun h1 => ?_)
    · replace h := (if_pos h1).symm.trans h
      exact hk _ _ h
    · replace h := (if_neg h1).symm.trans h
      refine gw_iload2 dX8_changes_12 ?_
      refine gw_ic1 dX8_changes_13 ?_
      refine gw_iadd dX8_changes_14 ?_
      refine gw_istore3 dX8_changes_15 (by decide) rfl ?_
      refine tlpX8_changes_16 l ?_ _ _ _ h
      intro u6 u7 h
      refine gw_iinc2 1 dX8_changes_53 (by decide) rfl (by decide) ?_
      refine gw_goto (tgt := 4) rfl dX8_changes_56 ?_
      refine gw_drp3 ?_
      exact ih _ _ h

def fX8_changes  (M : ow_M) : Option Int32 := lpX8_changes_4 M (fun u8 u9 => some u8) ow_N 0 0
set_option maxRecDepth 100000 in
set_option maxHeartbeats 4000000 in
theorem ctX8_changes (l : Launch)  {M : ow_M} {r : Int32}  (h : fX8_changes M = some r) : ow_F l 0 yX8_changes cX8_changes 4 (some .int) [.ref 34] M (some (.int r)) M := by
  unfold fX8_changes at h
  refine ow_enterO (own := RX8) rfl (by decide +kernel) rfl (ls := [some (.ref 34), none, none, none]) rfl ?_
  refine gw_ic0 dX8_changes_0 ?_
  refine gw_istore1 dX8_changes_1 (by decide) rfl ?_
  refine gw_ic0 dX8_changes_2 ?_
  refine gw_istore2 dX8_changes_3 (by decide) rfl ?_
  refine tlpX8_changes_4 l ?_ _ _ _ h
  intro u8 u9 h
  refine gw_iload1 dX8_changes_59 ?_
  have hA := Option.some.inj h
  subst hA
  exact gw_iret dX8_changes_60 ⟨rfl, rfl⟩

def lpX8_order_85 (x1 : Int32) (x3 : Int32) (x4 : Int32) (x5 : Int32) (k : Int32 → Int32 → ow_M → Option (Int32 × ow_M)) : Nat → Int32 → Int32 → ow_M → Option (Int32 × ow_M)
  | 0, _, _, _ => none
  | n + 1, x7, x8, M => (if x4 ≤ x8 then k x7 x8 M else if ow_inn (((50 * x1) + x3) + x8) 200 then Option.bind (fX8_isPerson (M.1 37 (((50 * x1) + x3) + x8).toNatClampNeg) M) (fun v18 => (if v18 = 0 then some ((-1), M) else (if ((x7 >>> ((M.1 37 (((50 * x1) + x3) + x8).toNatClampNeg) &&& 31)) &&& 1) = 1 then some ((-1), M) else if ow_inn (M.1 37 (((50 * x1) + x3) + x8).toNatClampNeg) 7 then lpX8_order_85 x1 x3 x4 x5 k n (x7 ||| (1 <<< ((M.1 37 (((50 * x1) + x3) + x8).toNatClampNeg) &&& 31))) (x8 + 1) (ow_up M 50 (M.1 37 (((50 * x1) + x3) + x8).toNatClampNeg).toNatClampNeg x8) else none))) else none)
set_option maxRecDepth 100000 in
set_option maxHeartbeats 4000000 in
theorem tlpX8_order_85 (l : Launch) {x1 : Int32} {x3 : Int32} {x4 : Int32} {x5 : Int32} {k : Int32 → Int32 → ow_M → Option (Int32 × ow_M)} {r : Int32} {M9 : ow_M}  (hk : ∀ (x7 : Int32) (x8 : Int32) (M : ow_M), k x7 x8 M = some (r, M9) → ow_G (ow_Γ l 2 (some .int) (ow_is (some (.int r)) M9)) RX8 cX8_order 10 154 [some (.ref 34), some (.int x1), none, some (.int x3), some (.int x4), some (.int x5), none, some (.int x7), some (.int x8), none] [] M) : ∀ (n : Nat) (x7 : Int32) (x8 : Int32) (M : ow_M), lpX8_order_85 x1 x3 x4 x5 k n x7 x8 M = some (r, M9) → ow_G (ow_Γ l 2 (some .int) (ow_is (some (.int r)) M9)) RX8 cX8_order 10 85 [some (.ref 34), some (.int x1), none, some (.int x3), some (.int x4), some (.int x5), none, some (.int x7), some (.int x8), none] [] M := by
  intro n
  induction n with
  | zero => intro _ _ _ h; cases h
  | succ n ih =>
    intro x7 x8 M h
    unfold lpX8_order_85 at h
    refine gw_iload8 dX8_order_85 ?_
    refine gw_iload4 dX8_order_87 ?_
    refine gw_icmp_ge (tgt := 154) dX8_order_89 rfl (fun h15 => ?_) (fun h15 => ?_)
    · replace h := (if_pos h15).symm.trans h
      exact hk _ _ _ h
    · replace h := (if_neg h15).symm.trans h
      refine gw_aload0 dX8_order_92 ?_
      refine gw_getR dX8_order_93 fkX8_16 rfl rfl ?_
      refine gw_bipush 50 dX8_order_96 (by decide) ?_
      refine gw_iload1 dX8_order_98 ?_
      refine gw_imul dX8_order_99 ?_
      refine gw_iload3 dX8_order_100 ?_
      refine gw_iadd dX8_order_101 ?_
      refine gw_iload8 dX8_order_102 ?_
      refine gw_iadd dX8_order_104 ?_
      by_cases h16 : ow_inn (((50 * x1) + x3) + x8) 200
      rotate_left
      · replace h := (if_neg h16).symm.trans h
        cases h
      replace h := (if_pos h16).symm.trans h
      refine gw_iald dX8_order_105 rfl h16 ?_
      refine gw_istore9 dX8_order_106 (by decide) rfl ?_
      refine gw_aload0 dX8_order_108 ?_
      refine gw_iload9 dX8_order_109 ?_
      obtain ⟨v18, hc17, h⟩ := ow_b_some h
      refine gw_cVI1 dX8_order_111 lkX8_138 mkX8_isPerson (ow_rm_in rfl rfl) rfl rfl (ctX8_isPerson l hc17) rfl ?_
      refine gw_if_eq (tgt := 128) dX8_order_114 rfl (fun h19 => ?_) (fun h19 => ?_)
      · replace h := (if_pos h19).symm.trans h
        refine gw_icm1 dX8_order_128 ?_
        obtain ⟨hA, hB⟩ := Prod.mk.inj (Option.some.inj h)
        subst hA
        subst hB
        exact gw_iret dX8_order_129 ⟨rfl, rfl⟩
      · replace h := (if_neg h19).symm.trans h
        refine gw_iload7 dX8_order_117 ?_
        refine gw_iload9 dX8_order_119 ?_
        refine gw_ishr dX8_order_121 ?_
        refine gw_ic1 dX8_order_122 ?_
        refine gw_iand dX8_order_123 ?_
        refine gw_ic1 dX8_order_124 ?_
        refine gw_icmp_ne (tgt := 130) dX8_order_125 rfl (fun h20 => ?_) (fun h20 => ?_)
        · replace h := (if_neg h20).symm.trans h
          refine gw_iload7 dX8_order_130 ?_
          refine gw_ic1 dX8_order_132 ?_
          refine gw_iload9 dX8_order_133 ?_
          refine gw_ishl dX8_order_135 ?_
          refine gw_ior dX8_order_136 ?_
          refine gw_istore7 dX8_order_137 (by decide) rfl ?_
          refine gw_aload0 dX8_order_139 ?_
          refine gw_getR dX8_order_140 fkX8_55 rfl rfl ?_
          refine gw_iload9 dX8_order_143 ?_
          refine gw_iload8 dX8_order_145 ?_
          by_cases h21 : ow_inn (M.1 37 (((50 * x1) + x3) + x8).toNatClampNeg) 7
          rotate_left
          · replace h := (if_neg h21).symm.trans h
            cases h
          replace h := (if_pos h21).symm.trans h
          refine gw_iast dX8_order_147 rfl h21 ?_
          refine gw_iinc8 1 dX8_order_148 (by decide) rfl (by decide) ?_
          refine gw_goto (tgt := 85) rfl dX8_order_151 ?_
          refine gw_drp9 ?_
          exact ih _ _ _ h
        · replace h := (if_pos h20).symm.trans h
          refine gw_icm1 dX8_order_128 ?_
          obtain ⟨hA, hB⟩ := Prod.mk.inj (Option.some.inj h)
          subst hA
          subst hB
          exact gw_iret dX8_order_129 ⟨rfl, rfl⟩

def fX8_order (x1 : Int32) (x2 : Int32) (x3 : Int32) (x4 : Int32) (x5 : Int32) (M : ow_M) : Option (Int32 × ow_M) := Option.bind (fX8_isSheet x1) (fun v2 => (if v2 = 0 then some ((-1), (ow_up M 34 0 0)) else Option.bind (fX8_isSort x2) (fun v5 => (if v5 = 0 then some ((-2), (ow_up M 34 0 0)) else Option.bind (fX8_within x5 0 1) (fun v8 => (if v8 = 0 then some ((-2), (ow_up M 34 0 0)) else Option.bind (fX8_against x1 x2 x3 x4 (ow_up M 34 0 0)) (fun v11 => (if v11 = 0 then (if ((ow_up M 34 0 0).1 34 5) = 0 then some ((-3), (ow_up M 34 0 0)) else (if x4 = ((ow_up M 34 0 0).1 34 5) then lpX8_order_85 x1 x3 x4 x5 (fun u22 u23 M24 => (if x5 = 1 then Option.bind (fX8_barred M24) (fun v32 => some (v32, M24)) else Option.bind (fX8_barred M24) (fun v27 => (if v27 = (-9) then Option.bind (fX8_changes M24) (fun v30 => some (v30, M24)) else some ((-9), M24))))) ow_N 0 0 (ow_up M 34 0 0) else some ((-2), (ow_up M 34 0 0)))) else ow_bd (fX8_fails v11 (ow_up M 34 0 0)) (fun v34 M35 => some (v34, M35))))))))))
set_option maxRecDepth 100000 in
set_option maxHeartbeats 4000000 in
theorem ctX8_order (l : Launch) {x1 : Int32} {x2 : Int32} {x3 : Int32} {x4 : Int32} {x5 : Int32} {M : ow_M} {r : Int32} {M9 : ow_M}  (h : fX8_order x1 x2 x3 x4 x5 M = some (r, M9)) : ow_F l 2 yX8_order cX8_order 10 (some .int) [.ref 34, .int x1, .int x2, .int x3, .int x4, .int x5] M (some (.int r)) M9 := by
  unfold fX8_order at h
  refine ow_enterO (own := RX8) rfl (by decide +kernel) rfl (ls := [some (.ref 34), some (.int x1), some (.int x2), some (.int x3), some (.int x4), some (.int x5), none, none, none, none]) rfl ?_
  refine gw_aload0 dX8_order_0 ?_
  refine gw_ic0 dX8_order_1 ?_
  refine gw_putI dX8_order_2 fkX8_76 fp8_0 rfl rfl ?_
  refine gw_iload1 dX8_order_5 ?_
  obtain ⟨v2, hc1, h⟩ := ow_b_some h
  refine gw_cSI1 dX8_order_6 lkX8_103 mkX8_isSheet (ow_rm_in rfl rfl) (ctX8_isSheet l hc1) rfl ?_
  refine gw_if_ne (tgt := 14) dX8_order_9 rfl (fun h3 => ?_) (fun h3 => ?_)
  · replace h := (if_neg h3).symm.trans h
    refine gw_iload2 dX8_order_14 ?_
    obtain ⟨v5, hc4, h⟩ := ow_b_some h
    refine gw_cSI1 dX8_order_15 lkX8_107 mkX8_isSort (ow_rm_in rfl rfl) (ctX8_isSort l hc4) rfl ?_
    refine gw_if_eq (tgt := 31) dX8_order_18 rfl (fun h6 => ?_) (fun h6 => ?_)
    · replace h := (if_pos h6).symm.trans h
      refine gw_bipush (-2) dX8_order_31 (by decide) ?_
      obtain ⟨hA, hB⟩ := Prod.mk.inj (Option.some.inj h)
      subst hA
      subst hB
      exact gw_iret dX8_order_33 ⟨rfl, rfl⟩
    · replace h := (if_neg h6).symm.trans h
      refine gw_iload5 dX8_order_21 ?_
      refine gw_ic0 dX8_order_23 ?_
      refine gw_ic1 dX8_order_24 ?_
      obtain ⟨v8, hc7, h⟩ := ow_b_some h
      refine gw_cSI3 dX8_order_25 lkX8_82 mkX8_within (ow_rm_in rfl rfl) (ctX8_within l hc7) rfl ?_
      refine gw_if_ne (tgt := 34) dX8_order_28 rfl (fun h9 => ?_) (fun h9 => ?_)
      · replace h := (if_neg h9).symm.trans h
        refine gw_aload0 dX8_order_34 ?_
        refine gw_iload1 dX8_order_35 ?_
        refine gw_iload2 dX8_order_36 ?_
        refine gw_iload3 dX8_order_37 ?_
        refine gw_iload4 dX8_order_38 ?_
        obtain ⟨v11, hc10, h⟩ := ow_b_some h
        refine gw_cVI4 dX8_order_40 lkX8_110 mkX8_against (ow_rm_in rfl rfl) rfl rfl (ctX8_against l hc10) rfl ?_
        refine gw_istore6 dX8_order_43 (by decide) rfl ?_
        refine gw_iload6 dX8_order_45 ?_
        refine gw_if_eq (tgt := 57) dX8_order_47 rfl (fun h12 => ?_) (fun h12 => ?_)
        · replace h := (if_pos h12).symm.trans h
          refine gw_aload0 dX8_order_57 ?_
          refine gw_getI dX8_order_58 fkX8_86 rfl rfl ?_
          refine gw_if_ne (tgt := 67) dX8_order_61 rfl (fun h13 => ?_) (fun h13 => ?_)
          · replace h := (if_neg h13).symm.trans h
            refine gw_iload4 dX8_order_67 ?_
            refine gw_aload0 dX8_order_69 ?_
            refine gw_getI dX8_order_70 fkX8_86 rfl rfl ?_
            refine gw_icmp_eq (tgt := 79) dX8_order_73 rfl (fun h14 => ?_) (fun h14 => ?_)
            · replace h := (if_pos h14).symm.trans h
              refine gw_ic0 dX8_order_79 ?_
              refine gw_istore7 dX8_order_80 (by decide) rfl ?_
              refine gw_ic0 dX8_order_82 ?_
              refine gw_istore8 dX8_order_83 (by decide) rfl ?_
              refine gw_drp2 ?_
              refine gw_drp6 ?_
              refine tlpX8_order_85 l ?_ _ _ _ _ h
              intro u22 u23 M24 h
              refine gw_iload5 dX8_order_154 ?_
              refine gw_ic1 dX8_order_156 ?_
              refine gw_icmp_ne (tgt := 167) dX8_order_157 rfl (fun h25 => ?_) (fun h25 => ?_)
              · replace h := (if_neg h25).symm.trans h
                refine gw_aload0 dX8_order_167 ?_
                obtain ⟨v27, hc26, h⟩ := ow_b_some h
                refine gw_cVI0 dX8_order_168 lkX8_190 mkX8_barred (ow_rm_in rfl rfl) rfl rfl (ctX8_barred l hc26) rfl ?_
                refine gw_bipush (-9) dX8_order_171 (by decide) ?_
                refine gw_icmp_eq (tgt := 181) dX8_order_173 rfl (fun h28 => ?_) (fun h28 => ?_)
                · replace h := (if_pos h28).symm.trans h
                  refine gw_aload0 dX8_order_181 ?_
                  obtain ⟨v30, hc29, h⟩ := ow_b_some h
                  refine gw_cVI0 dX8_order_182 lkX8_193 mkX8_changes (ow_rm_in rfl rfl) rfl rfl (ctX8_changes l hc29) rfl ?_
                  obtain ⟨hA, hB⟩ := Prod.mk.inj (Option.some.inj h)
                  subst hA
                  subst hB
                  exact gw_iret dX8_order_185 ⟨rfl, rfl⟩
                · replace h := (if_neg h28).symm.trans h
                  refine gw_bipush (-9) dX8_order_176 (by decide) ?_
                  refine gw_goto (tgt := 185) rfl dX8_order_178 ?_
                  obtain ⟨hA, hB⟩ := Prod.mk.inj (Option.some.inj h)
                  subst hA
                  subst hB
                  exact gw_iret dX8_order_185 ⟨rfl, rfl⟩
              · replace h := (if_pos h25).symm.trans h
                refine gw_aload0 dX8_order_160 ?_
                obtain ⟨v32, hc31, h⟩ := ow_b_some h
                refine gw_cVI0 dX8_order_161 lkX8_190 mkX8_barred (ow_rm_in rfl rfl) rfl rfl (ctX8_barred l hc31) rfl ?_
                refine gw_goto (tgt := 185) rfl dX8_order_164 ?_
                obtain ⟨hA, hB⟩ := Prod.mk.inj (Option.some.inj h)
                subst hA
                subst hB
                exact gw_iret dX8_order_185 ⟨rfl, rfl⟩
            · replace h := (if_neg h14).symm.trans h
              refine gw_bipush (-2) dX8_order_76 (by decide) ?_
              obtain ⟨hA, hB⟩ := Prod.mk.inj (Option.some.inj h)
              subst hA
              subst hB
              exact gw_iret dX8_order_78 ⟨rfl, rfl⟩
          · replace h := (if_pos h13).symm.trans h
            refine gw_bipush (-3) dX8_order_64 (by decide) ?_
            obtain ⟨hA, hB⟩ := Prod.mk.inj (Option.some.inj h)
            subst hA
            subst hB
            exact gw_iret dX8_order_66 ⟨rfl, rfl⟩
        · replace h := (if_neg h12).symm.trans h
          refine gw_aload0 dX8_order_50 ?_
          refine gw_iload6 dX8_order_51 ?_
          obtain ⟨v34, M35, hc33, h⟩ := ow_bd_some h
          refine gw_cVI1 dX8_order_53 lkX8_114 mkX8_fails (ow_rm_in rfl rfl) rfl rfl (ctX8_fails l hc33) rfl ?_
          obtain ⟨hA, hB⟩ := Prod.mk.inj (Option.some.inj h)
          subst hA
          subst hB
          exact gw_iret dX8_order_56 ⟨rfl, rfl⟩
      · replace h := (if_pos h9).symm.trans h
        refine gw_bipush (-2) dX8_order_31 (by decide) ?_
        obtain ⟨hA, hB⟩ := Prod.mk.inj (Option.some.inj h)
        subst hA
        subst hB
        exact gw_iret dX8_order_33 ⟨rfl, rfl⟩
  · replace h := (if_pos h3).symm.trans h
    refine gw_icm1 dX8_order_12 ?_
    obtain ⟨hA, hB⟩ := Prod.mk.inj (Option.some.inj h)
    subst hA
    subst hB
    exact gw_iret dX8_order_13 ⟨rfl, rfl⟩

def lpX8_mayStand_2 (x1 : Int32) (x2 : Int32) (M : ow_M) (k : Int32 → Option Int32) : Nat → Int32 → Option Int32
  | 0, _ => none
  | n + 1, x3 => (if x1 ≤ x3 then k x3 else if ow_inn x1 7 then if ow_inn x3 7 then (if (M.1 39 x3.toNatClampNeg) ≤ (M.1 39 x1.toNatClampNeg) then lpX8_mayStand_2 x1 x2 M k n (x3 + 1) else (if ((x2 >>> (x3 &&& 31)) &&& 1) = 0 then some 0 else lpX8_mayStand_2 x1 x2 M k n (x3 + 1))) else none else none)
set_option maxRecDepth 100000 in
set_option maxHeartbeats 4000000 in
theorem tlpX8_mayStand_2 (l : Launch) {x1 : Int32} {x2 : Int32} {M : ow_M} {k : Int32 → Option Int32} {r : Int32}  (hk : ∀ (x3 : Int32), k x3 = some r → ow_G (ow_Γ l 0 (some .boolean) (ow_is (some (.int r)) M)) RX8 cX8_mayStand 4 38 [some (.ref 34), some (.int x1), some (.int x2), some (.int x3)] [] M) : ∀ (n : Nat) (x3 : Int32), lpX8_mayStand_2 x1 x2 M k n x3 = some r → ow_G (ow_Γ l 0 (some .boolean) (ow_is (some (.int r)) M)) RX8 cX8_mayStand 4 2 [some (.ref 34), some (.int x1), some (.int x2), some (.int x3)] [] M := by
  intro n
  induction n with
  | zero => intro _ h; cases h
  | succ n ih =>
    intro x3 h
    unfold lpX8_mayStand_2 at h
    refine gw_iload3 dX8_mayStand_2 ?_
    refine gw_iload1 dX8_mayStand_3 ?_
    refine gw_icmp_ge (tgt := 38) dX8_mayStand_4 rfl (fun h1 => ?_) (fun h1 => ?_)
    · replace h := (if_pos h1).symm.trans h
      exact hk _ h
    · replace h := (if_neg h1).symm.trans h
      refine gw_aload0 dX8_mayStand_7 ?_
      refine gw_getR dX8_mayStand_8 fkX8_22 rfl rfl ?_
      refine gw_iload1 dX8_mayStand_11 ?_
      by_cases h2 : ow_inn x1 7
      rotate_left
      · replace h := (if_neg h2).symm.trans h
        cases h
      replace h := (if_pos h2).symm.trans h
      refine gw_iald dX8_mayStand_12 rfl h2 ?_
      refine gw_aload0 dX8_mayStand_13 ?_
      refine gw_getR dX8_mayStand_14 fkX8_22 rfl rfl ?_
      refine gw_iload3 dX8_mayStand_17 ?_
      by_cases h3 : ow_inn x3 7
      rotate_left
      · replace h := (if_neg h3).symm.trans h
        cases h
      replace h := (if_pos h3).symm.trans h
      refine gw_iald dX8_mayStand_18 rfl h3 ?_
      refine gw_icmp_ge (tgt := 32) dX8_mayStand_19 rfl (fun h4 => ?_) (fun h4 => ?_)
      · replace h := (if_pos h4).symm.trans h
        refine gw_iinc3 1 dX8_mayStand_32 (by decide) rfl (by decide) ?_
        refine gw_goto (tgt := 2) rfl dX8_mayStand_35 ?_
        exact ih _ h
      · replace h := (if_neg h4).symm.trans h
        refine gw_iload2 dX8_mayStand_22 ?_
        refine gw_iload3 dX8_mayStand_23 ?_
        refine gw_ishr dX8_mayStand_24 ?_
        refine gw_ic1 dX8_mayStand_25 ?_
        refine gw_iand dX8_mayStand_26 ?_
        refine gw_if_ne (tgt := 32) dX8_mayStand_27 rfl (fun h5 => ?_) (fun h5 => ?_)
        · replace h := (if_neg h5).symm.trans h
          refine gw_iinc3 1 dX8_mayStand_32 (by decide) rfl (by decide) ?_
          refine gw_goto (tgt := 2) rfl dX8_mayStand_35 ?_
          exact ih _ h
        · replace h := (if_pos h5).symm.trans h
          refine gw_ic0 dX8_mayStand_30 ?_
          have hA := Option.some.inj h
          subst hA
          exact gw_zret (Or.inl rfl) dX8_mayStand_31 ⟨rfl, rfl⟩

def fX8_mayStand (x1 : Int32) (x2 : Int32) (M : ow_M) : Option Int32 := lpX8_mayStand_2 x1 x2 M (fun u6 => some 1) ow_N 0
set_option maxRecDepth 100000 in
set_option maxHeartbeats 4000000 in
theorem ctX8_mayStand (l : Launch) {x1 : Int32} {x2 : Int32} {M : ow_M} {r : Int32}  (h : fX8_mayStand x1 x2 M = some r) : ow_F l 0 yX8_mayStand cX8_mayStand 4 (some .boolean) [.ref 34, .int x1, .int x2] M (some (.int r)) M := by
  unfold fX8_mayStand at h
  refine ow_enterO (own := RX8) rfl (by decide +kernel) rfl (ls := [some (.ref 34), some (.int x1), some (.int x2), none]) rfl ?_
  refine gw_ic0 dX8_mayStand_0 ?_
  refine gw_istore3 dX8_mayStand_1 (by decide) rfl ?_
  refine tlpX8_mayStand_2 l ?_ _ _ h
  intro u6 h
  refine gw_ic1 dX8_mayStand_38 ?_
  have hA := Option.some.inj h
  subst hA
  exact gw_zret (Or.inr rfl) dX8_mayStand_39 ⟨rfl, rfl⟩

def lpX8_coming_19 (x1 : Int32) (k : Int32 → ow_M → Option (Int32 × ow_M)) : Nat → Int32 → ow_M → Option (Int32 × ow_M)
  | 0, _, _ => none
  | n + 1, x2, M => (if x1 ≤ x2 then k x2 M else (if x2 = 0 then if ow_inn x2 128 then lpX8_coming_19 x1 k n (x2 + 1) (ow_up M 51 x2.toNatClampNeg 1) else none else if ow_inn x2 128 then lpX8_coming_19 x1 k n (x2 + 1) (ow_up M 51 x2.toNatClampNeg 0) else none))
set_option maxRecDepth 100000 in
set_option maxHeartbeats 4000000 in
theorem tlpX8_coming_19 (l : Launch) {x1 : Int32} {k : Int32 → ow_M → Option (Int32 × ow_M)} {r : Int32} {M9 : ow_M}  (hk : ∀ (x2 : Int32) (M : ow_M), k x2 M = some (r, M9) → ow_G (ow_Γ l 1 (some .int) (ow_is (some (.int r)) M9)) RX8 cX8_coming 4 45 [some (.ref 34), some (.int x1), some (.int x2), none] [] M) : ∀ (n : Nat) (x2 : Int32) (M : ow_M), lpX8_coming_19 x1 k n x2 M = some (r, M9) → ow_G (ow_Γ l 1 (some .int) (ow_is (some (.int r)) M9)) RX8 cX8_coming 4 19 [some (.ref 34), some (.int x1), some (.int x2), none] [] M := by
  intro n
  induction n with
  | zero => intro _ _ h; cases h
  | succ n ih =>
    intro x2 M h
    unfold lpX8_coming_19 at h
    refine gw_iload2 dX8_coming_19 ?_
    refine gw_iload1 dX8_coming_20 ?_
    refine gw_icmp_ge (tgt := 45) dX8_coming_21 rfl (fun h2 => ?_) (fun h2 => ?_)
    · replace h := (if_pos h2).symm.trans h
      exact hk _ _ h
    · replace h := (if_neg h2).symm.trans h
      refine gw_aload0 dX8_coming_24 ?_
      refine gw_getR dX8_coming_25 fkX8_58 rfl rfl ?_
      refine gw_iload2 dX8_coming_28 ?_
      refine gw_iload2 dX8_coming_29 ?_
      refine gw_if_ne (tgt := 37) dX8_coming_30 rfl (fun h3 => ?_) (fun h3 => ?_)
      · replace h := (if_neg h3).symm.trans h
        refine gw_ic0 dX8_coming_37 ?_
        by_cases h4 : ow_inn x2 128
        rotate_left
        · replace h := (if_neg h4).symm.trans h
          cases h
        replace h := (if_pos h4).symm.trans h
        refine gw_iast dX8_coming_38 rfl h4 ?_
        refine gw_iinc2 1 dX8_coming_39 (by decide) rfl (by decide) ?_
        refine gw_goto (tgt := 19) rfl dX8_coming_42 ?_
        exact ih _ _ h
      · replace h := (if_pos h3).symm.trans h
        refine gw_ic1 dX8_coming_33 ?_
        refine gw_goto (tgt := 38) rfl dX8_coming_34 ?_
        by_cases h5 : ow_inn x2 128
        rotate_left
        · replace h := (if_neg h5).symm.trans h
          cases h
        replace h := (if_pos h5).symm.trans h
        refine gw_iast dX8_coming_38 rfl h5 ?_
        refine gw_iinc2 1 dX8_coming_39 (by decide) rfl (by decide) ?_
        refine gw_goto (tgt := 19) rfl dX8_coming_42 ?_
        exact ih _ _ h

def lpX8_coming_54 (x1 : Int32) (x2 : Int32) (k : Int32 → ow_M → Option (Int32 × ow_M)) : Nat → Int32 → ow_M → Option (Int32 × ow_M)
  | 0, _, _ => none
  | n + 1, x3, M => (if (M.1 34 5) ≤ x3 then k x3 M else (if ((x2 >>> (x3 &&& 31)) &&& 1) = 0 then Option.bind (fX8_mayStand x3 x2 M) (fun v12 => (if v12 = 0 then lpX8_coming_54 x1 x2 k n (x3 + 1) M else if ow_inn (x2 ||| (1 <<< (x3 &&& 31))) 128 then if ow_inn x2 128 then if ow_inn (x2 ||| (1 <<< (x3 &&& 31))) 128 then lpX8_coming_54 x1 x2 k n (x3 + 1) (ow_up M 51 (x2 ||| (1 <<< (x3 &&& 31))).toNatClampNeg ((M.1 51 (x2 ||| (1 <<< (x3 &&& 31))).toNatClampNeg) + (M.1 51 x2.toNatClampNeg))) else none else none else none)) else lpX8_coming_54 x1 x2 k n (x3 + 1) M))
set_option maxRecDepth 100000 in
set_option maxHeartbeats 4000000 in
theorem tlpX8_coming_54 (l : Launch) {x1 : Int32} {x2 : Int32} {k : Int32 → ow_M → Option (Int32 × ow_M)} {r : Int32} {M9 : ow_M}  (hk : ∀ (x3 : Int32) (M : ow_M), k x3 M = some (r, M9) → ow_G (ow_Γ l 1 (some .int) (ow_is (some (.int r)) M9)) RX8 cX8_coming 4 104 [some (.ref 34), some (.int x1), some (.int x2), some (.int x3)] [] M) : ∀ (n : Nat) (x3 : Int32) (M : ow_M), lpX8_coming_54 x1 x2 k n x3 M = some (r, M9) → ow_G (ow_Γ l 1 (some .int) (ow_is (some (.int r)) M9)) RX8 cX8_coming 4 54 [some (.ref 34), some (.int x1), some (.int x2), some (.int x3)] [] M := by
  intro n
  induction n with
  | zero => intro _ _ h; cases h
  | succ n ih =>
    intro x3 M h
    unfold lpX8_coming_54 at h
    refine gw_iload3 dX8_coming_54 ?_
    refine gw_aload0 dX8_coming_55 ?_
    refine gw_getI dX8_coming_56 fkX8_86 rfl rfl ?_
    refine gw_icmp_ge (tgt := 104) dX8_coming_59 rfl (fun h9 => ?_) (fun h9 => ?_)
    · replace h := (if_pos h9).symm.trans h
      exact hk _ _ h
    · replace h := (if_neg h9).symm.trans h
      refine gw_iload2 dX8_coming_62 ?_
      refine gw_iload3 dX8_coming_63 ?_
      refine gw_ishr dX8_coming_64 ?_
      refine gw_ic1 dX8_coming_65 ?_
      refine gw_iand dX8_coming_66 ?_
      refine gw_if_ne (tgt := 98) dX8_coming_67 rfl (fun h10 => ?_) (fun h10 => ?_)
      · replace h := (if_neg h10).symm.trans h
        refine gw_iinc3 1 dX8_coming_98 (by decide) rfl (by decide) ?_
        refine gw_goto (tgt := 54) rfl dX8_coming_101 ?_
        exact ih _ _ h
      · replace h := (if_pos h10).symm.trans h
        refine gw_aload0 dX8_coming_70 ?_
        refine gw_iload3 dX8_coming_71 ?_
        refine gw_iload2 dX8_coming_72 ?_
        obtain ⟨v12, hc11, h⟩ := ow_b_some h
        refine gw_cVI2 dX8_coming_73 lkX8_196 mkX8_mayStand (ow_rm_in rfl rfl) rfl rfl (ctX8_mayStand l hc11) rfl ?_
        refine gw_if_eq (tgt := 98) dX8_coming_76 rfl (fun h13 => ?_) (fun h13 => ?_)
        · replace h := (if_pos h13).symm.trans h
          refine gw_iinc3 1 dX8_coming_98 (by decide) rfl (by decide) ?_
          refine gw_goto (tgt := 54) rfl dX8_coming_101 ?_
          exact ih _ _ h
        · replace h := (if_neg h13).symm.trans h
          refine gw_aload0 dX8_coming_79 ?_
          refine gw_getR dX8_coming_80 fkX8_58 rfl rfl ?_
          refine gw_iload2 dX8_coming_83 ?_
          refine gw_ic1 dX8_coming_84 ?_
          refine gw_iload3 dX8_coming_85 ?_
          refine gw_ishl dX8_coming_86 ?_
          refine gw_ior dX8_coming_87 ?_
          refine gw_dup2 rfl rfl dX8_coming_88 ?_
          by_cases h14 : ow_inn (x2 ||| (1 <<< (x3 &&& 31))) 128
          rotate_left
          · replace h := (if_neg h14).symm.trans h
            cases h
          replace h := (if_pos h14).symm.trans h
          refine gw_iald dX8_coming_89 rfl h14 ?_
          refine gw_aload0 dX8_coming_90 ?_
          refine gw_getR dX8_coming_91 fkX8_58 rfl rfl ?_
          refine gw_iload2 dX8_coming_94 ?_
          by_cases h15 : ow_inn x2 128
          rotate_left
          · replace h := (if_neg h15).symm.trans h
            cases h
          replace h := (if_pos h15).symm.trans h
          refine gw_iald dX8_coming_95 rfl h15 ?_
          refine gw_iadd dX8_coming_96 ?_
          by_cases h16 : ow_inn (x2 ||| (1 <<< (x3 &&& 31))) 128
          rotate_left
          · replace h := (if_neg h16).symm.trans h
            cases h
          replace h := (if_pos h16).symm.trans h
          refine gw_iast dX8_coming_97 rfl h16 ?_
          refine gw_iinc3 1 dX8_coming_98 (by decide) rfl (by decide) ?_
          refine gw_goto (tgt := 54) rfl dX8_coming_101 ?_
          exact ih _ _ h

def lpX8_coming_47 (x1 : Int32) (k : Int32 → ow_M → Option (Int32 × ow_M)) : Nat → Int32 → ow_M → Option (Int32 × ow_M)
  | 0, _, _ => none
  | n + 1, x2, M => (if x1 ≤ x2 then k x2 M else lpX8_coming_54 x1 x2 (fun u17 M18 => lpX8_coming_47 x1 k n (x2 + 1) M18) ow_N 0 M)
set_option maxRecDepth 100000 in
set_option maxHeartbeats 4000000 in
theorem tlpX8_coming_47 (l : Launch) {x1 : Int32} {k : Int32 → ow_M → Option (Int32 × ow_M)} {r : Int32} {M9 : ow_M}  (hk : ∀ (x2 : Int32) (M : ow_M), k x2 M = some (r, M9) → ow_G (ow_Γ l 1 (some .int) (ow_is (some (.int r)) M9)) RX8 cX8_coming 4 110 [some (.ref 34), some (.int x1), some (.int x2), none] [] M) : ∀ (n : Nat) (x2 : Int32) (M : ow_M), lpX8_coming_47 x1 k n x2 M = some (r, M9) → ow_G (ow_Γ l 1 (some .int) (ow_is (some (.int r)) M9)) RX8 cX8_coming 4 47 [some (.ref 34), some (.int x1), some (.int x2), none] [] M := by
  intro n
  induction n with
  | zero => intro _ _ h; cases h
  | succ n ih =>
    intro x2 M h
    unfold lpX8_coming_47 at h
    refine gw_iload2 dX8_coming_47 ?_
    refine gw_iload1 dX8_coming_48 ?_
    refine gw_icmp_ge (tgt := 110) dX8_coming_49 rfl (fun h8 => ?_) (fun h8 => ?_)
    · replace h := (if_pos h8).symm.trans h
      exact hk _ _ h
    · replace h := (if_neg h8).symm.trans h
      refine gw_ic0 dX8_coming_52 ?_
      refine gw_istore3 dX8_coming_53 (by decide) rfl ?_
      refine tlpX8_coming_54 l ?_ _ _ _ h
      intro u17 M18 h
      refine gw_iinc2 1 dX8_coming_104 (by decide) rfl (by decide) ?_
      refine gw_goto (tgt := 47) rfl dX8_coming_107 ?_
      refine gw_drp3 ?_
      exact ih _ _ h

def fX8_coming  (M : ow_M) : Option (Int32 × ow_M) := (if (M.1 34 5) = 0 then some ((-3), M) else lpX8_coming_19 (1 <<< ((M.1 34 5) &&& 31)) (fun u6 M7 => lpX8_coming_47 (1 <<< ((M.1 34 5) &&& 31)) (fun u19 M20 => if ow_inn ((1 <<< ((M.1 34 5) &&& 31)) - 1) 128 then some ((M20.1 51 ((1 <<< ((M.1 34 5) &&& 31)) - 1).toNatClampNeg), M20) else none) ow_N 0 M7) ow_N 0 M)
set_option maxRecDepth 100000 in
set_option maxHeartbeats 4000000 in
theorem ctX8_coming (l : Launch)  {M : ow_M} {r : Int32} {M9 : ow_M}  (h : fX8_coming M = some (r, M9)) : ow_F l 1 yX8_coming cX8_coming 4 (some .int) [.ref 34] M (some (.int r)) M9 := by
  unfold fX8_coming at h
  refine ow_enterO (own := RX8) rfl (by decide +kernel) rfl (ls := [some (.ref 34), none, none, none]) rfl ?_
  refine gw_aload0 dX8_coming_0 ?_
  refine gw_getI dX8_coming_1 fkX8_86 rfl rfl ?_
  refine gw_if_ne (tgt := 10) dX8_coming_4 rfl (fun h1 => ?_) (fun h1 => ?_)
  · replace h := (if_neg h1).symm.trans h
    refine gw_ic1 dX8_coming_10 ?_
    refine gw_aload0 dX8_coming_11 ?_
    refine gw_getI dX8_coming_12 fkX8_86 rfl rfl ?_
    refine gw_ishl dX8_coming_15 ?_
    refine gw_istore1 dX8_coming_16 (by decide) rfl ?_
    refine gw_ic0 dX8_coming_17 ?_
    refine gw_istore2 dX8_coming_18 (by decide) rfl ?_
    refine tlpX8_coming_19 l ?_ _ _ _ h
    intro u6 M7 h
    refine gw_ic0 dX8_coming_45 ?_
    refine gw_istore2 dX8_coming_46 (by decide) rfl ?_
    refine tlpX8_coming_47 l ?_ _ _ _ h
    intro u19 M20 h
    refine gw_aload0 dX8_coming_110 ?_
    refine gw_getR dX8_coming_111 fkX8_58 rfl rfl ?_
    refine gw_iload1 dX8_coming_114 ?_
    refine gw_ic1 dX8_coming_115 ?_
    refine gw_isub dX8_coming_116 ?_
    by_cases h21 : ow_inn ((1 <<< ((M.1 34 5) &&& 31)) - 1) 128
    rotate_left
    · replace h := (if_neg h21).symm.trans h
      cases h
    replace h := (if_pos h21).symm.trans h
    refine gw_iald dX8_coming_117 rfl h21 ?_
    obtain ⟨hA, hB⟩ := Prod.mk.inj (Option.some.inj h)
    subst hA
    subst hB
    exact gw_iret dX8_coming_118 ⟨rfl, rfl⟩
  · replace h := (if_pos h1).symm.trans h
    refine gw_bipush (-3) dX8_coming_7 (by decide) ?_
    obtain ⟨hA, hB⟩ := Prod.mk.inj (Option.some.inj h)
    subst hA
    subst hB
    exact gw_iret dX8_coming_9 ⟨rfl, rfl⟩

def fX8_readers (x1 : Int32) (x2 : Int32) (M : ow_M) : Option Int32 := (if (M.1 34 6) = 0 then some ((x2 - x1) - 1) else (if (x2 - x1) ≤ ((M.1 34 5) - (x2 - x1)) then some ((x2 - x1) - 1) else some (((M.1 34 5) - (x2 - x1)) - 1)))
set_option maxRecDepth 100000 in
set_option maxHeartbeats 4000000 in
theorem ctX8_readers (l : Launch) {x1 : Int32} {x2 : Int32} {M : ow_M} {r : Int32}  (h : fX8_readers x1 x2 M = some r) : ow_F l 0 yX8_readers cX8_readers 4 (some .int) [.ref 34, .int x1, .int x2] M (some (.int r)) M := by
  unfold fX8_readers at h
  refine ow_enterO (own := RX8) rfl (by decide +kernel) rfl (ls := [some (.ref 34), some (.int x1), some (.int x2), none]) rfl ?_
  refine gw_iload2 dX8_readers_0 ?_
  refine gw_iload1 dX8_readers_1 ?_
  refine gw_isub dX8_readers_2 ?_
  refine gw_istore3 dX8_readers_3 (by decide) rfl ?_
  refine gw_aload0 dX8_readers_4 ?_
  refine gw_getI dX8_readers_5 fkX8_89 rfl rfl ?_
  refine gw_if_eq (tgt := 30) dX8_readers_8 rfl (fun h1 => ?_) (fun h1 => ?_)
  · replace h := (if_pos h1).symm.trans h
    refine gw_iload3 dX8_readers_30 ?_
    refine gw_ic1 dX8_readers_31 ?_
    refine gw_isub dX8_readers_32 ?_
    have hA := Option.some.inj h
    subst hA
    exact gw_iret dX8_readers_33 ⟨rfl, rfl⟩
  · replace h := (if_neg h1).symm.trans h
    refine gw_aload0 dX8_readers_11 ?_
    refine gw_getI dX8_readers_12 fkX8_86 rfl rfl ?_
    refine gw_iload3 dX8_readers_15 ?_
    refine gw_isub dX8_readers_16 ?_
    refine gw_iload3 dX8_readers_17 ?_
    refine gw_icmp_ge (tgt := 30) dX8_readers_18 rfl (fun h2 => ?_) (fun h2 => ?_)
    · replace h := (if_pos h2).symm.trans h
      refine gw_iload3 dX8_readers_30 ?_
      refine gw_ic1 dX8_readers_31 ?_
      refine gw_isub dX8_readers_32 ?_
      have hA := Option.some.inj h
      subst hA
      exact gw_iret dX8_readers_33 ⟨rfl, rfl⟩
    · replace h := (if_neg h2).symm.trans h
      refine gw_aload0 dX8_readers_21 ?_
      refine gw_getI dX8_readers_22 fkX8_86 rfl rfl ?_
      refine gw_iload3 dX8_readers_25 ?_
      refine gw_isub dX8_readers_26 ?_
      refine gw_goto (tgt := 31) rfl dX8_readers_27 ?_
      refine gw_ic1 dX8_readers_31 ?_
      refine gw_isub dX8_readers_32 ?_
      have hA := Option.some.inj h
      subst hA
      exact gw_iret dX8_readers_33 ⟨rfl, rfl⟩

def lpX8_layLetters_17 (x1 : Int32) (x2 : Int32) (M : ow_M) (k : Int32 → Option ow_M) : Nat → Int32 → Option ow_M
  | 0, _ => none
  | n + 1, x3 => (if (M.1 34 5) ≤ x3 then k x3 else (if ((x2 >>> (x3 &&& 31)) &&& 1) = 1 then lpX8_layLetters_17 x1 x2 M k n (x3 + 1) else k x3))
set_option maxRecDepth 100000 in
set_option maxHeartbeats 4000000 in
theorem tlpX8_layLetters_17 (l : Launch) {x1 : Int32} {x2 : Int32} {M : ow_M} {k : Int32 → Option ow_M} {M9 : ow_M}  (hk : ∀ (x3 : Int32), k x3 = some M9 → ow_G (ow_Γ l 1 none (ow_is none M9)) RX8 cX8_layLetters 6 40 [some (.ref 34), some (.int x1), some (.int x2), some (.int x3), none, none] [] M) : ∀ (n : Nat) (x3 : Int32), lpX8_layLetters_17 x1 x2 M k n x3 = some M9 → ow_G (ow_Γ l 1 none (ow_is none M9)) RX8 cX8_layLetters 6 17 [some (.ref 34), some (.int x1), some (.int x2), some (.int x3), none, none] [] M := by
  intro n
  induction n with
  | zero => intro _ h; cases h
  | succ n ih =>
    intro x3 h
    unfold lpX8_layLetters_17 at h
    refine gw_iload3 dX8_layLetters_17 ?_
    refine gw_aload0 dX8_layLetters_18 ?_
    refine gw_getI dX8_layLetters_19 fkX8_86 rfl rfl ?_
    refine gw_icmp_ge (tgt := 40) dX8_layLetters_22 rfl (fun h2 => ?_) (fun h2 => ?_)
    · replace h := (if_pos h2).symm.trans h
      exact hk _ h
    · replace h := (if_neg h2).symm.trans h
      refine gw_iload2 dX8_layLetters_25 ?_
      refine gw_iload3 dX8_layLetters_26 ?_
      refine gw_ishr dX8_layLetters_27 ?_
      refine gw_ic1 dX8_layLetters_28 ?_
      refine gw_iand dX8_layLetters_29 ?_
      refine gw_ic1 dX8_layLetters_30 ?_
      refine gw_icmp_ne (tgt := 40) dX8_layLetters_31 rfl (fun h3 => ?_) (fun h3 => ?_)
      · replace h := (if_neg h3).symm.trans h
        exact hk _ h
      · replace h := (if_pos h3).symm.trans h
        refine gw_iinc3 1 dX8_layLetters_34 (by decide) rfl (by decide) ?_
        refine gw_goto (tgt := 17) rfl dX8_layLetters_37 ?_
        exact ih _ h

def lpX8_layLetters_63 (x1 : Int32) (x2 : Int32) (x3 : Int32) (k : Int32 → ow_M → Option ow_M) : Nat → Int32 → ow_M → Option ow_M
  | 0, _, _ => none
  | n + 1, x4, M => (if (M.1 34 5) ≤ x4 then k x4 M else (if ((x2 >>> (x4 &&& 31)) &&& 1) = 0 then if ow_inn x3 7 then if ow_inn x4 7 then (if (M.1 41 x3.toNatClampNeg) = (M.1 41 x4.toNatClampNeg) then lpX8_layLetters_63 x1 x2 x3 k n (x4 + 1) M else Option.bind (fX8_readers x3 x4 M) (fun v13 => if ow_inn ((x2 ||| (1 <<< (x3 &&& 31))) ||| (1 <<< (x4 &&& 31))) 128 then if ow_inn x2 128 then (if (M.1 52 x2.toNatClampNeg) ≤ (v13 + (M.1 52 ((x2 ||| (1 <<< (x3 &&& 31))) ||| (1 <<< (x4 &&& 31))).toNatClampNeg)) then if ow_inn x2 128 then if ow_inn x2 128 then lpX8_layLetters_63 x1 x2 x3 k n (x4 + 1) (ow_up M 52 x2.toNatClampNeg (M.1 52 x2.toNatClampNeg)) else none else none else if ow_inn x2 128 then lpX8_layLetters_63 x1 x2 x3 k n (x4 + 1) (ow_up M 52 x2.toNatClampNeg (v13 + (M.1 52 ((x2 ||| (1 <<< (x3 &&& 31))) ||| (1 <<< (x4 &&& 31))).toNatClampNeg))) else none) else none else none)) else none else none else lpX8_layLetters_63 x1 x2 x3 k n (x4 + 1) M))
set_option maxRecDepth 100000 in
set_option maxHeartbeats 4000000 in
theorem tlpX8_layLetters_63 (l : Launch) {x1 : Int32} {x2 : Int32} {x3 : Int32} {k : Int32 → ow_M → Option ow_M} {M9 : ow_M}  (hk : ∀ (x4 : Int32) (M : ow_M), k x4 M = some M9 → ow_G (ow_Γ l 1 none (ow_is none M9)) RX8 cX8_layLetters 6 156 [some (.ref 34), some (.int x1), some (.int x2), some (.int x3), some (.int x4), none] [] M) : ∀ (n : Nat) (x4 : Int32) (M : ow_M), lpX8_layLetters_63 x1 x2 x3 k n x4 M = some M9 → ow_G (ow_Γ l 1 none (ow_is none M9)) RX8 cX8_layLetters 6 63 [some (.ref 34), some (.int x1), some (.int x2), some (.int x3), some (.int x4), none] [] M := by
  intro n
  induction n with
  | zero => intro _ _ h; cases h
  | succ n ih =>
    intro x4 M h
    unfold lpX8_layLetters_63 at h
    refine gw_iload4 dX8_layLetters_63 ?_
    refine gw_aload0 dX8_layLetters_65 ?_
    refine gw_getI dX8_layLetters_66 fkX8_86 rfl rfl ?_
    refine gw_icmp_ge (tgt := 156) dX8_layLetters_69 rfl (fun h7 => ?_) (fun h7 => ?_)
    · replace h := (if_pos h7).symm.trans h
      exact hk _ _ h
    · replace h := (if_neg h7).symm.trans h
      refine gw_iload2 dX8_layLetters_72 ?_
      refine gw_iload4 dX8_layLetters_73 ?_
      refine gw_ishr dX8_layLetters_75 ?_
      refine gw_ic1 dX8_layLetters_76 ?_
      refine gw_iand dX8_layLetters_77 ?_
      refine gw_if_ne (tgt := 150) dX8_layLetters_78 rfl (fun h8 => ?_) (fun h8 => ?_)
      · replace h := (if_neg h8).symm.trans h
        refine gw_iinc4 1 dX8_layLetters_150 (by decide) rfl (by decide) ?_
        refine gw_goto (tgt := 63) rfl dX8_layLetters_153 ?_
        exact ih _ _ h
      · replace h := (if_pos h8).symm.trans h
        refine gw_aload0 dX8_layLetters_81 ?_
        refine gw_getR dX8_layLetters_82 fkX8_28 rfl rfl ?_
        refine gw_iload3 dX8_layLetters_85 ?_
        by_cases h9 : ow_inn x3 7
        rotate_left
        · replace h := (if_neg h9).symm.trans h
          cases h
        replace h := (if_pos h9).symm.trans h
        refine gw_iald dX8_layLetters_86 rfl h9 ?_
        refine gw_aload0 dX8_layLetters_87 ?_
        refine gw_getR dX8_layLetters_88 fkX8_28 rfl rfl ?_
        refine gw_iload4 dX8_layLetters_91 ?_
        by_cases h10 : ow_inn x4 7
        rotate_left
        · replace h := (if_neg h10).symm.trans h
          cases h
        replace h := (if_pos h10).symm.trans h
        refine gw_iald dX8_layLetters_93 rfl h10 ?_
        refine gw_icmp_eq (tgt := 150) dX8_layLetters_94 rfl (fun h11 => ?_) (fun h11 => ?_)
        · replace h := (if_pos h11).symm.trans h
          refine gw_iinc4 1 dX8_layLetters_150 (by decide) rfl (by decide) ?_
          refine gw_goto (tgt := 63) rfl dX8_layLetters_153 ?_
          exact ih _ _ h
        · replace h := (if_neg h11).symm.trans h
          refine gw_aload0 dX8_layLetters_97 ?_
          refine gw_iload3 dX8_layLetters_98 ?_
          refine gw_iload4 dX8_layLetters_99 ?_
          obtain ⟨v13, hc12, h⟩ := ow_b_some h
          refine gw_cVI2 dX8_layLetters_101 lkX8_199 mkX8_readers (ow_rm_in rfl rfl) rfl rfl (ctX8_readers l hc12) rfl ?_
          refine gw_aload0 dX8_layLetters_104 ?_
          refine gw_getR dX8_layLetters_105 fkX8_61 rfl rfl ?_
          refine gw_iload2 dX8_layLetters_108 ?_
          refine gw_ic1 dX8_layLetters_109 ?_
          refine gw_iload3 dX8_layLetters_110 ?_
          refine gw_ishl dX8_layLetters_111 ?_
          refine gw_ior dX8_layLetters_112 ?_
          refine gw_ic1 dX8_layLetters_113 ?_
          refine gw_iload4 dX8_layLetters_114 ?_
          refine gw_ishl dX8_layLetters_116 ?_
          refine gw_ior dX8_layLetters_117 ?_
          by_cases h14 : ow_inn ((x2 ||| (1 <<< (x3 &&& 31))) ||| (1 <<< (x4 &&& 31))) 128
          rotate_left
          · replace h := (if_neg h14).symm.trans h
            cases h
          replace h := (if_pos h14).symm.trans h
          refine gw_iald dX8_layLetters_118 rfl h14 ?_
          refine gw_iadd dX8_layLetters_119 ?_
          refine gw_istore5 dX8_layLetters_120 (by decide) rfl ?_
          refine gw_aload0 dX8_layLetters_122 ?_
          refine gw_getR dX8_layLetters_123 fkX8_61 rfl rfl ?_
          refine gw_iload2 dX8_layLetters_126 ?_
          refine gw_iload5 dX8_layLetters_127 ?_
          refine gw_aload0 dX8_layLetters_129 ?_
          refine gw_getR dX8_layLetters_130 fkX8_61 rfl rfl ?_
          refine gw_iload2 dX8_layLetters_133 ?_
          by_cases h15 : ow_inn x2 128
          rotate_left
          · replace h := (if_neg h15).symm.trans h
            cases h
          replace h := (if_pos h15).symm.trans h
          refine gw_iald dX8_layLetters_134 rfl h15 ?_
          refine gw_icmp_ge (tgt := 143) dX8_layLetters_135 rfl (fun h16 => ?_) (fun h16 => ?_)
          · replace h := (if_pos h16).symm.trans h
            refine gw_aload0 dX8_layLetters_143 ?_
            refine gw_getR dX8_layLetters_144 fkX8_61 rfl rfl ?_
            refine gw_iload2 dX8_layLetters_147 ?_
            by_cases h17 : ow_inn x2 128
            rotate_left
            · replace h := (if_neg h17).symm.trans h
              cases h
            replace h := (if_pos h17).symm.trans h
            refine gw_iald dX8_layLetters_148 rfl h17 ?_
            by_cases h18 : ow_inn x2 128
            rotate_left
            · replace h := (if_neg h18).symm.trans h
              cases h
            replace h := (if_pos h18).symm.trans h
            refine gw_iast dX8_layLetters_149 rfl h18 ?_
            refine gw_iinc4 1 dX8_layLetters_150 (by decide) rfl (by decide) ?_
            refine gw_goto (tgt := 63) rfl dX8_layLetters_153 ?_
            refine gw_drp5 ?_
            exact ih _ _ h
          · replace h := (if_neg h16).symm.trans h
            refine gw_iload5 dX8_layLetters_138 ?_
            refine gw_goto (tgt := 149) rfl dX8_layLetters_140 ?_
            by_cases h19 : ow_inn x2 128
            rotate_left
            · replace h := (if_neg h19).symm.trans h
              cases h
            replace h := (if_pos h19).symm.trans h
            refine gw_iast dX8_layLetters_149 rfl h19 ?_
            refine gw_iinc4 1 dX8_layLetters_150 (by decide) rfl (by decide) ?_
            refine gw_goto (tgt := 63) rfl dX8_layLetters_153 ?_
            refine gw_drp5 ?_
            exact ih _ _ h

def jX8_layLetters_57 (x1 : Int32) (x2 : Int32) (x3 : Int32) (s1 : Int32) (s2 : Int32) (kb : Int32 → ow_M → Option ow_M) (k : Int32 → ow_M → Option ow_M) (M : ow_M) : Option ow_M := if ow_inn s1 128 then lpX8_layLetters_63 x1 x2 x3 (fun u20 M21 => kb (x2 + (-1)) M21) ow_N (x3 + 1) (ow_up M 52 s1.toNatClampNeg s2) else none
set_option maxRecDepth 100000 in
set_option maxHeartbeats 4000000 in
theorem tjX8_layLetters_57 (l : Launch) {x1 : Int32} {x2 : Int32} {x3 : Int32} {s1 : Int32} {s2 : Int32} {kb : Int32 → ow_M → Option ow_M} {k : Int32 → ow_M → Option ow_M} {M : ow_M} {M9 : ow_M}  (hkb : ∀ (z2 : Int32) (Mz : ow_M), kb z2 Mz = some M9 → ow_G (ow_Γ l 1 none (ow_is none M9)) RX8 cX8_layLetters 6 11 [some (.ref 34), some (.int x1), some (.int z2), none, none, none] [] Mz) (hk : ∀ (z2 : Int32) (Mz : ow_M), k z2 Mz = some M9 → ow_G (ow_Γ l 1 none (ow_is none M9)) RX8 cX8_layLetters 6 162 [some (.ref 34), some (.int x1), some (.int z2), none, none, none] [] Mz) (h : jX8_layLetters_57 x1 x2 x3 s1 s2 kb k M = some M9) : ow_G (ow_Γ l 1 none (ow_is none M9)) RX8 cX8_layLetters 6 57 [some (.ref 34), some (.int x1), some (.int x2), some (.int x3), none, none] [.int s2, .int s1, .ref 52] M := by
  unfold jX8_layLetters_57 at h
  by_cases h6 : ow_inn s1 128
  rotate_left
  · replace h := (if_neg h6).symm.trans h
    cases h
  replace h := (if_pos h6).symm.trans h
  refine gw_iast dX8_layLetters_57 rfl h6 ?_
  refine gw_iload3 dX8_layLetters_58 ?_
  refine gw_ic1 dX8_layLetters_59 ?_
  refine gw_iadd dX8_layLetters_60 ?_
  refine gw_istore4 dX8_layLetters_61 (by decide) rfl ?_
  refine tlpX8_layLetters_63 l ?_ _ _ _ h
  intro u20 M21 h
  refine gw_iinc2 (-1) dX8_layLetters_156 (by decide) rfl (by decide) ?_
  refine gw_goto (tgt := 11) rfl dX8_layLetters_159 ?_
  refine gw_drp3 ?_
  refine gw_drp4 ?_
  exact hkb _ _ h

def jX8_layLetters_40 (x1 : Int32) (x2 : Int32) (x3 : Int32) (kb : Int32 → ow_M → Option ow_M) (k : Int32 → ow_M → Option ow_M) (M : ow_M) : Option ow_M := (if x2 = x1 then jX8_layLetters_57 x1 x2 x3 x2 0 (kb) k M else jX8_layLetters_57 x1 x2 x3 x2 1000 (kb) k M)
set_option maxRecDepth 100000 in
set_option maxHeartbeats 4000000 in
theorem tjX8_layLetters_40 (l : Launch) {x1 : Int32} {x2 : Int32} {x3 : Int32} {kb : Int32 → ow_M → Option ow_M} {k : Int32 → ow_M → Option ow_M} {M : ow_M} {M9 : ow_M}  (hkb : ∀ (z2 : Int32) (Mz : ow_M), kb z2 Mz = some M9 → ow_G (ow_Γ l 1 none (ow_is none M9)) RX8 cX8_layLetters 6 11 [some (.ref 34), some (.int x1), some (.int z2), none, none, none] [] Mz) (hk : ∀ (z2 : Int32) (Mz : ow_M), k z2 Mz = some M9 → ow_G (ow_Γ l 1 none (ow_is none M9)) RX8 cX8_layLetters 6 162 [some (.ref 34), some (.int x1), some (.int z2), none, none, none] [] Mz) (h : jX8_layLetters_40 x1 x2 x3 kb k M = some M9) : ow_G (ow_Γ l 1 none (ow_is none M9)) RX8 cX8_layLetters 6 40 [some (.ref 34), some (.int x1), some (.int x2), some (.int x3), none, none] [] M := by
  unfold jX8_layLetters_40 at h
  refine gw_aload0 dX8_layLetters_40 ?_
  refine gw_getR dX8_layLetters_41 fkX8_61 rfl rfl ?_
  refine gw_iload2 dX8_layLetters_44 ?_
  refine gw_iload2 dX8_layLetters_45 ?_
  refine gw_iload1 dX8_layLetters_46 ?_
  refine gw_icmp_ne (tgt := 54) dX8_layLetters_47 rfl (fun h5 => ?_) (fun h5 => ?_)
  · replace h := (if_neg h5).symm.trans h
    refine gw_sipush 1000 dX8_layLetters_54 (by decide) ?_
    exact tjX8_layLetters_57 l hkb hk h
  · replace h := (if_pos h5).symm.trans h
    refine gw_ic0 dX8_layLetters_50 ?_
    refine gw_goto (tgt := 57) rfl dX8_layLetters_51 ?_
    exact tjX8_layLetters_57 l hkb hk h

def lpX8_layLetters_11 (x1 : Int32) (k : Int32 → ow_M → Option ow_M) : Nat → Int32 → ow_M → Option ow_M
  | 0, _, _ => none
  | n + 1, x2, M => (if x2 < 0 then k x2 M else lpX8_layLetters_17 x1 x2 M (fun u4 => jX8_layLetters_40 x1 x2 u4 (lpX8_layLetters_11 x1 k n) k M) ow_N 0)
set_option maxRecDepth 100000 in
set_option maxHeartbeats 4000000 in
theorem tlpX8_layLetters_11 (l : Launch) {x1 : Int32} {k : Int32 → ow_M → Option ow_M} {M9 : ow_M}  (hk : ∀ (x2 : Int32) (M : ow_M), k x2 M = some M9 → ow_G (ow_Γ l 1 none (ow_is none M9)) RX8 cX8_layLetters 6 162 [some (.ref 34), some (.int x1), some (.int x2), none, none, none] [] M) : ∀ (n : Nat) (x2 : Int32) (M : ow_M), lpX8_layLetters_11 x1 k n x2 M = some M9 → ow_G (ow_Γ l 1 none (ow_is none M9)) RX8 cX8_layLetters 6 11 [some (.ref 34), some (.int x1), some (.int x2), none, none, none] [] M := by
  intro n
  induction n with
  | zero => intro _ _ h; cases h
  | succ n ih =>
    intro x2 M h
    unfold lpX8_layLetters_11 at h
    refine gw_iload2 dX8_layLetters_11 ?_
    refine gw_if_lt (tgt := 162) dX8_layLetters_12 rfl (fun h1 => ?_) (fun h1 => ?_)
    · replace h := (if_pos h1).symm.trans h
      exact hk _ _ h
    · replace h := (if_neg h1).symm.trans h
      refine gw_ic0 dX8_layLetters_15 ?_
      refine gw_istore3 dX8_layLetters_16 (by decide) rfl ?_
      refine tlpX8_layLetters_17 l ?_ _ _ h
      intro u4 h
      exact tjX8_layLetters_40 l ih hk h

def fX8_layLetters  (M : ow_M) : Option ow_M := lpX8_layLetters_11 ((1 <<< ((M.1 34 5) &&& 31)) - 1) (fun u22 M23 => some M23) ow_N ((1 <<< ((M.1 34 5) &&& 31)) - 1) M
set_option maxRecDepth 100000 in
set_option maxHeartbeats 4000000 in
theorem ctX8_layLetters (l : Launch)  {M : ow_M} {M9 : ow_M}  (h : fX8_layLetters M = some M9) : ow_F l 1 yX8_layLetters cX8_layLetters 6 none [.ref 34] M none M9 := by
  unfold fX8_layLetters at h
  refine ow_enterO (own := RX8) rfl (by decide +kernel) rfl (ls := [some (.ref 34), none, none, none, none, none]) rfl ?_
  refine gw_ic1 dX8_layLetters_0 ?_
  refine gw_aload0 dX8_layLetters_1 ?_
  refine gw_getI dX8_layLetters_2 fkX8_86 rfl rfl ?_
  refine gw_ishl dX8_layLetters_5 ?_
  refine gw_ic1 dX8_layLetters_6 ?_
  refine gw_isub dX8_layLetters_7 ?_
  refine gw_istore1 dX8_layLetters_8 (by decide) rfl ?_
  refine gw_iload1 dX8_layLetters_9 ?_
  refine gw_istore2 dX8_layLetters_10 (by decide) rfl ?_
  refine tlpX8_layLetters_11 l ?_ _ _ _ h
  intro u22 M23 h
  have hA := Option.some.inj h
  subst hA
  exact gw_vret dX8_layLetters_162 ⟨rfl, rfl⟩

def lpX8_mateOf_4 (x1 : Int32) (x2 : Int32) (M : ow_M) (k : Int32 → Option Int32) : Nat → Int32 → Option Int32
  | 0, _ => none
  | n + 1, x3 => (if ((x2 >>> (x3 &&& 31)) &&& 1) = 1 then lpX8_mateOf_4 x1 x2 M k n (x3 + 1) else k x3)
set_option maxRecDepth 100000 in
set_option maxHeartbeats 4000000 in
theorem tlpX8_mateOf_4 (l : Launch) {x1 : Int32} {x2 : Int32} {M : ow_M} {k : Int32 → Option Int32} {r : Int32}  (hk : ∀ (x3 : Int32), k x3 = some r → ow_G (ow_Γ l 1 (some .int) (ow_is (some (.int r)) M)) RX8 cX8_mateOf 5 19 [some (.ref 34), some (.int x1), some (.int x2), some (.int x3), none] [] M) : ∀ (n : Nat) (x3 : Int32), lpX8_mateOf_4 x1 x2 M k n x3 = some r → ow_G (ow_Γ l 1 (some .int) (ow_is (some (.int r)) M)) RX8 cX8_mateOf 5 4 [some (.ref 34), some (.int x1), some (.int x2), some (.int x3), none] [] M := by
  intro n
  induction n with
  | zero => intro _ h; cases h
  | succ n ih =>
    intro x3 h
    unfold lpX8_mateOf_4 at h
    refine gw_iload2 dX8_mateOf_4 ?_
    refine gw_iload3 dX8_mateOf_5 ?_
    refine gw_ishr dX8_mateOf_6 ?_
    refine gw_ic1 dX8_mateOf_7 ?_
    refine gw_iand dX8_mateOf_8 ?_
    refine gw_ic1 dX8_mateOf_9 ?_
    refine gw_icmp_ne (tgt := 19) dX8_mateOf_10 rfl (fun h1 => ?_) (fun h1 => ?_)
    · replace h := (if_neg h1).symm.trans h
      exact hk _ h
    · replace h := (if_pos h1).symm.trans h
      refine gw_iinc3 1 dX8_mateOf_13 (by decide) rfl (by decide) ?_
      refine gw_goto (tgt := 4) rfl dX8_mateOf_16 ?_
      exact ih _ h

def lpX8_mateOf_24 (x1 : Int32) (x2 : Int32) (x3 : Int32) (M : ow_M) (k : Int32 → Option Int32) : Nat → Int32 → Option Int32
  | 0, _ => none
  | n + 1, x4 => (if ((x2 >>> (x4 &&& 31)) &&& 1) = 1 then lpX8_mateOf_24 x1 x2 x3 M k n (x4 + 1) else if ow_inn x3 7 then if ow_inn x4 7 then (if (M.1 41 x3.toNatClampNeg) = (M.1 41 x4.toNatClampNeg) then lpX8_mateOf_24 x1 x2 x3 M k n (x4 + 1) else Option.bind (fX8_readers x3 x4 M) (fun v8 => if ow_inn ((x2 ||| (1 <<< (x3 &&& 31))) ||| (1 <<< (x4 &&& 31))) 128 then if ow_inn x2 128 then (if (v8 + (M.1 52 ((x2 ||| (1 <<< (x3 &&& 31))) ||| (1 <<< (x4 &&& 31))).toNatClampNeg)) = (M.1 52 x2.toNatClampNeg) then k x4 else lpX8_mateOf_24 x1 x2 x3 M k n (x4 + 1)) else none else none)) else none else none)
set_option maxRecDepth 100000 in
set_option maxHeartbeats 4000000 in
theorem tlpX8_mateOf_24 (l : Launch) {x1 : Int32} {x2 : Int32} {x3 : Int32} {M : ow_M} {k : Int32 → Option Int32} {r : Int32}  (hk : ∀ (x4 : Int32), k x4 = some r → ow_G (ow_Γ l 1 (some .int) (ow_is (some (.int r)) M)) RX8 cX8_mateOf 5 88 [some (.ref 34), some (.int x1), some (.int x2), some (.int x3), some (.int x4)] [] M) : ∀ (n : Nat) (x4 : Int32), lpX8_mateOf_24 x1 x2 x3 M k n x4 = some r → ow_G (ow_Γ l 1 (some .int) (ow_is (some (.int r)) M)) RX8 cX8_mateOf 5 24 [some (.ref 34), some (.int x1), some (.int x2), some (.int x3), some (.int x4)] [] M := by
  intro n
  induction n with
  | zero => intro _ h; cases h
  | succ n ih =>
    intro x4 h
    unfold lpX8_mateOf_24 at h
    refine gw_iload2 dX8_mateOf_24 ?_
    refine gw_iload4 dX8_mateOf_25 ?_
    refine gw_ishr dX8_mateOf_27 ?_
    refine gw_ic1 dX8_mateOf_28 ?_
    refine gw_iand dX8_mateOf_29 ?_
    refine gw_ic1 dX8_mateOf_30 ?_
    refine gw_icmp_eq (tgt := 82) dX8_mateOf_31 rfl (fun h3 => ?_) (fun h3 => ?_)
    · replace h := (if_pos h3).symm.trans h
      refine gw_iinc4 1 dX8_mateOf_82 (by decide) rfl (by decide) ?_
      refine gw_goto (tgt := 24) rfl dX8_mateOf_85 ?_
      exact ih _ h
    · replace h := (if_neg h3).symm.trans h
      refine gw_aload0 dX8_mateOf_34 ?_
      refine gw_getR dX8_mateOf_35 fkX8_28 rfl rfl ?_
      refine gw_iload3 dX8_mateOf_38 ?_
      by_cases h4 : ow_inn x3 7
      rotate_left
      · replace h := (if_neg h4).symm.trans h
        cases h
      replace h := (if_pos h4).symm.trans h
      refine gw_iald dX8_mateOf_39 rfl h4 ?_
      refine gw_aload0 dX8_mateOf_40 ?_
      refine gw_getR dX8_mateOf_41 fkX8_28 rfl rfl ?_
      refine gw_iload4 dX8_mateOf_44 ?_
      by_cases h5 : ow_inn x4 7
      rotate_left
      · replace h := (if_neg h5).symm.trans h
        cases h
      replace h := (if_pos h5).symm.trans h
      refine gw_iald dX8_mateOf_46 rfl h5 ?_
      refine gw_icmp_eq (tgt := 82) dX8_mateOf_47 rfl (fun h6 => ?_) (fun h6 => ?_)
      · replace h := (if_pos h6).symm.trans h
        refine gw_iinc4 1 dX8_mateOf_82 (by decide) rfl (by decide) ?_
        refine gw_goto (tgt := 24) rfl dX8_mateOf_85 ?_
        exact ih _ h
      · replace h := (if_neg h6).symm.trans h
        refine gw_aload0 dX8_mateOf_50 ?_
        refine gw_iload3 dX8_mateOf_51 ?_
        refine gw_iload4 dX8_mateOf_52 ?_
        obtain ⟨v8, hc7, h⟩ := ow_b_some h
        refine gw_cVI2 dX8_mateOf_54 lkX8_199 mkX8_readers (ow_rm_in rfl rfl) rfl rfl (ctX8_readers l hc7) rfl ?_
        refine gw_aload0 dX8_mateOf_57 ?_
        refine gw_getR dX8_mateOf_58 fkX8_61 rfl rfl ?_
        refine gw_iload2 dX8_mateOf_61 ?_
        refine gw_ic1 dX8_mateOf_62 ?_
        refine gw_iload3 dX8_mateOf_63 ?_
        refine gw_ishl dX8_mateOf_64 ?_
        refine gw_ior dX8_mateOf_65 ?_
        refine gw_ic1 dX8_mateOf_66 ?_
        refine gw_iload4 dX8_mateOf_67 ?_
        refine gw_ishl dX8_mateOf_69 ?_
        refine gw_ior dX8_mateOf_70 ?_
        by_cases h9 : ow_inn ((x2 ||| (1 <<< (x3 &&& 31))) ||| (1 <<< (x4 &&& 31))) 128
        rotate_left
        · replace h := (if_neg h9).symm.trans h
          cases h
        replace h := (if_pos h9).symm.trans h
        refine gw_iald dX8_mateOf_71 rfl h9 ?_
        refine gw_iadd dX8_mateOf_72 ?_
        refine gw_aload0 dX8_mateOf_73 ?_
        refine gw_getR dX8_mateOf_74 fkX8_61 rfl rfl ?_
        refine gw_iload2 dX8_mateOf_77 ?_
        by_cases h10 : ow_inn x2 128
        rotate_left
        · replace h := (if_neg h10).symm.trans h
          cases h
        replace h := (if_pos h10).symm.trans h
        refine gw_iald dX8_mateOf_78 rfl h10 ?_
        refine gw_icmp_eq (tgt := 88) dX8_mateOf_79 rfl (fun h11 => ?_) (fun h11 => ?_)
        · replace h := (if_pos h11).symm.trans h
          exact hk _ h
        · replace h := (if_neg h11).symm.trans h
          refine gw_iinc4 1 dX8_mateOf_82 (by decide) rfl (by decide) ?_
          refine gw_goto (tgt := 24) rfl dX8_mateOf_85 ?_
          exact ih _ h

def jX8_mateOf_99 (x1 : Int32) (x3 : Int32) (x4 : Int32) (M : ow_M) : Option Int32 := (if x3 = x1 then some x4 else some x3)
set_option maxRecDepth 100000 in
set_option maxHeartbeats 4000000 in
theorem tjX8_mateOf_99 (l : Launch) {x1 : Int32} {x3 : Int32} {x4 : Int32} {M : ow_M} {r : Int32}  (h : jX8_mateOf_99 x1 x3 x4 M = some r) : ow_G (ow_Γ l 1 (some .int) (ow_is (some (.int r)) M)) RX8 cX8_mateOf 5 99 [none, some (.int x1), none, some (.int x3), some (.int x4)] [] M := by
  unfold jX8_mateOf_99 at h
  refine gw_iload3 dX8_mateOf_99 ?_
  refine gw_iload1 dX8_mateOf_100 ?_
  refine gw_icmp_ne (tgt := 109) dX8_mateOf_101 rfl (fun h14 => ?_) (fun h14 => ?_)
  · replace h := (if_neg h14).symm.trans h
    refine gw_iload3 dX8_mateOf_109 ?_
    have hA := Option.some.inj h
    subst hA
    exact gw_iret dX8_mateOf_110 ⟨rfl, rfl⟩
  · replace h := (if_pos h14).symm.trans h
    refine gw_iload4 dX8_mateOf_104 ?_
    refine gw_goto (tgt := 110) rfl dX8_mateOf_106 ?_
    have hA := Option.some.inj h
    subst hA
    exact gw_iret dX8_mateOf_110 ⟨rfl, rfl⟩

def lpX8_mateOf_2 (x1 : Int32) (M : ow_M) (k : Int32 → Option Int32) : Nat → Int32 → Option Int32
  | 0, _ => none
  | n + 1, x2 => lpX8_mateOf_4 x1 x2 M (fun u2 => lpX8_mateOf_24 x1 x2 u2 M (fun u12 => (if u2 = x1 then jX8_mateOf_99 x1 u2 u12 M else (if u12 = x1 then jX8_mateOf_99 x1 u2 u12 M else lpX8_mateOf_2 x1 M k n (x2 ||| ((1 <<< (u2 &&& 31)) ||| (1 <<< (u12 &&& 31))))))) ow_N (u2 + 1)) ow_N 0
set_option maxRecDepth 100000 in
set_option maxHeartbeats 4000000 in
theorem tlpX8_mateOf_2 (l : Launch) {x1 : Int32} {M : ow_M} {k : Int32 → Option Int32} {r : Int32}  (_hk : ∀ (x2 : Int32), k x2 = some r → True) : ∀ (n : Nat) (x2 : Int32), lpX8_mateOf_2 x1 M k n x2 = some r → ow_G (ow_Γ l 1 (some .int) (ow_is (some (.int r)) M)) RX8 cX8_mateOf 5 2 [some (.ref 34), some (.int x1), some (.int x2), none, none] [] M := by
  intro n
  induction n with
  | zero => intro _ h; cases h
  | succ n ih =>
    intro x2 h
    unfold lpX8_mateOf_2 at h
    refine gw_ic0 dX8_mateOf_2 ?_
    refine gw_istore3 dX8_mateOf_3 (by decide) rfl ?_
    refine tlpX8_mateOf_4 l ?_ _ _ h
    intro u2 h
    refine gw_iload3 dX8_mateOf_19 ?_
    refine gw_ic1 dX8_mateOf_20 ?_
    refine gw_iadd dX8_mateOf_21 ?_
    refine gw_istore4 dX8_mateOf_22 (by decide) rfl ?_
    refine tlpX8_mateOf_24 l ?_ _ _ h
    intro u12 h
    refine gw_iload3 dX8_mateOf_88 ?_
    refine gw_iload1 dX8_mateOf_89 ?_
    refine gw_icmp_eq (tgt := 99) dX8_mateOf_90 rfl (fun h13 => ?_) (fun h13 => ?_)
    · replace h := (if_pos h13).symm.trans h
      refine gw_drp0 ?_
      refine gw_drp2 ?_
      exact tjX8_mateOf_99 l h
    · replace h := (if_neg h13).symm.trans h
      refine gw_iload4 dX8_mateOf_93 ?_
      refine gw_iload1 dX8_mateOf_95 ?_
      refine gw_icmp_ne (tgt := 111) dX8_mateOf_96 rfl (fun h15 => ?_) (fun h15 => ?_)
      · replace h := (if_neg h15).symm.trans h
        refine gw_iload2 dX8_mateOf_111 ?_
        refine gw_ic1 dX8_mateOf_112 ?_
        refine gw_iload3 dX8_mateOf_113 ?_
        refine gw_ishl dX8_mateOf_114 ?_
        refine gw_ic1 dX8_mateOf_115 ?_
        refine gw_iload4 dX8_mateOf_116 ?_
        refine gw_ishl dX8_mateOf_118 ?_
        refine gw_ior dX8_mateOf_119 ?_
        refine gw_ior dX8_mateOf_120 ?_
        refine gw_istore2 dX8_mateOf_121 (by decide) rfl ?_
        refine gw_goto (tgt := 2) rfl dX8_mateOf_122 ?_
        refine gw_drp3 ?_
        refine gw_drp4 ?_
        exact ih _ h
      · replace h := (if_pos h15).symm.trans h
        refine gw_drp0 ?_
        refine gw_drp2 ?_
        exact tjX8_mateOf_99 l h

def fX8_mateOf (x1 : Int32) (M : ow_M) : Option Int32 := lpX8_mateOf_2 x1 M (fun u16 => none) ow_N 0
set_option maxRecDepth 100000 in
set_option maxHeartbeats 4000000 in
theorem ctX8_mateOf (l : Launch) {x1 : Int32} {M : ow_M} {r : Int32}  (h : fX8_mateOf x1 M = some r) : ow_F l 1 yX8_mateOf cX8_mateOf 5 (some .int) [.ref 34, .int x1] M (some (.int r)) M := by
  unfold fX8_mateOf at h
  refine ow_enterO (own := RX8) rfl (by decide +kernel) rfl (ls := [some (.ref 34), some (.int x1), none, none, none]) rfl ?_
  refine gw_ic0 dX8_mateOf_0 ?_
  refine gw_istore2 dX8_mateOf_1 (by decide) rfl ?_
  refine tlpX8_mateOf_2 l ?_ _ _ h
  intro u16 h
  cases h

def jX8_letters_15 (x1 : Int32) (M : ow_M) : Option (Int32 × ow_M) := (if (M.1 34 5) = 0 then some ((-3), M) else Option.bind (fX8_layLetters M) (fun M5 => if ow_inn 0 128 then (if (M5.1 52 (0 : Int32).toNatClampNeg) < 1000 then (if x1 = (-1) then if ow_inn 0 128 then some ((M5.1 52 (0 : Int32).toNatClampNeg), M5) else none else Option.bind (fX8_mateOf x1 M5) (fun v10 => some (v10, M5))) else some ((-9), M5)) else none))
set_option maxRecDepth 100000 in
set_option maxHeartbeats 4000000 in
theorem tjX8_letters_15 (l : Launch) {x1 : Int32} {M : ow_M} {r : Int32} {M9 : ow_M}  (h : jX8_letters_15 x1 M = some (r, M9)) : ow_G (ow_Γ l 2 (some .int) (ow_is (some (.int r)) M9)) RX8 cX8_letters 2 15 [some (.ref 34), some (.int x1)] [] M := by
  unfold jX8_letters_15 at h
  refine gw_aload0 dX8_letters_15 ?_
  refine gw_getI dX8_letters_16 fkX8_86 rfl rfl ?_
  refine gw_if_ne (tgt := 25) dX8_letters_19 rfl (fun h2 => ?_) (fun h2 => ?_)
  · replace h := (if_neg h2).symm.trans h
    refine gw_aload0 dX8_letters_25 ?_
    obtain ⟨M5, hc3, h⟩ := ow_b_some h
    refine gw_cVV0 dX8_letters_26 lkX8_202 mkX8_layLetters (ow_rm_in rfl rfl) rfl rfl (ctX8_layLetters l hc3) rfl ?_
    refine gw_aload0 dX8_letters_29 ?_
    refine gw_getR dX8_letters_30 fkX8_61 rfl rfl ?_
    refine gw_ic0 dX8_letters_33 ?_
    by_cases h6 : ow_inn 0 128
    rotate_left
    · replace h := (if_neg h6).symm.trans h
      cases h
    replace h := (if_pos h6).symm.trans h
    refine gw_iald dX8_letters_34 rfl h6 ?_
    refine gw_sipush 1000 dX8_letters_35 (by decide) ?_
    refine gw_icmp_lt (tgt := 44) dX8_letters_38 rfl (fun h7 => ?_) (fun h7 => ?_)
    · replace h := (if_pos h7).symm.trans h
      refine gw_iload1 dX8_letters_44 ?_
      refine gw_icm1 dX8_letters_45 ?_
      refine gw_icmp_ne (tgt := 58) dX8_letters_46 rfl (fun h8 => ?_) (fun h8 => ?_)
      · replace h := (if_neg h8).symm.trans h
        refine gw_aload0 dX8_letters_58 ?_
        refine gw_iload1 dX8_letters_59 ?_
        obtain ⟨v10, hc9, h⟩ := ow_b_some h
        refine gw_cVI1 dX8_letters_60 lkX8_205 mkX8_mateOf (ow_rm_in rfl rfl) rfl rfl (ctX8_mateOf l hc9) rfl ?_
        obtain ⟨hA, hB⟩ := Prod.mk.inj (Option.some.inj h)
        subst hA
        subst hB
        exact gw_iret dX8_letters_63 ⟨rfl, rfl⟩
      · replace h := (if_pos h8).symm.trans h
        refine gw_aload0 dX8_letters_49 ?_
        refine gw_getR dX8_letters_50 fkX8_61 rfl rfl ?_
        refine gw_ic0 dX8_letters_53 ?_
        by_cases h11 : ow_inn 0 128
        rotate_left
        · replace h := (if_neg h11).symm.trans h
          cases h
        replace h := (if_pos h11).symm.trans h
        refine gw_iald dX8_letters_54 rfl h11 ?_
        refine gw_goto (tgt := 63) rfl dX8_letters_55 ?_
        obtain ⟨hA, hB⟩ := Prod.mk.inj (Option.some.inj h)
        subst hA
        subst hB
        exact gw_iret dX8_letters_63 ⟨rfl, rfl⟩
    · replace h := (if_neg h7).symm.trans h
      refine gw_bipush (-9) dX8_letters_41 (by decide) ?_
      obtain ⟨hA, hB⟩ := Prod.mk.inj (Option.some.inj h)
      subst hA
      subst hB
      exact gw_iret dX8_letters_43 ⟨rfl, rfl⟩
  · replace h := (if_pos h2).symm.trans h
    refine gw_bipush (-3) dX8_letters_22 (by decide) ?_
    obtain ⟨hA, hB⟩ := Prod.mk.inj (Option.some.inj h)
    subst hA
    subst hB
    exact gw_iret dX8_letters_24 ⟨rfl, rfl⟩

def fX8_letters (x1 : Int32) (M : ow_M) : Option (Int32 × ow_M) := (if x1 = (-1) then jX8_letters_15 x1 M else Option.bind (fX8_isPerson x1 M) (fun v13 => (if v13 = 0 then some ((-1), M) else jX8_letters_15 x1 M)))
set_option maxRecDepth 100000 in
set_option maxHeartbeats 4000000 in
theorem ctX8_letters (l : Launch) {x1 : Int32} {M : ow_M} {r : Int32} {M9 : ow_M}  (h : fX8_letters x1 M = some (r, M9)) : ow_F l 2 yX8_letters cX8_letters 2 (some .int) [.ref 34, .int x1] M (some (.int r)) M9 := by
  unfold fX8_letters at h
  refine ow_enterO (own := RX8) rfl (by decide +kernel) rfl (ls := [some (.ref 34), some (.int x1)]) rfl ?_
  refine gw_iload1 dX8_letters_0 ?_
  refine gw_icm1 dX8_letters_1 ?_
  refine gw_icmp_eq (tgt := 15) dX8_letters_2 rfl (fun h1 => ?_) (fun h1 => ?_)
  · replace h := (if_pos h1).symm.trans h
    exact tjX8_letters_15 l h
  · replace h := (if_neg h1).symm.trans h
    refine gw_aload0 dX8_letters_5 ?_
    refine gw_iload1 dX8_letters_6 ?_
    obtain ⟨v13, hc12, h⟩ := ow_b_some h
    refine gw_cVI1 dX8_letters_7 lkX8_138 mkX8_isPerson (ow_rm_in rfl rfl) rfl rfl (ctX8_isPerson l hc12) rfl ?_
    refine gw_if_ne (tgt := 15) dX8_letters_10 rfl (fun h14 => ?_) (fun h14 => ?_)
    · replace h := (if_neg h14).symm.trans h
      exact tjX8_letters_15 l h
    · replace h := (if_pos h14).symm.trans h
      refine gw_icm1 dX8_letters_13 ?_
      obtain ⟨hA, hB⟩ := Prod.mk.inj (Option.some.inj h)
      subst hA
      subst hB
      exact gw_iret dX8_letters_14 ⟨rfl, rfl⟩

def lpX8_reached_19 (x2 : Int32) (x4 : Int32) (M : ow_M) (k : Int32 → Int32 → Option Int32) : Nat → Int32 → Int32 → Option Int32
  | 0, _, _ => none
  | n + 1, x3, x5 => Option.bind (fX8_edges M) (fun v3 => (if v3 ≤ x5 then k x3 x5 else Option.bind (fX8_farEnd x5 M) (fun v6 => (if ((x2 >>> (x5 &&& 31)) &&& 1) = 1 then (if (x3 &&& ((1 <<< (x5 &&& 31)) ||| (1 <<< (v6 &&& 31)))) = 0 then lpX8_reached_19 x2 x4 M k n (x3 ||| 0) (x5 + 1) else lpX8_reached_19 x2 x4 M k n (x3 ||| ((1 <<< (x5 &&& 31)) ||| (1 <<< (v6 &&& 31)))) (x5 + 1)) else lpX8_reached_19 x2 x4 M k n (x3 ||| 0) (x5 + 1)))))
set_option maxRecDepth 100000 in
set_option maxHeartbeats 4000000 in
theorem tlpX8_reached_19 (l : Launch) {x2 : Int32} {x4 : Int32} {M : ow_M} {k : Int32 → Int32 → Option Int32} {r : Int32}  (hk : ∀ (x3 : Int32) (x5 : Int32), k x3 x5 = some r → ow_G (ow_Γ l 1 (some .int) (ow_is (some (.int r)) M)) RX8 cX8_reached 7 75 [some (.ref 34), none, some (.int x2), some (.int x3), some (.int x4), some (.int x5), none] [] M) : ∀ (n : Nat) (x3 : Int32) (x5 : Int32), lpX8_reached_19 x2 x4 M k n x3 x5 = some r → ow_G (ow_Γ l 1 (some .int) (ow_is (some (.int r)) M)) RX8 cX8_reached 7 19 [some (.ref 34), none, some (.int x2), some (.int x3), some (.int x4), some (.int x5), none] [] M := by
  intro n
  induction n with
  | zero => intro _ _ h; cases h
  | succ n ih =>
    intro x3 x5 h
    unfold lpX8_reached_19 at h
    refine gw_iload5 dX8_reached_19 ?_
    refine gw_aload0 dX8_reached_21 ?_
    obtain ⟨v3, hc2, h⟩ := ow_b_some h
    refine gw_cVI0 dX8_reached_22 lkX8_93 mkX8_edges (ow_rm_in rfl rfl) rfl rfl (ctX8_edges l hc2) rfl ?_
    refine gw_icmp_ge (tgt := 75) dX8_reached_25 rfl (fun h4 => ?_) (fun h4 => ?_)
    · replace h := (if_pos h4).symm.trans h
      exact hk _ _ h
    · replace h := (if_neg h4).symm.trans h
      refine gw_ic1 dX8_reached_28 ?_
      refine gw_iload5 dX8_reached_29 ?_
      refine gw_ishl dX8_reached_31 ?_
      refine gw_ic1 dX8_reached_32 ?_
      refine gw_aload0 dX8_reached_33 ?_
      refine gw_iload5 dX8_reached_34 ?_
      obtain ⟨v6, hc5, h⟩ := ow_b_some h
      refine gw_cVI1 dX8_reached_36 lkX8_147 mkX8_farEnd (ow_rm_in rfl rfl) rfl rfl (ctX8_farEnd l hc5) rfl ?_
      refine gw_ishl dX8_reached_39 ?_
      refine gw_ior dX8_reached_40 ?_
      refine gw_istore6 dX8_reached_41 (by decide) rfl ?_
      refine gw_iload3 dX8_reached_43 ?_
      refine gw_iload2 dX8_reached_44 ?_
      refine gw_iload5 dX8_reached_45 ?_
      refine gw_ishr dX8_reached_47 ?_
      refine gw_ic1 dX8_reached_48 ?_
      refine gw_iand dX8_reached_49 ?_
      refine gw_ic1 dX8_reached_50 ?_
      refine gw_icmp_ne (tgt := 66) dX8_reached_51 rfl (fun h7 => ?_) (fun h7 => ?_)
      · replace h := (if_neg h7).symm.trans h
        refine gw_ic0 dX8_reached_66 ?_
        refine gw_ior dX8_reached_67 ?_
        refine gw_istore3 dX8_reached_68 (by decide) rfl ?_
        refine gw_iinc5 1 dX8_reached_69 (by decide) rfl (by decide) ?_
        refine gw_goto (tgt := 19) rfl dX8_reached_72 ?_
        refine gw_drp6 ?_
        exact ih _ _ h
      · replace h := (if_pos h7).symm.trans h
        refine gw_iload3 dX8_reached_54 ?_
        refine gw_iload6 dX8_reached_55 ?_
        refine gw_iand dX8_reached_57 ?_
        refine gw_if_eq (tgt := 66) dX8_reached_58 rfl (fun h8 => ?_) (fun h8 => ?_)
        · replace h := (if_pos h8).symm.trans h
          refine gw_ic0 dX8_reached_66 ?_
          refine gw_ior dX8_reached_67 ?_
          refine gw_istore3 dX8_reached_68 (by decide) rfl ?_
          refine gw_iinc5 1 dX8_reached_69 (by decide) rfl (by decide) ?_
          refine gw_goto (tgt := 19) rfl dX8_reached_72 ?_
          refine gw_drp6 ?_
          exact ih _ _ h
        · replace h := (if_neg h8).symm.trans h
          refine gw_iload6 dX8_reached_61 ?_
          refine gw_goto (tgt := 67) rfl dX8_reached_63 ?_
          refine gw_ior dX8_reached_67 ?_
          refine gw_istore3 dX8_reached_68 (by decide) rfl ?_
          refine gw_iinc5 1 dX8_reached_69 (by decide) rfl (by decide) ?_
          refine gw_goto (tgt := 19) rfl dX8_reached_72 ?_
          refine gw_drp6 ?_
          exact ih _ _ h

def lpX8_reached_7 (x2 : Int32) (M : ow_M) (k : Int32 → Int32 → Option Int32) : Nat → Int32 → Int32 → Option Int32
  | 0, _, _ => none
  | n + 1, x3, x4 => (if (M.1 34 5) ≤ x4 then k x3 x4 else lpX8_reached_19 x2 x4 M (fun u9 u10 => lpX8_reached_7 x2 M k n u9 (x4 + 1)) ow_N x3 0)
set_option maxRecDepth 100000 in
set_option maxHeartbeats 4000000 in
theorem tlpX8_reached_7 (l : Launch) {x2 : Int32} {M : ow_M} {k : Int32 → Int32 → Option Int32} {r : Int32}  (hk : ∀ (x3 : Int32) (x4 : Int32), k x3 x4 = some r → ow_G (ow_Γ l 1 (some .int) (ow_is (some (.int r)) M)) RX8 cX8_reached 7 81 [some (.ref 34), none, some (.int x2), some (.int x3), some (.int x4), none, none] [] M) : ∀ (n : Nat) (x3 : Int32) (x4 : Int32), lpX8_reached_7 x2 M k n x3 x4 = some r → ow_G (ow_Γ l 1 (some .int) (ow_is (some (.int r)) M)) RX8 cX8_reached 7 7 [some (.ref 34), none, some (.int x2), some (.int x3), some (.int x4), none, none] [] M := by
  intro n
  induction n with
  | zero => intro _ _ h; cases h
  | succ n ih =>
    intro x3 x4 h
    unfold lpX8_reached_7 at h
    refine gw_iload4 dX8_reached_7 ?_
    refine gw_aload0 dX8_reached_9 ?_
    refine gw_getI dX8_reached_10 fkX8_86 rfl rfl ?_
    refine gw_icmp_ge (tgt := 81) dX8_reached_13 rfl (fun h1 => ?_) (fun h1 => ?_)
    · replace h := (if_pos h1).symm.trans h
      exact hk _ _ h
    · replace h := (if_neg h1).symm.trans h
      refine gw_ic0 dX8_reached_16 ?_
      refine gw_istore5 dX8_reached_17 (by decide) rfl ?_
      refine tlpX8_reached_19 l ?_ _ _ _ h
      intro u9 u10 h
      refine gw_iinc4 1 dX8_reached_75 (by decide) rfl (by decide) ?_
      refine gw_goto (tgt := 7) rfl dX8_reached_78 ?_
      refine gw_drp5 ?_
      exact ih _ _ h

def lpX8_reached_87  (M : ow_M) (k : Int32 → Int32 → Option Int32) : Nat → Int32 → Int32 → Option Int32
  | 0, _, _ => none
  | n + 1, x4, x5 => (if x5 ≤ 0 then k x4 x5 else lpX8_reached_87  M k n (x4 + (x5 &&& 1)) (x5 >>> (1 &&& 31)))
set_option maxRecDepth 100000 in
set_option maxHeartbeats 4000000 in
theorem tlpX8_reached_87 (l : Launch)  {M : ow_M} {k : Int32 → Int32 → Option Int32} {r : Int32}  (hk : ∀ (x4 : Int32) (x5 : Int32), k x4 x5 = some r → ow_G (ow_Γ l 1 (some .int) (ow_is (some (.int r)) M)) RX8 cX8_reached 7 110 [none, none, none, none, some (.int x4), some (.int x5), none] [] M) : ∀ (n : Nat) (x4 : Int32) (x5 : Int32), lpX8_reached_87  M k n x4 x5 = some r → ow_G (ow_Γ l 1 (some .int) (ow_is (some (.int r)) M)) RX8 cX8_reached 7 87 [none, none, none, none, some (.int x4), some (.int x5), none] [] M := by
  intro n
  induction n with
  | zero => intro _ _ h; cases h
  | succ n ih =>
    intro x4 x5 h
    unfold lpX8_reached_87 at h
    refine gw_iload5 dX8_reached_87 ?_
    refine gw_if_le (tgt := 110) dX8_reached_89 rfl (fun h13 => ?_) (fun h13 => ?_)
    · replace h := (if_pos h13).symm.trans h
      exact hk _ _ h
    · replace h := (if_neg h13).symm.trans h
      refine gw_iload4 dX8_reached_92 ?_
      refine gw_iload5 dX8_reached_94 ?_
      refine gw_ic1 dX8_reached_96 ?_
      refine gw_iand dX8_reached_97 ?_
      refine gw_iadd dX8_reached_98 ?_
      refine gw_istore4 dX8_reached_99 (by decide) rfl ?_
      refine gw_iload5 dX8_reached_101 ?_
      refine gw_ic1 dX8_reached_103 ?_
      refine gw_ishr dX8_reached_104 ?_
      refine gw_istore5 dX8_reached_105 (by decide) rfl ?_
      refine gw_goto (tgt := 87) rfl dX8_reached_107 ?_
      exact ih _ _ h

def fX8_reached (x1 : Int32) (x2 : Int32) (M : ow_M) : Option Int32 := lpX8_reached_7 x2 M (fun u11 u12 => lpX8_reached_87 M (fun u14 u15 => some u14) ow_N 0 u11) ow_N (1 <<< (x1 &&& 31)) 0
set_option maxRecDepth 100000 in
set_option maxHeartbeats 4000000 in
theorem ctX8_reached (l : Launch) {x1 : Int32} {x2 : Int32} {M : ow_M} {r : Int32}  (h : fX8_reached x1 x2 M = some r) : ow_F l 1 yX8_reached cX8_reached 7 (some .int) [.ref 34, .int x1, .int x2] M (some (.int r)) M := by
  unfold fX8_reached at h
  refine ow_enterO (own := RX8) rfl (by decide +kernel) rfl (ls := [some (.ref 34), some (.int x1), some (.int x2), none, none, none, none]) rfl ?_
  refine gw_ic1 dX8_reached_0 ?_
  refine gw_iload1 dX8_reached_1 ?_
  refine gw_ishl dX8_reached_2 ?_
  refine gw_istore3 dX8_reached_3 (by decide) rfl ?_
  refine gw_ic0 dX8_reached_4 ?_
  refine gw_istore4 dX8_reached_5 (by decide) rfl ?_
  refine gw_drp1 ?_
  refine tlpX8_reached_7 l ?_ _ _ _ h
  intro u11 u12 h
  refine gw_ic0 dX8_reached_81 ?_
  refine gw_istore4 dX8_reached_82 (by decide) rfl ?_
  refine gw_iload3 dX8_reached_84 ?_
  refine gw_istore5 dX8_reached_85 (by decide) rfl ?_
  refine gw_drp0 ?_
  refine gw_drp2 ?_
  refine gw_drp3 ?_
  refine tlpX8_reached_87 l ?_ _ _ _ h
  intro u14 u15 h
  refine gw_iload4 dX8_reached_110 ?_
  have hA := Option.some.inj h
  subst hA
  exact gw_iret dX8_reached_112 ⟨rfl, rfl⟩

def jX8_hearing_64 (x1 : Int32) (x2 : Int32) (x3 : Int64) (x5 : Int32) (x6 : Int64) (x8 : Int32) (s0 : Int32) (kb : Int64 → Int32 → Option Int64) (k : Int64 → Int32 → Option Int64) (M : ow_M) : Option Int64 := Option.bind (fX8_isOpen x8 M) (fun v10 => (if v10 = 0 then kb (x6 * 1) (x8 + 1) else kb (x6 * (s0).toInt64) (x8 + 1)))
set_option maxRecDepth 100000 in
set_option maxHeartbeats 4000000 in
theorem tjX8_hearing_64 (l : Launch) {x1 : Int32} {x2 : Int32} {x3 : Int64} {x5 : Int32} {x6 : Int64} {x8 : Int32} {s0 : Int32} {kb : Int64 → Int32 → Option Int64} {k : Int64 → Int32 → Option Int64} {M : ow_M} {r : Int64}  (hkb : ∀ (z6 : Int64) (z8 : Int32), kb z6 z8 = some r → ow_G (ow_Γ l 2 (some .long) (ow_is (some (.long r)) M)) RX8 cX8_hearing 10 36 [some (.ref 34), some (.int x1), some (.int x2), some (.long x3), none, some (.int x5), some (.long z6), none, some (.int z8), none] [] M) (hk : ∀ (z6 : Int64) (z8 : Int32), k z6 z8 = some r → ow_G (ow_Γ l 2 (some .long) (ow_is (some (.long r)) M)) RX8 cX8_hearing 10 93 [some (.ref 34), some (.int x1), some (.int x2), some (.long x3), none, some (.int x5), some (.long z6), none, some (.int z8), none] [] M) (h : jX8_hearing_64 x1 x2 x3 x5 x6 x8 s0 kb k M = some r) : ow_G (ow_Γ l 2 (some .long) (ow_is (some (.long r)) M)) RX8 cX8_hearing 10 64 [some (.ref 34), some (.int x1), some (.int x2), some (.long x3), none, some (.int x5), some (.long x6), none, some (.int x8), none] [.int s0] M := by
  unfold jX8_hearing_64 at h
  refine gw_istore9 dX8_hearing_64 (by decide) rfl ?_
  refine gw_lload6 dX8_hearing_66 ?_
  refine gw_aload0 dX8_hearing_68 ?_
  refine gw_iload8 dX8_hearing_69 ?_
  obtain ⟨v10, hc9, h⟩ := ow_b_some h
  refine gw_cVI1 dX8_hearing_71 lkX8_144 mkX8_isOpen (ow_rm_in rfl rfl) rfl rfl (ctX8_isOpen l hc9) rfl ?_
  refine gw_if_eq (tgt := 83) dX8_hearing_74 rfl (fun h11 => ?_) (fun h11 => ?_)
  · replace h := (if_pos h11).symm.trans h
    refine gw_lconst 1 dX8_hearing_83 (by decide) ?_
    refine gw_lmul dX8_hearing_84 ?_
    refine gw_lstore6 dX8_hearing_85 (by decide) rfl ?_
    refine gw_iinc8 1 dX8_hearing_87 (by decide) rfl (by decide) ?_
    refine gw_goto (tgt := 36) rfl dX8_hearing_90 ?_
    refine gw_drp9 ?_
    exact hkb _ _ h
  · replace h := (if_neg h11).symm.trans h
    refine gw_iload9 dX8_hearing_77 ?_
    refine gw_i2l dX8_hearing_79 ?_
    refine gw_goto (tgt := 84) rfl dX8_hearing_80 ?_
    refine gw_lmul dX8_hearing_84 ?_
    refine gw_lstore6 dX8_hearing_85 (by decide) rfl ?_
    refine gw_iinc8 1 dX8_hearing_87 (by decide) rfl (by decide) ?_
    refine gw_goto (tgt := 36) rfl dX8_hearing_90 ?_
    refine gw_drp9 ?_
    exact hkb _ _ h

def lpX8_hearing_36 (x1 : Int32) (x2 : Int32) (x3 : Int64) (x5 : Int32) (M : ow_M) (k : Int64 → Int32 → Option Int64) : Nat → Int64 → Int32 → Option Int64
  | 0, _, _ => none
  | n + 1, x6, x8 => Option.bind (fX8_edges M) (fun v6 => (if v6 ≤ x8 then k x6 x8 else (if ((x5 >>> (x8 &&& 31)) &&& 1) = 1 then jX8_hearing_64 x1 x2 x3 x5 x6 x8 (10 - x2) (lpX8_hearing_36 x1 x2 x3 x5 M k n) k M else jX8_hearing_64 x1 x2 x3 x5 x6 x8 x2 (lpX8_hearing_36 x1 x2 x3 x5 M k n) k M)))
set_option maxRecDepth 100000 in
set_option maxHeartbeats 4000000 in
theorem tlpX8_hearing_36 (l : Launch) {x1 : Int32} {x2 : Int32} {x3 : Int64} {x5 : Int32} {M : ow_M} {k : Int64 → Int32 → Option Int64} {r : Int64}  (hk : ∀ (x6 : Int64) (x8 : Int32), k x6 x8 = some r → ow_G (ow_Γ l 2 (some .long) (ow_is (some (.long r)) M)) RX8 cX8_hearing 10 93 [some (.ref 34), some (.int x1), some (.int x2), some (.long x3), none, some (.int x5), some (.long x6), none, some (.int x8), none] [] M) : ∀ (n : Nat) (x6 : Int64) (x8 : Int32), lpX8_hearing_36 x1 x2 x3 x5 M k n x6 x8 = some r → ow_G (ow_Γ l 2 (some .long) (ow_is (some (.long r)) M)) RX8 cX8_hearing 10 36 [some (.ref 34), some (.int x1), some (.int x2), some (.long x3), none, some (.int x5), some (.long x6), none, some (.int x8), none] [] M := by
  intro n
  induction n with
  | zero => intro _ _ h; cases h
  | succ n ih =>
    intro x6 x8 h
    unfold lpX8_hearing_36 at h
    refine gw_iload8 dX8_hearing_36 ?_
    refine gw_aload0 dX8_hearing_38 ?_
    obtain ⟨v6, hc5, h⟩ := ow_b_some h
    refine gw_cVI0 dX8_hearing_39 lkX8_93 mkX8_edges (ow_rm_in rfl rfl) rfl rfl (ctX8_edges l hc5) rfl ?_
    refine gw_icmp_ge (tgt := 93) dX8_hearing_42 rfl (fun h7 => ?_) (fun h7 => ?_)
    · replace h := (if_pos h7).symm.trans h
      exact hk _ _ h
    · replace h := (if_neg h7).symm.trans h
      refine gw_iload5 dX8_hearing_45 ?_
      refine gw_iload8 dX8_hearing_47 ?_
      refine gw_ishr dX8_hearing_49 ?_
      refine gw_ic1 dX8_hearing_50 ?_
      refine gw_iand dX8_hearing_51 ?_
      refine gw_ic1 dX8_hearing_52 ?_
      refine gw_icmp_ne (tgt := 63) dX8_hearing_53 rfl (fun h8 => ?_) (fun h8 => ?_)
      · replace h := (if_neg h8).symm.trans h
        refine gw_iload2 dX8_hearing_63 ?_
        exact tjX8_hearing_64 l ih hk h
      · replace h := (if_pos h8).symm.trans h
        refine gw_bipush 10 dX8_hearing_56 (by decide) ?_
        refine gw_iload2 dX8_hearing_58 ?_
        refine gw_isub dX8_hearing_59 ?_
        refine gw_goto (tgt := 64) rfl dX8_hearing_60 ?_
        exact tjX8_hearing_64 l ih hk h

def jX8_hearing_31 (x1 : Int32) (x2 : Int32) (x3 : Int64) (x5 : Int32) (s0 : Int64) (kb : Int64 → Int32 → Option Int64) (k : Int64 → Int32 → Option Int64) (M : ow_M) : Option Int64 := lpX8_hearing_36 x1 x2 x3 x5 M (fun u12 u13 => Option.bind (fX8_reached x1 x5 M) (fun v15 => kb (x3 + (u12 * ((v15 - 1)).toInt64)) (x5 + 1))) ow_N s0 0
set_option maxRecDepth 100000 in
set_option maxHeartbeats 4000000 in
theorem tjX8_hearing_31 (l : Launch) {x1 : Int32} {x2 : Int32} {x3 : Int64} {x5 : Int32} {s0 : Int64} {kb : Int64 → Int32 → Option Int64} {k : Int64 → Int32 → Option Int64} {M : ow_M} {r : Int64}  (hkb : ∀ (z3 : Int64) (z5 : Int32), kb z3 z5 = some r → ow_G (ow_Γ l 2 (some .long) (ow_is (some (.long r)) M)) RX8 cX8_hearing 10 5 [some (.ref 34), some (.int x1), some (.int x2), some (.long z3), none, some (.int z5), none, none, none, none] [] M) (hk : ∀ (z3 : Int64) (z5 : Int32), k z3 z5 = some r → ow_G (ow_Γ l 2 (some .long) (ow_is (some (.long r)) M)) RX8 cX8_hearing 10 115 [some (.ref 34), some (.int x1), some (.int x2), some (.long z3), none, some (.int z5), none, none, none, none] [] M) (h : jX8_hearing_31 x1 x2 x3 x5 s0 kb k M = some r) : ow_G (ow_Γ l 2 (some .long) (ow_is (some (.long r)) M)) RX8 cX8_hearing 10 31 [some (.ref 34), some (.int x1), some (.int x2), some (.long x3), none, some (.int x5), none, none, none, none] [.long s0] M := by
  unfold jX8_hearing_31 at h
  refine gw_lstore6 dX8_hearing_31 (by decide) rfl ?_
  refine gw_ic0 dX8_hearing_33 ?_
  refine gw_istore8 dX8_hearing_34 (by decide) rfl ?_
  refine tlpX8_hearing_36 l ?_ _ _ _ h
  intro u12 u13 h
  refine gw_lload3 dX8_hearing_93 ?_
  refine gw_lload6 dX8_hearing_94 ?_
  refine gw_aload0 dX8_hearing_96 ?_
  refine gw_iload1 dX8_hearing_97 ?_
  refine gw_iload5 dX8_hearing_98 ?_
  obtain ⟨v15, hc14, h⟩ := ow_b_some h
  refine gw_cVI2 dX8_hearing_100 lkX8_208 mkX8_reached (ow_rm_in rfl rfl) rfl rfl (ctX8_reached l hc14) rfl ?_
  refine gw_ic1 dX8_hearing_103 ?_
  refine gw_isub dX8_hearing_104 ?_
  refine gw_i2l dX8_hearing_105 ?_
  refine gw_lmul dX8_hearing_106 ?_
  refine gw_ladd dX8_hearing_107 ?_
  refine gw_lstore3 dX8_hearing_108 (by decide) rfl ?_
  refine gw_iinc5 1 dX8_hearing_109 (by decide) rfl (by decide) ?_
  refine gw_goto (tgt := 5) rfl dX8_hearing_112 ?_
  refine gw_drp6 ?_
  refine gw_drp8 ?_
  exact hkb _ _ h

def lpX8_hearing_5 (x1 : Int32) (x2 : Int32) (M : ow_M) (k : Int64 → Int32 → Option Int64) : Nat → Int64 → Int32 → Option Int64
  | 0, _, _ => none
  | n + 1, x3, x5 => Option.bind (fX8_edges M) (fun v2 => (if (1 <<< (v2 &&& 31)) ≤ x5 then k x3 x5 else (if (x5 &&& (M.1 34 7)) = 0 then jX8_hearing_31 x1 x2 x3 x5 1 (lpX8_hearing_5 x1 x2 M k n) k M else jX8_hearing_31 x1 x2 x3 x5 0 (lpX8_hearing_5 x1 x2 M k n) k M)))
set_option maxRecDepth 100000 in
set_option maxHeartbeats 4000000 in
theorem tlpX8_hearing_5 (l : Launch) {x1 : Int32} {x2 : Int32} {M : ow_M} {k : Int64 → Int32 → Option Int64} {r : Int64}  (hk : ∀ (x3 : Int64) (x5 : Int32), k x3 x5 = some r → ow_G (ow_Γ l 2 (some .long) (ow_is (some (.long r)) M)) RX8 cX8_hearing 10 115 [some (.ref 34), some (.int x1), some (.int x2), some (.long x3), none, some (.int x5), none, none, none, none] [] M) : ∀ (n : Nat) (x3 : Int64) (x5 : Int32), lpX8_hearing_5 x1 x2 M k n x3 x5 = some r → ow_G (ow_Γ l 2 (some .long) (ow_is (some (.long r)) M)) RX8 cX8_hearing 10 5 [some (.ref 34), some (.int x1), some (.int x2), some (.long x3), none, some (.int x5), none, none, none, none] [] M := by
  intro n
  induction n with
  | zero => intro _ _ h; cases h
  | succ n ih =>
    intro x3 x5 h
    unfold lpX8_hearing_5 at h
    refine gw_iload5 dX8_hearing_5 ?_
    refine gw_ic1 dX8_hearing_7 ?_
    refine gw_aload0 dX8_hearing_8 ?_
    obtain ⟨v2, hc1, h⟩ := ow_b_some h
    refine gw_cVI0 dX8_hearing_9 lkX8_93 mkX8_edges (ow_rm_in rfl rfl) rfl rfl (ctX8_edges l hc1) rfl ?_
    refine gw_ishl dX8_hearing_12 ?_
    refine gw_icmp_ge (tgt := 115) dX8_hearing_13 rfl (fun h3 => ?_) (fun h3 => ?_)
    · replace h := (if_pos h3).symm.trans h
      exact hk _ _ h
    · replace h := (if_neg h3).symm.trans h
      refine gw_iload5 dX8_hearing_16 ?_
      refine gw_aload0 dX8_hearing_18 ?_
      refine gw_getI dX8_hearing_19 fkX8_97 rfl rfl ?_
      refine gw_iand dX8_hearing_22 ?_
      refine gw_if_ne (tgt := 30) dX8_hearing_23 rfl (fun h4 => ?_) (fun h4 => ?_)
      · replace h := (if_neg h4).symm.trans h
        refine gw_lconst 0 dX8_hearing_30 (by decide) ?_
        exact tjX8_hearing_31 l ih hk h
      · replace h := (if_pos h4).symm.trans h
        refine gw_lconst 1 dX8_hearing_26 (by decide) ?_
        refine gw_goto (tgt := 31) rfl dX8_hearing_27 ?_
        exact tjX8_hearing_31 l ih hk h

def fX8_hearing (x1 : Int32) (x2 : Int32) (M : ow_M) : Option Int64 := lpX8_hearing_5 x1 x2 M (fun u16 u17 => some u16) ow_N 0 0
set_option maxRecDepth 100000 in
set_option maxHeartbeats 4000000 in
theorem ctX8_hearing (l : Launch) {x1 : Int32} {x2 : Int32} {M : ow_M} {r : Int64}  (h : fX8_hearing x1 x2 M = some r) : ow_F l 2 yX8_hearing cX8_hearing 10 (some .long) [.ref 34, .int x1, .int x2] M (some (.long r)) M := by
  unfold fX8_hearing at h
  refine ow_enterO (own := RX8) rfl (by decide +kernel) rfl (ls := [some (.ref 34), some (.int x1), some (.int x2), none, none, none, none, none, none, none]) rfl ?_
  refine gw_lconst 0 dX8_hearing_0 (by decide) ?_
  refine gw_lstore3 dX8_hearing_1 (by decide) rfl ?_
  refine gw_ic0 dX8_hearing_2 ?_
  refine gw_istore5 dX8_hearing_3 (by decide) rfl ?_
  refine tlpX8_hearing_5 l ?_ _ _ _ h
  intro u16 u17 h
  refine gw_lload3 dX8_hearing_115 ?_
  have hA := Option.some.inj h
  subst hA
  exact gw_lret dX8_hearing_116 ⟨rfl, rfl⟩

def lpX8_inLeastTerms_6 (x0 : Int64) (x2 : Int64) (x4 : Int32) (k : Int64 → Int64 → Option Int64) : Nat → Int64 → Int64 → Option Int64
  | 0, _, _ => none
  | n + 1, x5, x7 => (if (lg_cmp x7 0) = 0 then k x5 x7 else if x7 = 0 then none else lpX8_inLeastTerms_6 x0 x2 x4 k n x7 (x5 - x5 / x7 * x7))
set_option maxRecDepth 100000 in
set_option maxHeartbeats 4000000 in
theorem tlpX8_inLeastTerms_6 (l : Launch) {x0 : Int64} {x2 : Int64} {x4 : Int32} {M : ow_M} {k : Int64 → Int64 → Option Int64} {r : Int64}  (hk : ∀ (x5 : Int64) (x7 : Int64), k x5 x7 = some r → ow_G (ow_Γ l 0 (some .long) (ow_is (some (.long r)) M)) RX8 cX8_inLeastTerms 11 31 [some (.long x0), none, some (.long x2), none, some (.int x4), some (.long x5), none, some (.long x7), none, none, none] [] M) : ∀ (n : Nat) (x5 : Int64) (x7 : Int64), lpX8_inLeastTerms_6 x0 x2 x4 k n x5 x7 = some r → ow_G (ow_Γ l 0 (some .long) (ow_is (some (.long r)) M)) RX8 cX8_inLeastTerms 11 6 [some (.long x0), none, some (.long x2), none, some (.int x4), some (.long x5), none, some (.long x7), none, none, none] [] M := by
  intro n
  induction n with
  | zero => intro _ _ h; cases h
  | succ n ih =>
    intro x5 x7 h
    unfold lpX8_inLeastTerms_6 at h
    refine gw_lload7 dX8_inLeastTerms_6 ?_
    refine gw_lconst 0 dX8_inLeastTerms_8 (by decide) ?_
    refine gw_lcmp dX8_inLeastTerms_9 ?_
    refine gw_if_eq (tgt := 31) dX8_inLeastTerms_10 rfl (fun h1 => ?_) (fun h1 => ?_)
    · replace h := (if_pos h1).symm.trans h
      exact hk _ _ h
    · replace h := (if_neg h1).symm.trans h
      refine gw_lload5 dX8_inLeastTerms_13 ?_
      refine gw_lload7 dX8_inLeastTerms_15 ?_
      by_cases h2 : x7 = 0
      · replace h := (if_pos h2).symm.trans h
        cases h
      replace h := (if_neg h2).symm.trans h
      refine gw_lrem h2 dX8_inLeastTerms_17 ?_
      refine gw_lstore9 dX8_inLeastTerms_18 (by decide) rfl ?_
      refine gw_lload7 dX8_inLeastTerms_20 ?_
      refine gw_lstore5 dX8_inLeastTerms_22 (by decide) rfl ?_
      refine gw_lload9 dX8_inLeastTerms_24 ?_
      refine gw_lstore7 dX8_inLeastTerms_26 (by decide) rfl ?_
      refine gw_goto (tgt := 6) rfl dX8_inLeastTerms_28 ?_
      refine gw_drp9 ?_
      exact ih _ _ h

def fX8_inLeastTerms (x0 : Int64) (x2 : Int64) (x4 : Int32) : Option Int64 := lpX8_inLeastTerms_6 x0 x2 x4 (fun u3 u4 => (if x4 = 0 then if u3 = 0 then none else some (x0 / u3) else if u3 = 0 then none else some (x2 / u3))) ow_N x0 x2
set_option maxRecDepth 100000 in
set_option maxHeartbeats 4000000 in
theorem ctX8_inLeastTerms (l : Launch) {x0 : Int64} {x2 : Int64} {x4 : Int32} {M : ow_M} {r : Int64}  (h : fX8_inLeastTerms x0 x2 x4 = some r) : ow_F l 0 yX8_inLeastTerms cX8_inLeastTerms 11 (some .long) [.long x0, .long x2, .int x4] M (some (.long r)) M := by
  unfold fX8_inLeastTerms at h
  refine ow_enterO (own := RX8) rfl (by decide +kernel) rfl (ls := [some (.long x0), none, some (.long x2), none, some (.int x4), none, none, none, none, none, none]) rfl ?_
  refine gw_lload0 dX8_inLeastTerms_0 ?_
  refine gw_lstore5 dX8_inLeastTerms_1 (by decide) rfl ?_
  refine gw_lload2 dX8_inLeastTerms_3 ?_
  refine gw_lstore7 dX8_inLeastTerms_4 (by decide) rfl ?_
  refine tlpX8_inLeastTerms_6 l ?_ _ _ _ h
  intro u3 u4 h
  refine gw_iload4 dX8_inLeastTerms_31 ?_
  refine gw_if_ne (tgt := 43) dX8_inLeastTerms_33 rfl (fun h5 => ?_) (fun h5 => ?_)
  · replace h := (if_neg h5).symm.trans h
    refine gw_lload2 dX8_inLeastTerms_43 ?_
    refine gw_lload5 dX8_inLeastTerms_44 ?_
    by_cases h6 : u3 = 0
    · replace h := (if_pos h6).symm.trans h
      cases h
    replace h := (if_neg h6).symm.trans h
    refine gw_ldiv h6 dX8_inLeastTerms_46 ?_
    have hA := Option.some.inj h
    subst hA
    exact gw_lret dX8_inLeastTerms_47 ⟨rfl, rfl⟩
  · replace h := (if_pos h5).symm.trans h
    refine gw_lload0 dX8_inLeastTerms_36 ?_
    refine gw_lload5 dX8_inLeastTerms_37 ?_
    by_cases h7 : u3 = 0
    · replace h := (if_pos h7).symm.trans h
      cases h
    replace h := (if_neg h7).symm.trans h
    refine gw_ldiv h7 dX8_inLeastTerms_39 ?_
    refine gw_goto (tgt := 47) rfl dX8_inLeastTerms_40 ?_
    have hA := Option.some.inj h
    subst hA
    exact gw_lret dX8_inLeastTerms_47 ⟨rfl, rfl⟩

def lpX8_heard_37 (x1 : Int32) (x2 : Int32) (x3 : Int32) (M : ow_M) (k : Int64 → Int32 → Option Int64) : Nat → Int64 → Int32 → Option Int64
  | 0, _, _ => none
  | n + 1, x4, x6 => Option.bind (fX8_edges M) (fun v11 => (if v11 ≤ x6 then k x4 x6 else Option.bind (fX8_isOpen x6 M) (fun v14 => (if v14 = 0 then lpX8_heard_37 x1 x2 x3 M k n (x4 * 1) (x6 + 1) else lpX8_heard_37 x1 x2 x3 M k n (x4 * 10) (x6 + 1)))))
set_option maxRecDepth 100000 in
set_option maxHeartbeats 4000000 in
theorem tlpX8_heard_37 (l : Launch) {x1 : Int32} {x2 : Int32} {x3 : Int32} {M : ow_M} {k : Int64 → Int32 → Option Int64} {r : Int64}  (hk : ∀ (x4 : Int64) (x6 : Int32), k x4 x6 = some r → ow_G (ow_Γ l 3 (some .long) (ow_is (some (.long r)) M)) RX8 cX8_heard 7 73 [some (.ref 34), some (.int x1), some (.int x2), some (.int x3), some (.long x4), none, some (.int x6)] [] M) : ∀ (n : Nat) (x4 : Int64) (x6 : Int32), lpX8_heard_37 x1 x2 x3 M k n x4 x6 = some r → ow_G (ow_Γ l 3 (some .long) (ow_is (some (.long r)) M)) RX8 cX8_heard 7 37 [some (.ref 34), some (.int x1), some (.int x2), some (.int x3), some (.long x4), none, some (.int x6)] [] M := by
  intro n
  induction n with
  | zero => intro _ _ h; cases h
  | succ n ih =>
    intro x4 x6 h
    unfold lpX8_heard_37 at h
    refine gw_iload6 dX8_heard_37 ?_
    refine gw_aload0 dX8_heard_39 ?_
    obtain ⟨v11, hc10, h⟩ := ow_b_some h
    refine gw_cVI0 dX8_heard_40 lkX8_93 mkX8_edges (ow_rm_in rfl rfl) rfl rfl (ctX8_edges l hc10) rfl ?_
    refine gw_icmp_ge (tgt := 73) dX8_heard_43 rfl (fun h12 => ?_) (fun h12 => ?_)
    · replace h := (if_pos h12).symm.trans h
      exact hk _ _ h
    · replace h := (if_neg h12).symm.trans h
      refine gw_lload4 dX8_heard_46 ?_
      refine gw_aload0 dX8_heard_48 ?_
      refine gw_iload6 dX8_heard_49 ?_
      obtain ⟨v14, hc13, h⟩ := ow_b_some h
      refine gw_cVI1 dX8_heard_51 lkX8_144 mkX8_isOpen (ow_rm_in rfl rfl) rfl rfl (ctX8_isOpen l hc13) rfl ?_
      refine gw_if_eq (tgt := 63) dX8_heard_54 rfl (fun h15 => ?_) (fun h15 => ?_)
      · replace h := (if_pos h15).symm.trans h
        refine gw_lconst 1 dX8_heard_63 (by decide) ?_
        refine gw_lmul dX8_heard_64 ?_
        refine gw_lstore4 dX8_heard_65 (by decide) rfl ?_
        refine gw_iinc6 1 dX8_heard_67 (by decide) rfl (by decide) ?_
        refine gw_goto (tgt := 37) rfl dX8_heard_70 ?_
        exact ih _ _ h
      · replace h := (if_neg h15).symm.trans h
        refine gw_ldc2 klX8_211 dX8_heard_57 ?_
        refine gw_goto (tgt := 64) rfl dX8_heard_60 ?_
        refine gw_lmul dX8_heard_64 ?_
        refine gw_lstore4 dX8_heard_65 (by decide) rfl ?_
        refine gw_iinc6 1 dX8_heard_67 (by decide) rfl (by decide) ?_
        refine gw_goto (tgt := 37) rfl dX8_heard_70 ?_
        exact ih _ _ h

def fX8_heard (x1 : Int32) (x2 : Int32) (x3 : Int32) (M : ow_M) : Option Int64 := Option.bind (fX8_isPerson x1 M) (fun v2 => (if v2 = 0 then some (-9223372036854775808) else Option.bind (fX8_within x2 0 10) (fun v5 => (if v5 = 0 then some (-9223372036854775808) else Option.bind (fX8_within x3 0 1) (fun v8 => (if v8 = 0 then some (-9223372036854775808) else lpX8_heard_37 x1 x2 x3 M (fun u16 u17 => Option.bind (fX8_hearing x1 x2 M) (fun v19 => Option.bind (fX8_inLeastTerms v19 u16 x3) (fun v21 => some v21))) ow_N 1 0))))))
set_option maxRecDepth 100000 in
set_option maxHeartbeats 4000000 in
theorem ctX8_heard (l : Launch) {x1 : Int32} {x2 : Int32} {x3 : Int32} {M : ow_M} {r : Int64}  (h : fX8_heard x1 x2 x3 M = some r) : ow_F l 3 yX8_heard cX8_heard 7 (some .long) [.ref 34, .int x1, .int x2, .int x3] M (some (.long r)) M := by
  unfold fX8_heard at h
  refine ow_enterO (own := RX8) rfl (by decide +kernel) rfl (ls := [some (.ref 34), some (.int x1), some (.int x2), some (.int x3), none, none, none]) rfl ?_
  refine gw_aload0 dX8_heard_0 ?_
  refine gw_iload1 dX8_heard_1 ?_
  obtain ⟨v2, hc1, h⟩ := ow_b_some h
  refine gw_cVI1 dX8_heard_2 lkX8_138 mkX8_isPerson (ow_rm_in rfl rfl) rfl rfl (ctX8_isPerson l hc1) rfl ?_
  refine gw_if_eq (tgt := 27) dX8_heard_5 rfl (fun h3 => ?_) (fun h3 => ?_)
  · replace h := (if_pos h3).symm.trans h
    refine gw_ldc2 klX8_80 dX8_heard_27 ?_
    have hA := Option.some.inj h
    subst hA
    exact gw_lret dX8_heard_30 ⟨rfl, rfl⟩
  · replace h := (if_neg h3).symm.trans h
    refine gw_iload2 dX8_heard_8 ?_
    refine gw_ic0 dX8_heard_9 ?_
    refine gw_bipush 10 dX8_heard_10 (by decide) ?_
    obtain ⟨v5, hc4, h⟩ := ow_b_some h
    refine gw_cSI3 dX8_heard_12 lkX8_82 mkX8_within (ow_rm_in rfl rfl) (ctX8_within l hc4) rfl ?_
    refine gw_if_eq (tgt := 27) dX8_heard_15 rfl (fun h6 => ?_) (fun h6 => ?_)
    · replace h := (if_pos h6).symm.trans h
      refine gw_ldc2 klX8_80 dX8_heard_27 ?_
      have hA := Option.some.inj h
      subst hA
      exact gw_lret dX8_heard_30 ⟨rfl, rfl⟩
    · replace h := (if_neg h6).symm.trans h
      refine gw_iload3 dX8_heard_18 ?_
      refine gw_ic0 dX8_heard_19 ?_
      refine gw_ic1 dX8_heard_20 ?_
      obtain ⟨v8, hc7, h⟩ := ow_b_some h
      refine gw_cSI3 dX8_heard_21 lkX8_82 mkX8_within (ow_rm_in rfl rfl) (ctX8_within l hc7) rfl ?_
      refine gw_if_ne (tgt := 31) dX8_heard_24 rfl (fun h9 => ?_) (fun h9 => ?_)
      · replace h := (if_neg h9).symm.trans h
        refine gw_lconst 1 dX8_heard_31 (by decide) ?_
        refine gw_lstore4 dX8_heard_32 (by decide) rfl ?_
        refine gw_ic0 dX8_heard_34 ?_
        refine gw_istore6 dX8_heard_35 (by decide) rfl ?_
        refine tlpX8_heard_37 l ?_ _ _ _ h
        intro u16 u17 h
        refine gw_aload0 dX8_heard_73 ?_
        refine gw_iload1 dX8_heard_74 ?_
        refine gw_iload2 dX8_heard_75 ?_
        obtain ⟨v19, hc18, h⟩ := ow_b_some h
        refine gw_cVI2 dX8_heard_76 lkX8_213 mkX8_hearing (ow_rm_in rfl rfl) rfl rfl (ctX8_hearing l hc18) rfl ?_
        refine gw_lload4 dX8_heard_79 ?_
        refine gw_iload3 dX8_heard_81 ?_
        obtain ⟨v21, hc20, h⟩ := ow_b_some h
        refine gw_cSI3 dX8_heard_82 lkX8_217 mkX8_inLeastTerms (ow_rm_in rfl rfl) (ctX8_inLeastTerms l hc20) rfl ?_
        have hA := Option.some.inj h
        subst hA
        exact gw_lret dX8_heard_85 ⟨rfl, rfl⟩
      · replace h := (if_pos h9).symm.trans h
        refine gw_ldc2 klX8_80 dX8_heard_27 ?_
        have hA := Option.some.inj h
        subst hA
        exact gw_lret dX8_heard_30 ⟨rfl, rfl⟩

def lpX8_stand_31 (x1 : Int32) (M : ow_M) (k : Int32 → Int64 → Int32 → Option Int32) : Nat → Int32 → Int64 → Int32 → Option Int32
  | 0, _, _, _ => none
  | n + 1, x2, x3, x5 => (if (M.1 34 5) ≤ x5 then k x2 x3 x5 else Option.bind (fX8_hearing x5 x1 M) (fun v7 => (if x2 = (-9) then lpX8_stand_31 x1 M k n x5 v7 (x5 + 1) else (if (lg_cmp v7 x3) ≤ 0 then lpX8_stand_31 x1 M k n x2 x3 (x5 + 1) else lpX8_stand_31 x1 M k n x5 v7 (x5 + 1)))))
set_option maxRecDepth 100000 in
set_option maxHeartbeats 4000000 in
theorem tlpX8_stand_31 (l : Launch) {x1 : Int32} {M : ow_M} {k : Int32 → Int64 → Int32 → Option Int32} {r : Int32}  (hk : ∀ (x2 : Int32) (x3 : Int64) (x5 : Int32), k x2 x3 x5 = some r → ow_G (ow_Γ l 3 (some .int) (ow_is (some (.int r)) M)) RX8 cX8_stand 8 74 [some (.ref 34), some (.int x1), some (.int x2), some (.long x3), none, some (.int x5), none, none] [] M) : ∀ (n : Nat) (x2 : Int32) (x3 : Int64) (x5 : Int32), lpX8_stand_31 x1 M k n x2 x3 x5 = some r → ow_G (ow_Γ l 3 (some .int) (ow_is (some (.int r)) M)) RX8 cX8_stand 8 31 [some (.ref 34), some (.int x1), some (.int x2), some (.long x3), none, some (.int x5), none, none] [] M := by
  intro n
  induction n with
  | zero => intro _ _ _ h; cases h
  | succ n ih =>
    intro x2 x3 x5 h
    unfold lpX8_stand_31 at h
    refine gw_iload5 dX8_stand_31 ?_
    refine gw_aload0 dX8_stand_33 ?_
    refine gw_getI dX8_stand_34 fkX8_86 rfl rfl ?_
    refine gw_icmp_ge (tgt := 74) dX8_stand_37 rfl (fun h5 => ?_) (fun h5 => ?_)
    · replace h := (if_pos h5).symm.trans h
      exact hk _ _ _ h
    · replace h := (if_neg h5).symm.trans h
      refine gw_aload0 dX8_stand_40 ?_
      refine gw_iload5 dX8_stand_41 ?_
      refine gw_iload1 dX8_stand_43 ?_
      obtain ⟨v7, hc6, h⟩ := ow_b_some h
      refine gw_cVI2 dX8_stand_44 lkX8_213 mkX8_hearing (ow_rm_in rfl rfl) rfl rfl (ctX8_hearing l hc6) rfl ?_
      refine gw_lstore6 dX8_stand_47 (by decide) rfl ?_
      refine gw_iload2 dX8_stand_49 ?_
      refine gw_bipush (-9) dX8_stand_50 (by decide) ?_
      refine gw_icmp_eq (tgt := 62) dX8_stand_52 rfl (fun h8 => ?_) (fun h8 => ?_)
      · replace h := (if_pos h8).symm.trans h
        refine gw_iload5 dX8_stand_62 ?_
        refine gw_istore2 dX8_stand_64 (by decide) rfl ?_
        refine gw_lload6 dX8_stand_65 ?_
        refine gw_lstore3 dX8_stand_67 (by decide) rfl ?_
        refine gw_iinc5 1 dX8_stand_68 (by decide) rfl (by decide) ?_
        refine gw_goto (tgt := 31) rfl dX8_stand_71 ?_
        refine gw_drp6 ?_
        exact ih _ _ _ h
      · replace h := (if_neg h8).symm.trans h
        refine gw_lload6 dX8_stand_55 ?_
        refine gw_lload3 dX8_stand_57 ?_
        refine gw_lcmp dX8_stand_58 ?_
        refine gw_if_le (tgt := 68) dX8_stand_59 rfl (fun h9 => ?_) (fun h9 => ?_)
        · replace h := (if_pos h9).symm.trans h
          refine gw_iinc5 1 dX8_stand_68 (by decide) rfl (by decide) ?_
          refine gw_goto (tgt := 31) rfl dX8_stand_71 ?_
          refine gw_drp6 ?_
          exact ih _ _ _ h
        · replace h := (if_neg h9).symm.trans h
          refine gw_iload5 dX8_stand_62 ?_
          refine gw_istore2 dX8_stand_64 (by decide) rfl ?_
          refine gw_lload6 dX8_stand_65 ?_
          refine gw_lstore3 dX8_stand_67 (by decide) rfl ?_
          refine gw_iinc5 1 dX8_stand_68 (by decide) rfl (by decide) ?_
          refine gw_goto (tgt := 31) rfl dX8_stand_71 ?_
          refine gw_drp6 ?_
          exact ih _ _ _ h

def fX8_stand (x1 : Int32) (M : ow_M) : Option Int32 := Option.bind (fX8_within x1 0 10) (fun v2 => (if v2 = 0 then some (-2) else (if (M.1 34 5) = 0 then some (-3) else lpX8_stand_31 x1 M (fun u10 u11 u12 => some u10) ow_N (-9) 0 0)))
set_option maxRecDepth 100000 in
set_option maxHeartbeats 4000000 in
theorem ctX8_stand (l : Launch) {x1 : Int32} {M : ow_M} {r : Int32}  (h : fX8_stand x1 M = some r) : ow_F l 3 yX8_stand cX8_stand 8 (some .int) [.ref 34, .int x1] M (some (.int r)) M := by
  unfold fX8_stand at h
  refine ow_enterO (own := RX8) rfl (by decide +kernel) rfl (ls := [some (.ref 34), some (.int x1), none, none, none, none, none, none]) rfl ?_
  refine gw_iload1 dX8_stand_0 ?_
  refine gw_ic0 dX8_stand_1 ?_
  refine gw_bipush 10 dX8_stand_2 (by decide) ?_
  obtain ⟨v2, hc1, h⟩ := ow_b_some h
  refine gw_cSI3 dX8_stand_4 lkX8_82 mkX8_within (ow_rm_in rfl rfl) (ctX8_within l hc1) rfl ?_
  refine gw_if_ne (tgt := 13) dX8_stand_7 rfl (fun h3 => ?_) (fun h3 => ?_)
  · replace h := (if_neg h3).symm.trans h
    refine gw_aload0 dX8_stand_13 ?_
    refine gw_getI dX8_stand_14 fkX8_86 rfl rfl ?_
    refine gw_if_ne (tgt := 23) dX8_stand_17 rfl (fun h4 => ?_) (fun h4 => ?_)
    · replace h := (if_neg h4).symm.trans h
      refine gw_bipush (-9) dX8_stand_23 (by decide) ?_
      refine gw_istore2 dX8_stand_25 (by decide) rfl ?_
      refine gw_lconst 0 dX8_stand_26 (by decide) ?_
      refine gw_lstore3 dX8_stand_27 (by decide) rfl ?_
      refine gw_ic0 dX8_stand_28 ?_
      refine gw_istore5 dX8_stand_29 (by decide) rfl ?_
      refine tlpX8_stand_31 l ?_ _ _ _ _ h
      intro u10 u11 u12 h
      refine gw_iload2 dX8_stand_74 ?_
      have hA := Option.some.inj h
      subst hA
      exact gw_iret dX8_stand_75 ⟨rfl, rfl⟩
    · replace h := (if_pos h4).symm.trans h
      refine gw_bipush (-3) dX8_stand_20 (by decide) ?_
      have hA := Option.some.inj h
      subst hA
      exact gw_iret dX8_stand_22 ⟨rfl, rfl⟩
  · replace h := (if_pos h3).symm.trans h
    refine gw_bipush (-2) dX8_stand_10 (by decide) ?_
    have hA := Option.some.inj h
    subst hA
    exact gw_iret dX8_stand_12 ⟨rfl, rfl⟩

def jX8_reading_43 (x1 : Int32) (x2 : Int32) (x3 : Int32) (x4 : Int32) (M : ow_M) : Option (Int32 × ow_M) := (if (M.1 34 27) = 8 then some ((-4), M) else if ow_inn (M.1 34 27) 8 then if ow_inn ((ow_up M 53 (M.1 34 27).toNatClampNeg x1).1 34 27) 8 then if ow_inn ((ow_up (ow_up M 53 (M.1 34 27).toNatClampNeg x1) 54 ((ow_up M 53 (M.1 34 27).toNatClampNeg x1).1 34 27).toNatClampNeg x2).1 34 27) 8 then if ow_inn ((ow_up (ow_up (ow_up M 53 (M.1 34 27).toNatClampNeg x1) 54 ((ow_up M 53 (M.1 34 27).toNatClampNeg x1).1 34 27).toNatClampNeg x2) 55 ((ow_up (ow_up M 53 (M.1 34 27).toNatClampNeg x1) 54 ((ow_up M 53 (M.1 34 27).toNatClampNeg x1).1 34 27).toNatClampNeg x2).1 34 27).toNatClampNeg x3).1 34 27) 8 then some ((((ow_up (ow_up (ow_up (ow_up (ow_up M 53 (M.1 34 27).toNatClampNeg x1) 54 ((ow_up M 53 (M.1 34 27).toNatClampNeg x1).1 34 27).toNatClampNeg x2) 55 ((ow_up (ow_up M 53 (M.1 34 27).toNatClampNeg x1) 54 ((ow_up M 53 (M.1 34 27).toNatClampNeg x1).1 34 27).toNatClampNeg x2).1 34 27).toNatClampNeg x3) 56 ((ow_up (ow_up (ow_up M 53 (M.1 34 27).toNatClampNeg x1) 54 ((ow_up M 53 (M.1 34 27).toNatClampNeg x1).1 34 27).toNatClampNeg x2) 55 ((ow_up (ow_up M 53 (M.1 34 27).toNatClampNeg x1) 54 ((ow_up M 53 (M.1 34 27).toNatClampNeg x1).1 34 27).toNatClampNeg x2).1 34 27).toNatClampNeg x3).1 34 27).toNatClampNeg x4) 34 27 (((ow_up (ow_up (ow_up (ow_up M 53 (M.1 34 27).toNatClampNeg x1) 54 ((ow_up M 53 (M.1 34 27).toNatClampNeg x1).1 34 27).toNatClampNeg x2) 55 ((ow_up (ow_up M 53 (M.1 34 27).toNatClampNeg x1) 54 ((ow_up M 53 (M.1 34 27).toNatClampNeg x1).1 34 27).toNatClampNeg x2).1 34 27).toNatClampNeg x3) 56 ((ow_up (ow_up (ow_up M 53 (M.1 34 27).toNatClampNeg x1) 54 ((ow_up M 53 (M.1 34 27).toNatClampNeg x1).1 34 27).toNatClampNeg x2) 55 ((ow_up (ow_up M 53 (M.1 34 27).toNatClampNeg x1) 54 ((ow_up M 53 (M.1 34 27).toNatClampNeg x1).1 34 27).toNatClampNeg x2).1 34 27).toNatClampNeg x3).1 34 27).toNatClampNeg x4).1 34 27) + 1)).1 34 27) - 1), (ow_up (ow_up (ow_up (ow_up (ow_up M 53 (M.1 34 27).toNatClampNeg x1) 54 ((ow_up M 53 (M.1 34 27).toNatClampNeg x1).1 34 27).toNatClampNeg x2) 55 ((ow_up (ow_up M 53 (M.1 34 27).toNatClampNeg x1) 54 ((ow_up M 53 (M.1 34 27).toNatClampNeg x1).1 34 27).toNatClampNeg x2).1 34 27).toNatClampNeg x3) 56 ((ow_up (ow_up (ow_up M 53 (M.1 34 27).toNatClampNeg x1) 54 ((ow_up M 53 (M.1 34 27).toNatClampNeg x1).1 34 27).toNatClampNeg x2) 55 ((ow_up (ow_up M 53 (M.1 34 27).toNatClampNeg x1) 54 ((ow_up M 53 (M.1 34 27).toNatClampNeg x1).1 34 27).toNatClampNeg x2).1 34 27).toNatClampNeg x3).1 34 27).toNatClampNeg x4) 34 27 (((ow_up (ow_up (ow_up (ow_up M 53 (M.1 34 27).toNatClampNeg x1) 54 ((ow_up M 53 (M.1 34 27).toNatClampNeg x1).1 34 27).toNatClampNeg x2) 55 ((ow_up (ow_up M 53 (M.1 34 27).toNatClampNeg x1) 54 ((ow_up M 53 (M.1 34 27).toNatClampNeg x1).1 34 27).toNatClampNeg x2).1 34 27).toNatClampNeg x3) 56 ((ow_up (ow_up (ow_up M 53 (M.1 34 27).toNatClampNeg x1) 54 ((ow_up M 53 (M.1 34 27).toNatClampNeg x1).1 34 27).toNatClampNeg x2) 55 ((ow_up (ow_up M 53 (M.1 34 27).toNatClampNeg x1) 54 ((ow_up M 53 (M.1 34 27).toNatClampNeg x1).1 34 27).toNatClampNeg x2).1 34 27).toNatClampNeg x3).1 34 27).toNatClampNeg x4).1 34 27) + 1))) else none else none else none else none)
set_option maxRecDepth 100000 in
set_option maxHeartbeats 4000000 in
theorem tjX8_reading_43 (l : Launch) {x1 : Int32} {x2 : Int32} {x3 : Int32} {x4 : Int32} {M : ow_M} {r : Int32} {M9 : ow_M}  (h : jX8_reading_43 x1 x2 x3 x4 M = some (r, M9)) : ow_G (ow_Γ l 2 (some .int) (ow_is (some (.int r)) M9)) RX8 cX8_reading 5 43 [some (.ref 34), some (.int x1), some (.int x2), some (.int x3), some (.int x4)] [] M := by
  unfold jX8_reading_43 at h
  refine gw_aload0 dX8_reading_43 ?_
  refine gw_getI dX8_reading_44 fkX8_127 rfl rfl ?_
  refine gw_bipush 8 dX8_reading_47 (by decide) ?_
  refine gw_icmp_ne (tgt := 55) dX8_reading_49 rfl (fun h13 => ?_) (fun h13 => ?_)
  · replace h := (if_neg h13).symm.trans h
    refine gw_aload0 dX8_reading_55 ?_
    refine gw_getR dX8_reading_56 fkX8_64 rfl rfl ?_
    refine gw_aload0 dX8_reading_59 ?_
    refine gw_getI dX8_reading_60 fkX8_127 rfl rfl ?_
    refine gw_iload1 dX8_reading_63 ?_
    by_cases h14 : ow_inn (M.1 34 27) 8
    rotate_left
    · replace h := (if_neg h14).symm.trans h
      cases h
    replace h := (if_pos h14).symm.trans h
    refine gw_iast dX8_reading_64 rfl h14 ?_
    refine gw_aload0 dX8_reading_65 ?_
    refine gw_getR dX8_reading_66 fkX8_67 rfl rfl ?_
    refine gw_aload0 dX8_reading_69 ?_
    refine gw_getI dX8_reading_70 fkX8_127 rfl rfl ?_
    refine gw_iload2 dX8_reading_73 ?_
    by_cases h15 : ow_inn ((ow_up M 53 (M.1 34 27).toNatClampNeg x1).1 34 27) 8
    rotate_left
    · replace h := (if_neg h15).symm.trans h
      cases h
    replace h := (if_pos h15).symm.trans h
    refine gw_iast dX8_reading_74 rfl h15 ?_
    refine gw_aload0 dX8_reading_75 ?_
    refine gw_getR dX8_reading_76 fkX8_70 rfl rfl ?_
    refine gw_aload0 dX8_reading_79 ?_
    refine gw_getI dX8_reading_80 fkX8_127 rfl rfl ?_
    refine gw_iload3 dX8_reading_83 ?_
    by_cases h16 : ow_inn ((ow_up (ow_up M 53 (M.1 34 27).toNatClampNeg x1) 54 ((ow_up M 53 (M.1 34 27).toNatClampNeg x1).1 34 27).toNatClampNeg x2).1 34 27) 8
    rotate_left
    · replace h := (if_neg h16).symm.trans h
      cases h
    replace h := (if_pos h16).symm.trans h
    refine gw_iast dX8_reading_84 rfl h16 ?_
    refine gw_aload0 dX8_reading_85 ?_
    refine gw_getR dX8_reading_86 fkX8_73 rfl rfl ?_
    refine gw_aload0 dX8_reading_89 ?_
    refine gw_getI dX8_reading_90 fkX8_127 rfl rfl ?_
    refine gw_iload4 dX8_reading_93 ?_
    by_cases h17 : ow_inn ((ow_up (ow_up (ow_up M 53 (M.1 34 27).toNatClampNeg x1) 54 ((ow_up M 53 (M.1 34 27).toNatClampNeg x1).1 34 27).toNatClampNeg x2) 55 ((ow_up (ow_up M 53 (M.1 34 27).toNatClampNeg x1) 54 ((ow_up M 53 (M.1 34 27).toNatClampNeg x1).1 34 27).toNatClampNeg x2).1 34 27).toNatClampNeg x3).1 34 27) 8
    rotate_left
    · replace h := (if_neg h17).symm.trans h
      cases h
    replace h := (if_pos h17).symm.trans h
    refine gw_iast dX8_reading_95 rfl h17 ?_
    refine gw_aload0 dX8_reading_96 ?_
    refine gw_dup rfl dX8_reading_97 ?_
    refine gw_getI dX8_reading_98 fkX8_127 rfl rfl ?_
    refine gw_ic1 dX8_reading_101 ?_
    refine gw_iadd dX8_reading_102 ?_
    refine gw_putI dX8_reading_103 fkX8_127 fp8_27 rfl rfl ?_
    refine gw_aload0 dX8_reading_106 ?_
    refine gw_getI dX8_reading_107 fkX8_127 rfl rfl ?_
    refine gw_ic1 dX8_reading_110 ?_
    refine gw_isub dX8_reading_111 ?_
    obtain ⟨hA, hB⟩ := Prod.mk.inj (Option.some.inj h)
    subst hA
    subst hB
    exact gw_iret dX8_reading_112 ⟨rfl, rfl⟩
  · replace h := (if_pos h13).symm.trans h
    refine gw_bipush (-4) dX8_reading_52 (by decide) ?_
    obtain ⟨hA, hB⟩ := Prod.mk.inj (Option.some.inj h)
    subst hA
    subst hB
    exact gw_iret dX8_reading_54 ⟨rfl, rfl⟩

def fX8_reading (x1 : Int32) (x2 : Int32) (x3 : Int32) (x4 : Int32) (M : ow_M) : Option (Int32 × ow_M) := Option.bind (fX8_isPerson x1 M) (fun v2 => (if v2 = 0 then some ((-1), M) else Option.bind (fX8_isPerson x3 M) (fun v5 => (if v5 = 0 then some ((-1), M) else Option.bind (fX8_isNumber x2) (fun v8 => (if v8 = 0 then some ((-2), M) else Option.bind (fX8_isNumber x4) (fun v11 => (if v11 = 0 then (if x4 = (-9) then jX8_reading_43 x1 x2 x3 x4 M else some ((-2), M)) else jX8_reading_43 x1 x2 x3 x4 M))))))))
set_option maxRecDepth 100000 in
set_option maxHeartbeats 4000000 in
theorem ctX8_reading (l : Launch) {x1 : Int32} {x2 : Int32} {x3 : Int32} {x4 : Int32} {M : ow_M} {r : Int32} {M9 : ow_M}  (h : fX8_reading x1 x2 x3 x4 M = some (r, M9)) : ow_F l 2 yX8_reading cX8_reading 5 (some .int) [.ref 34, .int x1, .int x2, .int x3, .int x4] M (some (.int r)) M9 := by
  unfold fX8_reading at h
  refine ow_enterO (own := RX8) rfl (by decide +kernel) rfl (ls := [some (.ref 34), some (.int x1), some (.int x2), some (.int x3), some (.int x4)]) rfl ?_
  refine gw_aload0 dX8_reading_0 ?_
  refine gw_iload1 dX8_reading_1 ?_
  obtain ⟨v2, hc1, h⟩ := ow_b_some h
  refine gw_cVI1 dX8_reading_2 lkX8_138 mkX8_isPerson (ow_rm_in rfl rfl) rfl rfl (ctX8_isPerson l hc1) rfl ?_
  refine gw_if_eq (tgt := 16) dX8_reading_5 rfl (fun h3 => ?_) (fun h3 => ?_)
  · replace h := (if_pos h3).symm.trans h
    refine gw_icm1 dX8_reading_16 ?_
    obtain ⟨hA, hB⟩ := Prod.mk.inj (Option.some.inj h)
    subst hA
    subst hB
    exact gw_iret dX8_reading_17 ⟨rfl, rfl⟩
  · replace h := (if_neg h3).symm.trans h
    refine gw_aload0 dX8_reading_8 ?_
    refine gw_iload3 dX8_reading_9 ?_
    obtain ⟨v5, hc4, h⟩ := ow_b_some h
    refine gw_cVI1 dX8_reading_10 lkX8_138 mkX8_isPerson (ow_rm_in rfl rfl) rfl rfl (ctX8_isPerson l hc4) rfl ?_
    refine gw_if_ne (tgt := 18) dX8_reading_13 rfl (fun h6 => ?_) (fun h6 => ?_)
    · replace h := (if_neg h6).symm.trans h
      refine gw_iload2 dX8_reading_18 ?_
      obtain ⟨v8, hc7, h⟩ := ow_b_some h
      refine gw_cSI1 dX8_reading_19 lkX8_161 mkX8_isNumber (ow_rm_in rfl rfl) (ctX8_isNumber l hc7) rfl ?_
      refine gw_if_eq (tgt := 40) dX8_reading_22 rfl (fun h9 => ?_) (fun h9 => ?_)
      · replace h := (if_pos h9).symm.trans h
        refine gw_bipush (-2) dX8_reading_40 (by decide) ?_
        obtain ⟨hA, hB⟩ := Prod.mk.inj (Option.some.inj h)
        subst hA
        subst hB
        exact gw_iret dX8_reading_42 ⟨rfl, rfl⟩
      · replace h := (if_neg h9).symm.trans h
        refine gw_iload4 dX8_reading_25 ?_
        obtain ⟨v11, hc10, h⟩ := ow_b_some h
        refine gw_cSI1 dX8_reading_27 lkX8_161 mkX8_isNumber (ow_rm_in rfl rfl) (ctX8_isNumber l hc10) rfl ?_
        refine gw_if_ne (tgt := 43) dX8_reading_30 rfl (fun h12 => ?_) (fun h12 => ?_)
        · replace h := (if_neg h12).symm.trans h
          exact tjX8_reading_43 l h
        · replace h := (if_pos h12).symm.trans h
          refine gw_iload4 dX8_reading_33 ?_
          refine gw_bipush (-9) dX8_reading_35 (by decide) ?_
          refine gw_icmp_eq (tgt := 43) dX8_reading_37 rfl (fun h18 => ?_) (fun h18 => ?_)
          · replace h := (if_pos h18).symm.trans h
            exact tjX8_reading_43 l h
          · replace h := (if_neg h18).symm.trans h
            refine gw_bipush (-2) dX8_reading_40 (by decide) ?_
            obtain ⟨hA, hB⟩ := Prod.mk.inj (Option.some.inj h)
            subst hA
            subst hB
            exact gw_iret dX8_reading_42 ⟨rfl, rfl⟩
    · replace h := (if_pos h6).symm.trans h
      refine gw_icm1 dX8_reading_16 ?_
      obtain ⟨hA, hB⟩ := Prod.mk.inj (Option.some.inj h)
      subst hA
      subst hB
      exact gw_iret dX8_reading_17 ⟨rfl, rfl⟩

def fX8_back (x1 : Int32) (M : ow_M) : Option (Int32 × ow_M) := Option.bind (fX8_within x1 0 (M.1 34 27)) (fun v2 => (if v2 = 0 then some ((-2), M) else some (((ow_up M 34 27 ((M.1 34 27) - x1)).1 34 27), (ow_up M 34 27 ((M.1 34 27) - x1)))))
set_option maxRecDepth 100000 in
set_option maxHeartbeats 4000000 in
theorem ctX8_back (l : Launch) {x1 : Int32} {M : ow_M} {r : Int32} {M9 : ow_M}  (h : fX8_back x1 M = some (r, M9)) : ow_F l 1 yX8_back cX8_back 2 (some .int) [.ref 34, .int x1] M (some (.int r)) M9 := by
  unfold fX8_back at h
  refine ow_enterO (own := RX8) rfl (by decide +kernel) rfl (ls := [some (.ref 34), some (.int x1)]) rfl ?_
  refine gw_iload1 dX8_back_0 ?_
  refine gw_ic0 dX8_back_1 ?_
  refine gw_aload0 dX8_back_2 ?_
  refine gw_getI dX8_back_3 fkX8_127 rfl rfl ?_
  obtain ⟨v2, hc1, h⟩ := ow_b_some h
  refine gw_cSI3 dX8_back_6 lkX8_82 mkX8_within (ow_rm_in rfl rfl) (ctX8_within l hc1) rfl ?_
  refine gw_if_ne (tgt := 15) dX8_back_9 rfl (fun h3 => ?_) (fun h3 => ?_)
  · replace h := (if_neg h3).symm.trans h
    refine gw_aload0 dX8_back_15 ?_
    refine gw_dup rfl dX8_back_16 ?_
    refine gw_getI dX8_back_17 fkX8_127 rfl rfl ?_
    refine gw_iload1 dX8_back_20 ?_
    refine gw_isub dX8_back_21 ?_
    refine gw_putI dX8_back_22 fkX8_127 fp8_27 rfl rfl ?_
    refine gw_aload0 dX8_back_25 ?_
    refine gw_getI dX8_back_26 fkX8_127 rfl rfl ?_
    obtain ⟨hA, hB⟩ := Prod.mk.inj (Option.some.inj h)
    subst hA
    subst hB
    exact gw_iret dX8_back_29 ⟨rfl, rfl⟩
  · replace h := (if_pos h3).symm.trans h
    refine gw_bipush (-2) dX8_back_12 (by decide) ?_
    obtain ⟨hA, hB⟩ := Prod.mk.inj (Option.some.inj h)
    subst hA
    subst hB
    exact gw_iret dX8_back_14 ⟨rfl, rfl⟩

def jX8_areSo_55 (x1 : Int32) (s0 : Int32) (kb : Int32 → ow_M → Option (Int32 × ow_M)) (k : Int32 → ow_M → Option (Int32 × ow_M)) (M : ow_M) : Option (Int32 × ow_M) := if ow_inn x1 8 then (if s0 = (M.1 56 x1.toNatClampNeg) then kb (x1 + 1) M else some (0, M)) else none
set_option maxRecDepth 100000 in
set_option maxHeartbeats 4000000 in
theorem tjX8_areSo_55 (l : Launch) {x1 : Int32} {s0 : Int32} {kb : Int32 → ow_M → Option (Int32 × ow_M)} {k : Int32 → ow_M → Option (Int32 × ow_M)} {M : ow_M} {r : Int32} {M9 : ow_M}  (hkb : ∀ (z1 : Int32) (Mz : ow_M), kb z1 Mz = some (r, M9) → ow_G (ow_Γ l 3 (some .boolean) (ow_is (some (.int r)) M9)) RX8 cX8_areSo 4 2 [some (.ref 34), some (.int z1), none, none] [] Mz) (hk : ∀ (z1 : Int32) (Mz : ow_M), k z1 Mz = some (r, M9) → ow_G (ow_Γ l 3 (some .boolean) (ow_is (some (.int r)) M9)) RX8 cX8_areSo 4 74 [some (.ref 34), some (.int z1), none, none] [] Mz) (h : jX8_areSo_55 x1 s0 kb k M = some (r, M9)) : ow_G (ow_Γ l 3 (some .boolean) (ow_is (some (.int r)) M9)) RX8 cX8_areSo 4 55 [some (.ref 34), some (.int x1), none, none] [.int s0] M := by
  unfold jX8_areSo_55 at h
  refine gw_istore3 dX8_areSo_55 (by decide) rfl ?_
  refine gw_iload3 dX8_areSo_56 ?_
  refine gw_aload0 dX8_areSo_57 ?_
  refine gw_getR dX8_areSo_58 fkX8_73 rfl rfl ?_
  refine gw_iload1 dX8_areSo_61 ?_
  by_cases h11 : ow_inn x1 8
  rotate_left
  · replace h := (if_neg h11).symm.trans h
    cases h
  replace h := (if_pos h11).symm.trans h
  refine gw_iald dX8_areSo_62 rfl h11 ?_
  refine gw_icmp_eq (tgt := 68) dX8_areSo_63 rfl (fun h12 => ?_) (fun h12 => ?_)
  · replace h := (if_pos h12).symm.trans h
    refine gw_iinc1 1 dX8_areSo_68 (by decide) rfl (by decide) ?_
    refine gw_goto (tgt := 2) rfl dX8_areSo_71 ?_
    refine gw_drp3 ?_
    exact hkb _ _ h
  · replace h := (if_neg h12).symm.trans h
    refine gw_ic0 dX8_areSo_66 ?_
    obtain ⟨hA, hB⟩ := Prod.mk.inj (Option.some.inj h)
    subst hA
    subst hB
    exact gw_zret (Or.inl rfl) dX8_areSo_67 ⟨rfl, rfl⟩

def lpX8_areSo_2  (k : Int32 → ow_M → Option (Int32 × ow_M)) : Nat → Int32 → ow_M → Option (Int32 × ow_M)
  | 0, _, _ => none
  | n + 1, x1, M => (if (M.1 34 27) ≤ x1 then k x1 M else if ow_inn x1 8 then if ow_inn x1 8 then Option.bind (fX8_spread (M.1 53 x1.toNatClampNeg) (M.1 54 x1.toNatClampNeg) M) (fun M6 => if ow_inn x1 8 then if ow_inn (M6.1 55 x1.toNatClampNeg) 7 then (if (M6.1 47 (M6.1 55 x1.toNatClampNeg).toNatClampNeg) = (-9) then jX8_areSo_55 x1 (-9) (lpX8_areSo_2  k n) k M6 else if ow_inn (M6.1 55 x1.toNatClampNeg) 7 then jX8_areSo_55 x1 (M6.1 46 (M6.1 55 x1.toNatClampNeg).toNatClampNeg) (lpX8_areSo_2  k n) k M6 else none) else none else none) else none else none)
set_option maxRecDepth 100000 in
set_option maxHeartbeats 4000000 in
theorem tlpX8_areSo_2 (l : Launch)  {k : Int32 → ow_M → Option (Int32 × ow_M)} {r : Int32} {M9 : ow_M}  (hk : ∀ (x1 : Int32) (M : ow_M), k x1 M = some (r, M9) → ow_G (ow_Γ l 3 (some .boolean) (ow_is (some (.int r)) M9)) RX8 cX8_areSo 4 74 [some (.ref 34), some (.int x1), none, none] [] M) : ∀ (n : Nat) (x1 : Int32) (M : ow_M), lpX8_areSo_2  k n x1 M = some (r, M9) → ow_G (ow_Γ l 3 (some .boolean) (ow_is (some (.int r)) M9)) RX8 cX8_areSo 4 2 [some (.ref 34), some (.int x1), none, none] [] M := by
  intro n
  induction n with
  | zero => intro _ _ h; cases h
  | succ n ih =>
    intro x1 M h
    unfold lpX8_areSo_2 at h
    refine gw_iload1 dX8_areSo_2 ?_
    refine gw_aload0 dX8_areSo_3 ?_
    refine gw_getI dX8_areSo_4 fkX8_127 rfl rfl ?_
    refine gw_icmp_ge (tgt := 74) dX8_areSo_7 rfl (fun h1 => ?_) (fun h1 => ?_)
    · replace h := (if_pos h1).symm.trans h
      exact hk _ _ h
    · replace h := (if_neg h1).symm.trans h
      refine gw_aload0 dX8_areSo_10 ?_
      refine gw_aload0 dX8_areSo_11 ?_
      refine gw_getR dX8_areSo_12 fkX8_64 rfl rfl ?_
      refine gw_iload1 dX8_areSo_15 ?_
      by_cases h2 : ow_inn x1 8
      rotate_left
      · replace h := (if_neg h2).symm.trans h
        cases h
      replace h := (if_pos h2).symm.trans h
      refine gw_iald dX8_areSo_16 rfl h2 ?_
      refine gw_aload0 dX8_areSo_17 ?_
      refine gw_getR dX8_areSo_18 fkX8_67 rfl rfl ?_
      refine gw_iload1 dX8_areSo_21 ?_
      by_cases h3 : ow_inn x1 8
      rotate_left
      · replace h := (if_neg h3).symm.trans h
        cases h
      replace h := (if_pos h3).symm.trans h
      refine gw_iald dX8_areSo_22 rfl h3 ?_
      obtain ⟨M6, hc4, h⟩ := ow_b_some h
      refine gw_cVV2 dX8_areSo_23 lkX8_164 mkX8_spread (ow_rm_in rfl rfl) rfl rfl (ctX8_spread l hc4) rfl ?_
      refine gw_aload0 dX8_areSo_26 ?_
      refine gw_getR dX8_areSo_27 fkX8_70 rfl rfl ?_
      refine gw_iload1 dX8_areSo_30 ?_
      by_cases h7 : ow_inn x1 8
      rotate_left
      · replace h := (if_neg h7).symm.trans h
        cases h
      replace h := (if_pos h7).symm.trans h
      refine gw_iald dX8_areSo_31 rfl h7 ?_
      refine gw_istore2 dX8_areSo_32 (by decide) rfl ?_
      refine gw_aload0 dX8_areSo_33 ?_
      refine gw_getR dX8_areSo_34 fkX8_46 rfl rfl ?_
      refine gw_iload2 dX8_areSo_37 ?_
      by_cases h8 : ow_inn (M6.1 55 x1.toNatClampNeg) 7
      rotate_left
      · replace h := (if_neg h8).symm.trans h
        cases h
      replace h := (if_pos h8).symm.trans h
      refine gw_iald dX8_areSo_38 rfl h8 ?_
      refine gw_bipush (-9) dX8_areSo_39 (by decide) ?_
      refine gw_icmp_ne (tgt := 49) dX8_areSo_41 rfl (fun h9 => ?_) (fun h9 => ?_)
      · replace h := (if_neg h9).symm.trans h
        refine gw_aload0 dX8_areSo_49 ?_
        refine gw_getR dX8_areSo_50 fkX8_43 rfl rfl ?_
        refine gw_iload2 dX8_areSo_53 ?_
        by_cases h10 : ow_inn (M6.1 55 x1.toNatClampNeg) 7
        rotate_left
        · replace h := (if_neg h10).symm.trans h
          cases h
        replace h := (if_pos h10).symm.trans h
        refine gw_iald dX8_areSo_54 rfl h10 ?_
        refine gw_drp2 ?_
        exact tjX8_areSo_55 l ih hk h
      · replace h := (if_pos h9).symm.trans h
        refine gw_bipush (-9) dX8_areSo_44 (by decide) ?_
        refine gw_goto (tgt := 55) rfl dX8_areSo_46 ?_
        refine gw_drp2 ?_
        exact tjX8_areSo_55 l ih hk h

def fX8_areSo  (M : ow_M) : Option (Int32 × ow_M) := lpX8_areSo_2 (fun u13 M14 => some (1, M14)) ow_N 0 M
set_option maxRecDepth 100000 in
set_option maxHeartbeats 4000000 in
theorem ctX8_areSo (l : Launch)  {M : ow_M} {r : Int32} {M9 : ow_M}  (h : fX8_areSo M = some (r, M9)) : ow_F l 3 yX8_areSo cX8_areSo 4 (some .boolean) [.ref 34] M (some (.int r)) M9 := by
  unfold fX8_areSo at h
  refine ow_enterO (own := RX8) rfl (by decide +kernel) rfl (ls := [some (.ref 34), none, none, none]) rfl ?_
  refine gw_ic0 dX8_areSo_0 ?_
  refine gw_istore1 dX8_areSo_1 (by decide) rfl ?_
  refine tlpX8_areSo_2 l ?_ _ _ _ h
  intro u13 M14 h
  refine gw_ic1 dX8_areSo_74 ?_
  obtain ⟨hA, hB⟩ := Prod.mk.inj (Option.some.inj h)
  subst hA
  subst hB
  exact gw_zret (Or.inr rfl) dX8_areSo_75 ⟨rfl, rfl⟩

def lpX8_kinds_22 (x1 : Int32) (x2 : Int32) (k : Int32 → Int32 → ow_M → Option (Int32 × ow_M)) : Nat → Int32 → Int32 → ow_M → Option (Int32 × ow_M)
  | 0, _, _, _ => none
  | n + 1, x3, x4, M => (if 3 ≤ x4 then k x3 x4 M else if ow_inn x1 7 then ow_bd (fX8_areSo (ow_up M 38 x1.toNatClampNeg x4)) (fun v8 M9 => (if v8 = 0 then lpX8_kinds_22 x1 x2 k n (x3 ||| 0) (x4 + 1) M9 else lpX8_kinds_22 x1 x2 k n (x3 ||| (1 <<< (x4 &&& 31))) (x4 + 1) M9)) else none)
set_option maxRecDepth 100000 in
set_option maxHeartbeats 4000000 in
theorem tlpX8_kinds_22 (l : Launch) {x1 : Int32} {x2 : Int32} {k : Int32 → Int32 → ow_M → Option (Int32 × ow_M)} {r : Int32} {M9 : ow_M}  (hk : ∀ (x3 : Int32) (x4 : Int32) (M : ow_M), k x3 x4 M = some (r, M9) → ow_G (ow_Γ l 4 (some .int) (ow_is (some (.int r)) M9)) RX8 cX8_kinds 5 60 [some (.ref 34), some (.int x1), some (.int x2), some (.int x3), some (.int x4)] [] M) : ∀ (n : Nat) (x3 : Int32) (x4 : Int32) (M : ow_M), lpX8_kinds_22 x1 x2 k n x3 x4 M = some (r, M9) → ow_G (ow_Γ l 4 (some .int) (ow_is (some (.int r)) M9)) RX8 cX8_kinds 5 22 [some (.ref 34), some (.int x1), some (.int x2), some (.int x3), some (.int x4)] [] M := by
  intro n
  induction n with
  | zero => intro _ _ _ h; cases h
  | succ n ih =>
    intro x3 x4 M h
    unfold lpX8_kinds_22 at h
    refine gw_iload4 dX8_kinds_22 ?_
    refine gw_ic3 dX8_kinds_24 ?_
    refine gw_icmp_ge (tgt := 60) dX8_kinds_25 rfl (fun h5 => ?_) (fun h5 => ?_)
    · replace h := (if_pos h5).symm.trans h
      exact hk _ _ _ h
    · replace h := (if_neg h5).symm.trans h
      refine gw_aload0 dX8_kinds_28 ?_
      refine gw_getR dX8_kinds_29 fkX8_19 rfl rfl ?_
      refine gw_iload1 dX8_kinds_32 ?_
      refine gw_iload4 dX8_kinds_33 ?_
      by_cases h6 : ow_inn x1 7
      rotate_left
      · replace h := (if_neg h6).symm.trans h
        cases h
      replace h := (if_pos h6).symm.trans h
      refine gw_iast dX8_kinds_35 rfl h6 ?_
      refine gw_iload3 dX8_kinds_36 ?_
      refine gw_aload0 dX8_kinds_37 ?_
      obtain ⟨v8, M9, hc7, h⟩ := ow_bd_some h
      refine gw_cVI0 dX8_kinds_38 lkX8_221 mkX8_areSo (ow_rm_in rfl rfl) rfl rfl (ctX8_areSo l hc7) rfl ?_
      refine gw_if_eq (tgt := 51) dX8_kinds_41 rfl (fun h10 => ?_) (fun h10 => ?_)
      · replace h := (if_pos h10).symm.trans h
        refine gw_ic0 dX8_kinds_51 ?_
        refine gw_ior dX8_kinds_52 ?_
        refine gw_istore3 dX8_kinds_53 (by decide) rfl ?_
        refine gw_iinc4 1 dX8_kinds_54 (by decide) rfl (by decide) ?_
        refine gw_goto (tgt := 22) rfl dX8_kinds_57 ?_
        exact ih _ _ _ h
      · replace h := (if_neg h10).symm.trans h
        refine gw_ic1 dX8_kinds_44 ?_
        refine gw_iload4 dX8_kinds_45 ?_
        refine gw_ishl dX8_kinds_47 ?_
        refine gw_goto (tgt := 52) rfl dX8_kinds_48 ?_
        refine gw_ior dX8_kinds_52 ?_
        refine gw_istore3 dX8_kinds_53 (by decide) rfl ?_
        refine gw_iinc4 1 dX8_kinds_54 (by decide) rfl (by decide) ?_
        refine gw_goto (tgt := 22) rfl dX8_kinds_57 ?_
        exact ih _ _ _ h

def fX8_kinds (x1 : Int32) (M : ow_M) : Option (Int32 × ow_M) := Option.bind (fX8_isPerson x1 M) (fun v2 => (if v2 = 0 then some ((-1), M) else if ow_inn x1 7 then lpX8_kinds_22 x1 (M.1 38 x1.toNatClampNeg) (fun u11 u12 M13 => if ow_inn x1 7 then some (u11, (ow_up M13 38 x1.toNatClampNeg (M.1 38 x1.toNatClampNeg))) else none) ow_N 0 0 M else none))
set_option maxRecDepth 100000 in
set_option maxHeartbeats 4000000 in
theorem ctX8_kinds (l : Launch) {x1 : Int32} {M : ow_M} {r : Int32} {M9 : ow_M}  (h : fX8_kinds x1 M = some (r, M9)) : ow_F l 4 yX8_kinds cX8_kinds 5 (some .int) [.ref 34, .int x1] M (some (.int r)) M9 := by
  unfold fX8_kinds at h
  refine ow_enterO (own := RX8) rfl (by decide +kernel) rfl (ls := [some (.ref 34), some (.int x1), none, none, none]) rfl ?_
  refine gw_aload0 dX8_kinds_0 ?_
  refine gw_iload1 dX8_kinds_1 ?_
  obtain ⟨v2, hc1, h⟩ := ow_b_some h
  refine gw_cVI1 dX8_kinds_2 lkX8_138 mkX8_isPerson (ow_rm_in rfl rfl) rfl rfl (ctX8_isPerson l hc1) rfl ?_
  refine gw_if_ne (tgt := 10) dX8_kinds_5 rfl (fun h3 => ?_) (fun h3 => ?_)
  · replace h := (if_neg h3).symm.trans h
    refine gw_aload0 dX8_kinds_10 ?_
    refine gw_getR dX8_kinds_11 fkX8_19 rfl rfl ?_
    refine gw_iload1 dX8_kinds_14 ?_
    by_cases h4 : ow_inn x1 7
    rotate_left
    · replace h := (if_neg h4).symm.trans h
      cases h
    replace h := (if_pos h4).symm.trans h
    refine gw_iald dX8_kinds_15 rfl h4 ?_
    refine gw_istore2 dX8_kinds_16 (by decide) rfl ?_
    refine gw_ic0 dX8_kinds_17 ?_
    refine gw_istore3 dX8_kinds_18 (by decide) rfl ?_
    refine gw_ic0 dX8_kinds_19 ?_
    refine gw_istore4 dX8_kinds_20 (by decide) rfl ?_
    refine tlpX8_kinds_22 l ?_ _ _ _ _ h
    intro u11 u12 M13 h
    refine gw_aload0 dX8_kinds_60 ?_
    refine gw_getR dX8_kinds_61 fkX8_19 rfl rfl ?_
    refine gw_iload1 dX8_kinds_64 ?_
    refine gw_iload2 dX8_kinds_65 ?_
    by_cases h14 : ow_inn x1 7
    rotate_left
    · replace h := (if_neg h14).symm.trans h
      cases h
    replace h := (if_pos h14).symm.trans h
    refine gw_iast dX8_kinds_66 rfl h14 ?_
    refine gw_iload3 dX8_kinds_67 ?_
    obtain ⟨hA, hB⟩ := Prod.mk.inj (Option.some.inj h)
    subst hA
    subst hB
    exact gw_iret dX8_kinds_68 ⟨rfl, rfl⟩
  · replace h := (if_pos h3).symm.trans h
    refine gw_icm1 dX8_kinds_8 ?_
    obtain ⟨hA, hB⟩ := Prod.mk.inj (Option.some.inj h)
    subst hA
    subst hB
    exact gw_iret dX8_kinds_9 ⟨rfl, rfl⟩

def lpX8_walls_19 (x1 : Int32) (k : Int32 → Int32 → ow_M → Option (Int32 × ow_M)) : Nat → Int32 → Int32 → ow_M → Option (Int32 × ow_M)
  | 0, _, _, _ => none
  | n + 1, x2, x3, M => Option.bind (fX8_edges M) (fun v3 => (if v3 ≤ x3 then k x2 x3 M else ow_bd (fX8_areSo (ow_up M 34 7 (x1 ||| (1 <<< (x3 &&& 31))))) (fun v6 M7 => (if v6 = 0 then lpX8_walls_19 x1 k n (x2 ||| 0) (x3 + 1) M7 else lpX8_walls_19 x1 k n (x2 ||| (1 <<< (x3 &&& 31))) (x3 + 1) M7))))
set_option maxRecDepth 100000 in
set_option maxHeartbeats 4000000 in
theorem tlpX8_walls_19 (l : Launch) {x1 : Int32} {k : Int32 → Int32 → ow_M → Option (Int32 × ow_M)} {r : Int32} {M9 : ow_M}  (hk : ∀ (x2 : Int32) (x3 : Int32) (M : ow_M), k x2 x3 M = some (r, M9) → ow_G (ow_Γ l 4 (some .int) (ow_is (some (.int r)) M9)) RX8 cX8_walls 4 59 [some (.ref 34), some (.int x1), some (.int x2), some (.int x3)] [] M) : ∀ (n : Nat) (x2 : Int32) (x3 : Int32) (M : ow_M), lpX8_walls_19 x1 k n x2 x3 M = some (r, M9) → ow_G (ow_Γ l 4 (some .int) (ow_is (some (.int r)) M9)) RX8 cX8_walls 4 19 [some (.ref 34), some (.int x1), some (.int x2), some (.int x3)] [] M := by
  intro n
  induction n with
  | zero => intro _ _ _ h; cases h
  | succ n ih =>
    intro x2 x3 M h
    unfold lpX8_walls_19 at h
    refine gw_iload3 dX8_walls_19 ?_
    refine gw_aload0 dX8_walls_20 ?_
    obtain ⟨v3, hc2, h⟩ := ow_b_some h
    refine gw_cVI0 dX8_walls_21 lkX8_93 mkX8_edges (ow_rm_in rfl rfl) rfl rfl (ctX8_edges l hc2) rfl ?_
    refine gw_icmp_ge (tgt := 59) dX8_walls_24 rfl (fun h4 => ?_) (fun h4 => ?_)
    · replace h := (if_pos h4).symm.trans h
      exact hk _ _ _ h
    · replace h := (if_neg h4).symm.trans h
      refine gw_aload0 dX8_walls_27 ?_
      refine gw_iload1 dX8_walls_28 ?_
      refine gw_ic1 dX8_walls_29 ?_
      refine gw_iload3 dX8_walls_30 ?_
      refine gw_ishl dX8_walls_31 ?_
      refine gw_ior dX8_walls_32 ?_
      refine gw_putI dX8_walls_33 fkX8_97 fp8_7 rfl rfl ?_
      refine gw_iload2 dX8_walls_36 ?_
      refine gw_aload0 dX8_walls_37 ?_
      obtain ⟨v6, M7, hc5, h⟩ := ow_bd_some h
      refine gw_cVI0 dX8_walls_38 lkX8_221 mkX8_areSo (ow_rm_in rfl rfl) rfl rfl (ctX8_areSo l hc5) rfl ?_
      refine gw_if_eq (tgt := 50) dX8_walls_41 rfl (fun h8 => ?_) (fun h8 => ?_)
      · replace h := (if_pos h8).symm.trans h
        refine gw_ic0 dX8_walls_50 ?_
        refine gw_ior dX8_walls_51 ?_
        refine gw_istore2 dX8_walls_52 (by decide) rfl ?_
        refine gw_iinc3 1 dX8_walls_53 (by decide) rfl (by decide) ?_
        refine gw_goto (tgt := 19) rfl dX8_walls_56 ?_
        exact ih _ _ _ h
      · replace h := (if_neg h8).symm.trans h
        refine gw_ic1 dX8_walls_44 ?_
        refine gw_iload3 dX8_walls_45 ?_
        refine gw_ishl dX8_walls_46 ?_
        refine gw_goto (tgt := 51) rfl dX8_walls_47 ?_
        refine gw_ior dX8_walls_51 ?_
        refine gw_istore2 dX8_walls_52 (by decide) rfl ?_
        refine gw_iinc3 1 dX8_walls_53 (by decide) rfl (by decide) ?_
        refine gw_goto (tgt := 19) rfl dX8_walls_56 ?_
        exact ih _ _ _ h

def fX8_walls  (M : ow_M) : Option (Int32 × ow_M) := (if (M.1 34 5) = 0 then some ((-3), M) else lpX8_walls_19 (M.1 34 7) (fun u9 u10 M11 => some (u9, (ow_up M11 34 7 (M.1 34 7)))) ow_N 0 0 M)
set_option maxRecDepth 100000 in
set_option maxHeartbeats 4000000 in
theorem ctX8_walls (l : Launch)  {M : ow_M} {r : Int32} {M9 : ow_M}  (h : fX8_walls M = some (r, M9)) : ow_F l 4 yX8_walls cX8_walls 4 (some .int) [.ref 34] M (some (.int r)) M9 := by
  unfold fX8_walls at h
  refine ow_enterO (own := RX8) rfl (by decide +kernel) rfl (ls := [some (.ref 34), none, none, none]) rfl ?_
  refine gw_aload0 dX8_walls_0 ?_
  refine gw_getI dX8_walls_1 fkX8_86 rfl rfl ?_
  refine gw_if_ne (tgt := 10) dX8_walls_4 rfl (fun h1 => ?_) (fun h1 => ?_)
  · replace h := (if_neg h1).symm.trans h
    refine gw_aload0 dX8_walls_10 ?_
    refine gw_getI dX8_walls_11 fkX8_97 rfl rfl ?_
    refine gw_istore1 dX8_walls_14 (by decide) rfl ?_
    refine gw_ic0 dX8_walls_15 ?_
    refine gw_istore2 dX8_walls_16 (by decide) rfl ?_
    refine gw_ic0 dX8_walls_17 ?_
    refine gw_istore3 dX8_walls_18 (by decide) rfl ?_
    refine tlpX8_walls_19 l ?_ _ _ _ _ h
    intro u9 u10 M11 h
    refine gw_aload0 dX8_walls_59 ?_
    refine gw_iload1 dX8_walls_60 ?_
    refine gw_putI dX8_walls_61 fkX8_97 fp8_7 rfl rfl ?_
    refine gw_iload2 dX8_walls_64 ?_
    obtain ⟨hA, hB⟩ := Prod.mk.inj (Option.some.inj h)
    subst hA
    subst hB
    exact gw_iret dX8_walls_65 ⟨rfl, rfl⟩
  · replace h := (if_pos h1).symm.trans h
    refine gw_bipush (-3) dX8_walls_7 (by decide) ?_
    obtain ⟨hA, hB⟩ := Prod.mk.inj (Option.some.inj h)
    subst hA
    subst hB
    exact gw_iret dX8_walls_9 ⟨rfl, rfl⟩

def lpX8_sheet_57 (x1 : Int32) (k : Int32 → ow_M → Option (Int32 × ow_M)) : Nat → Int32 → ow_M → Option (Int32 × ow_M)
  | 0, _, _ => none
  | n + 1, x4, M => (if 50 ≤ x4 then k x4 M else if ow_inn ((50 * x1) + x4) 200 then lpX8_sheet_57 x1 k n (x4 + 1) (ow_up M 37 ((50 * x1) + x4).toNatClampNeg 0) else none)
set_option maxRecDepth 100000 in
set_option maxHeartbeats 4000000 in
theorem tlpX8_sheet_57 (l : Launch) {x1 : Int32} {k : Int32 → ow_M → Option (Int32 × ow_M)} {r : Int32} {M9 : ow_M}  (hk : ∀ (x4 : Int32) (M : ow_M), k x4 M = some (r, M9) → ow_G (ow_Γ l 2 (some .int) (ow_is (some (.int r)) M9)) RX8 cX8_sheet 5 83 [some (.ref 34), some (.int x1), none, none, some (.int x4)] [] M) : ∀ (n : Nat) (x4 : Int32) (M : ow_M), lpX8_sheet_57 x1 k n x4 M = some (r, M9) → ow_G (ow_Γ l 2 (some .int) (ow_is (some (.int r)) M9)) RX8 cX8_sheet 5 57 [some (.ref 34), some (.int x1), none, none, some (.int x4)] [] M := by
  intro n
  induction n with
  | zero => intro _ _ h; cases h
  | succ n ih =>
    intro x4 M h
    unfold lpX8_sheet_57 at h
    refine gw_iload4 dX8_sheet_57 ?_
    refine gw_bipush 50 dX8_sheet_59 (by decide) ?_
    refine gw_icmp_ge (tgt := 83) dX8_sheet_61 rfl (fun h11 => ?_) (fun h11 => ?_)
    · replace h := (if_pos h11).symm.trans h
      exact hk _ _ h
    · replace h := (if_neg h11).symm.trans h
      refine gw_aload0 dX8_sheet_64 ?_
      refine gw_getR dX8_sheet_65 fkX8_16 rfl rfl ?_
      refine gw_bipush 50 dX8_sheet_68 (by decide) ?_
      refine gw_iload1 dX8_sheet_70 ?_
      refine gw_imul dX8_sheet_71 ?_
      refine gw_iload4 dX8_sheet_72 ?_
      refine gw_iadd dX8_sheet_74 ?_
      refine gw_ic0 dX8_sheet_75 ?_
      by_cases h12 : ow_inn ((50 * x1) + x4) 200
      rotate_left
      · replace h := (if_neg h12).symm.trans h
        cases h
      replace h := (if_pos h12).symm.trans h
      refine gw_iast dX8_sheet_76 rfl h12 ?_
      refine gw_iinc4 1 dX8_sheet_77 (by decide) rfl (by decide) ?_
      refine gw_goto (tgt := 57) rfl dX8_sheet_80 ?_
      exact ih _ _ h

def fX8_sheet (x1 : Int32) (x2 : Int32) (x3 : Int32) (M : ow_M) : Option (Int32 × ow_M) := Option.bind (fX8_isSheet x1) (fun v2 => (if v2 = 0 then some ((-1), (ow_up M 34 0 0)) else Option.bind (fX8_isSort x2) (fun v5 => (if v5 = 0 then some ((-2), (ow_up M 34 0 0)) else (if x3 ≤ 50 then (if 0 ≤ x3 then if ow_inn x1 4 then if ow_inn x1 4 then lpX8_sheet_57 x1 (fun u13 M14 => some (1, M14)) ow_N 0 (ow_up (ow_up (ow_up M 34 0 0) 35 x1.toNatClampNeg x2) 36 x1.toNatClampNeg x3) else none else none else ow_bd (fX8_fails 4 (ow_up M 34 0 0)) (fun v16 M17 => some (v16, M17))) else some ((-2), (ow_up M 34 0 0)))))))
set_option maxRecDepth 100000 in
set_option maxHeartbeats 4000000 in
theorem ctX8_sheet (l : Launch) {x1 : Int32} {x2 : Int32} {x3 : Int32} {M : ow_M} {r : Int32} {M9 : ow_M}  (h : fX8_sheet x1 x2 x3 M = some (r, M9)) : ow_F l 2 yX8_sheet cX8_sheet 5 (some .int) [.ref 34, .int x1, .int x2, .int x3] M (some (.int r)) M9 := by
  unfold fX8_sheet at h
  refine ow_enterO (own := RX8) rfl (by decide +kernel) rfl (ls := [some (.ref 34), some (.int x1), some (.int x2), some (.int x3), none]) rfl ?_
  refine gw_aload0 dX8_sheet_0 ?_
  refine gw_ic0 dX8_sheet_1 ?_
  refine gw_putI dX8_sheet_2 fkX8_76 fp8_0 rfl rfl ?_
  refine gw_iload1 dX8_sheet_5 ?_
  obtain ⟨v2, hc1, h⟩ := ow_b_some h
  refine gw_cSI1 dX8_sheet_6 lkX8_103 mkX8_isSheet (ow_rm_in rfl rfl) (ctX8_isSheet l hc1) rfl ?_
  refine gw_if_ne (tgt := 14) dX8_sheet_9 rfl (fun h3 => ?_) (fun h3 => ?_)
  · replace h := (if_neg h3).symm.trans h
    refine gw_iload2 dX8_sheet_14 ?_
    obtain ⟨v5, hc4, h⟩ := ow_b_some h
    refine gw_cSI1 dX8_sheet_15 lkX8_107 mkX8_isSort (ow_rm_in rfl rfl) (ctX8_isSort l hc4) rfl ?_
    refine gw_if_eq (tgt := 27) dX8_sheet_18 rfl (fun h6 => ?_) (fun h6 => ?_)
    · replace h := (if_pos h6).symm.trans h
      refine gw_bipush (-2) dX8_sheet_27 (by decide) ?_
      obtain ⟨hA, hB⟩ := Prod.mk.inj (Option.some.inj h)
      subst hA
      subst hB
      exact gw_iret dX8_sheet_29 ⟨rfl, rfl⟩
    · replace h := (if_neg h6).symm.trans h
      refine gw_iload3 dX8_sheet_21 ?_
      refine gw_bipush 50 dX8_sheet_22 (by decide) ?_
      refine gw_icmp_le (tgt := 30) dX8_sheet_24 rfl (fun h7 => ?_) (fun h7 => ?_)
      · replace h := (if_pos h7).symm.trans h
        refine gw_iload3 dX8_sheet_30 ?_
        refine gw_if_ge (tgt := 40) dX8_sheet_31 rfl (fun h8 => ?_) (fun h8 => ?_)
        · replace h := (if_pos h8).symm.trans h
          refine gw_aload0 dX8_sheet_40 ?_
          refine gw_getR dX8_sheet_41 fkX8_9 rfl rfl ?_
          refine gw_iload1 dX8_sheet_44 ?_
          refine gw_iload2 dX8_sheet_45 ?_
          by_cases h9 : ow_inn x1 4
          rotate_left
          · replace h := (if_neg h9).symm.trans h
            cases h
          replace h := (if_pos h9).symm.trans h
          refine gw_iast dX8_sheet_46 rfl h9 ?_
          refine gw_aload0 dX8_sheet_47 ?_
          refine gw_getR dX8_sheet_48 fkX8_13 rfl rfl ?_
          refine gw_iload1 dX8_sheet_51 ?_
          refine gw_iload3 dX8_sheet_52 ?_
          by_cases h10 : ow_inn x1 4
          rotate_left
          · replace h := (if_neg h10).symm.trans h
            cases h
          replace h := (if_pos h10).symm.trans h
          refine gw_iast dX8_sheet_53 rfl h10 ?_
          refine gw_ic0 dX8_sheet_54 ?_
          refine gw_istore4 dX8_sheet_55 (by decide) rfl ?_
          refine gw_drp2 ?_
          refine gw_drp3 ?_
          refine tlpX8_sheet_57 l ?_ _ _ _ h
          intro u13 M14 h
          refine gw_ic1 dX8_sheet_83 ?_
          obtain ⟨hA, hB⟩ := Prod.mk.inj (Option.some.inj h)
          subst hA
          subst hB
          exact gw_iret dX8_sheet_84 ⟨rfl, rfl⟩
        · replace h := (if_neg h8).symm.trans h
          refine gw_aload0 dX8_sheet_34 ?_
          refine gw_ic4 dX8_sheet_35 ?_
          obtain ⟨v16, M17, hc15, h⟩ := ow_bd_some h
          refine gw_cVI1 dX8_sheet_36 lkX8_114 mkX8_fails (ow_rm_in rfl rfl) rfl rfl (ctX8_fails l hc15) rfl ?_
          obtain ⟨hA, hB⟩ := Prod.mk.inj (Option.some.inj h)
          subst hA
          subst hB
          exact gw_iret dX8_sheet_39 ⟨rfl, rfl⟩
      · replace h := (if_neg h7).symm.trans h
        refine gw_bipush (-2) dX8_sheet_27 (by decide) ?_
        obtain ⟨hA, hB⟩ := Prod.mk.inj (Option.some.inj h)
        subst hA
        subst hB
        exact gw_iret dX8_sheet_29 ⟨rfl, rfl⟩
  · replace h := (if_pos h3).symm.trans h
    refine gw_icm1 dX8_sheet_12 ?_
    obtain ⟨hA, hB⟩ := Prod.mk.inj (Option.some.inj h)
    subst hA
    subst hB
    exact gw_iret dX8_sheet_13 ⟨rfl, rfl⟩

def fX8_lose (x1 : Int32) (M : ow_M) : Option (Int32 × ow_M) := Option.bind (fX8_isSheet x1) (fun v2 => (if v2 = 0 then some ((-1), M) else if ow_inn x1 4 then (if (M.1 35 x1.toNatClampNeg) = (-9) then if ow_inn x1 4 then some (0, (ow_up M 35 x1.toNatClampNeg (-9))) else none else if ow_inn x1 4 then some (1, (ow_up M 35 x1.toNatClampNeg (-9))) else none) else none))
set_option maxRecDepth 100000 in
set_option maxHeartbeats 4000000 in
theorem ctX8_lose (l : Launch) {x1 : Int32} {M : ow_M} {r : Int32} {M9 : ow_M}  (h : fX8_lose x1 M = some (r, M9)) : ow_F l 2 yX8_lose cX8_lose 3 (some .int) [.ref 34, .int x1] M (some (.int r)) M9 := by
  unfold fX8_lose at h
  refine ow_enterO (own := RX8) rfl (by decide +kernel) rfl (ls := [some (.ref 34), some (.int x1), none]) rfl ?_
  refine gw_iload1 dX8_lose_0 ?_
  obtain ⟨v2, hc1, h⟩ := ow_b_some h
  refine gw_cSI1 dX8_lose_1 lkX8_103 mkX8_isSheet (ow_rm_in rfl rfl) (ctX8_isSheet l hc1) rfl ?_
  refine gw_if_ne (tgt := 9) dX8_lose_4 rfl (fun h3 => ?_) (fun h3 => ?_)
  · replace h := (if_neg h3).symm.trans h
    refine gw_aload0 dX8_lose_9 ?_
    refine gw_getR dX8_lose_10 fkX8_9 rfl rfl ?_
    refine gw_iload1 dX8_lose_13 ?_
    by_cases h4 : ow_inn x1 4
    rotate_left
    · replace h := (if_neg h4).symm.trans h
      cases h
    replace h := (if_pos h4).symm.trans h
    refine gw_iald dX8_lose_14 rfl h4 ?_
    refine gw_bipush (-9) dX8_lose_15 (by decide) ?_
    refine gw_icmp_ne (tgt := 24) dX8_lose_17 rfl (fun h5 => ?_) (fun h5 => ?_)
    · replace h := (if_neg h5).symm.trans h
      refine gw_ic1 dX8_lose_24 ?_
      refine gw_istore2 dX8_lose_25 (by decide) rfl ?_
      refine gw_aload0 dX8_lose_26 ?_
      refine gw_getR dX8_lose_27 fkX8_9 rfl rfl ?_
      refine gw_iload1 dX8_lose_30 ?_
      refine gw_bipush (-9) dX8_lose_31 (by decide) ?_
      by_cases h6 : ow_inn x1 4
      rotate_left
      · replace h := (if_neg h6).symm.trans h
        cases h
      replace h := (if_pos h6).symm.trans h
      refine gw_iast dX8_lose_33 rfl h6 ?_
      refine gw_iload2 dX8_lose_34 ?_
      obtain ⟨hA, hB⟩ := Prod.mk.inj (Option.some.inj h)
      subst hA
      subst hB
      exact gw_iret dX8_lose_35 ⟨rfl, rfl⟩
    · replace h := (if_pos h5).symm.trans h
      refine gw_ic0 dX8_lose_20 ?_
      refine gw_goto (tgt := 25) rfl dX8_lose_21 ?_
      refine gw_istore2 dX8_lose_25 (by decide) rfl ?_
      refine gw_aload0 dX8_lose_26 ?_
      refine gw_getR dX8_lose_27 fkX8_9 rfl rfl ?_
      refine gw_iload1 dX8_lose_30 ?_
      refine gw_bipush (-9) dX8_lose_31 (by decide) ?_
      by_cases h7 : ow_inn x1 4
      rotate_left
      · replace h := (if_neg h7).symm.trans h
        cases h
      replace h := (if_pos h7).symm.trans h
      refine gw_iast dX8_lose_33 rfl h7 ?_
      refine gw_iload2 dX8_lose_34 ?_
      obtain ⟨hA, hB⟩ := Prod.mk.inj (Option.some.inj h)
      subst hA
      subst hB
      exact gw_iret dX8_lose_35 ⟨rfl, rfl⟩
  · replace h := (if_pos h3).symm.trans h
    refine gw_icm1 dX8_lose_7 ?_
    obtain ⟨hA, hB⟩ := Prod.mk.inj (Option.some.inj h)
    subst hA
    subst hB
    exact gw_iret dX8_lose_8 ⟨rfl, rfl⟩

def fX8_put (x1 : Int32) (x2 : Int32) (x3 : Int32) (M : ow_M) : Option (Int32 × ow_M) := Option.bind (fX8_isSheet x1) (fun v2 => (if v2 = 0 then some ((-1), (ow_up M 34 0 0)) else if ow_inn x1 4 then (if ((ow_up M 34 0 0).1 35 x1.toNatClampNeg) = (-9) then ow_bd (fX8_fails 1 (ow_up M 34 0 0)) (fun v21 M22 => some (v21, M22)) else if ow_inn x1 4 then Option.bind (fX8_within x2 0 (((ow_up M 34 0 0).1 36 x1.toNatClampNeg) - 1)) (fun v8 => (if v8 = 0 then ow_bd (fX8_fails 3 (ow_up M 34 0 0)) (fun v18 M19 => some (v18, M19)) else if ow_inn x1 4 then (if ((ow_up M 34 0 0).1 35 x1.toNatClampNeg) = 0 then if ow_inn ((50 * x1) + x2) 200 then some (1, (ow_up (ow_up M 34 0 0) 37 ((50 * x1) + x2).toNatClampNeg (x3).toInt8.toInt32)) else none else if ow_inn x1 4 then (if ((ow_up M 34 0 0).1 35 x1.toNatClampNeg) = 1 then if ow_inn ((50 * x1) + x2) 200 then some (1, (ow_up (ow_up M 34 0 0) 37 ((50 * x1) + x2).toNatClampNeg (x3).toInt16.toInt32)) else none else if ow_inn ((50 * x1) + x2) 200 then some (1, (ow_up (ow_up M 34 0 0) 37 ((50 * x1) + x2).toNatClampNeg x3)) else none) else none) else none)) else none) else none))
set_option maxRecDepth 100000 in
set_option maxHeartbeats 4000000 in
theorem ctX8_put (l : Launch) {x1 : Int32} {x2 : Int32} {x3 : Int32} {M : ow_M} {r : Int32} {M9 : ow_M}  (h : fX8_put x1 x2 x3 M = some (r, M9)) : ow_F l 2 yX8_put cX8_put 4 (some .int) [.ref 34, .int x1, .int x2, .int x3] M (some (.int r)) M9 := by
  unfold fX8_put at h
  refine ow_enterO (own := RX8) rfl (by decide +kernel) rfl (ls := [some (.ref 34), some (.int x1), some (.int x2), some (.int x3)]) rfl ?_
  refine gw_aload0 dX8_put_0 ?_
  refine gw_ic0 dX8_put_1 ?_
  refine gw_putI dX8_put_2 fkX8_76 fp8_0 rfl rfl ?_
  refine gw_iload1 dX8_put_5 ?_
  obtain ⟨v2, hc1, h⟩ := ow_b_some h
  refine gw_cSI1 dX8_put_6 lkX8_103 mkX8_isSheet (ow_rm_in rfl rfl) (ctX8_isSheet l hc1) rfl ?_
  refine gw_if_ne (tgt := 14) dX8_put_9 rfl (fun h3 => ?_) (fun h3 => ?_)
  · replace h := (if_neg h3).symm.trans h
    refine gw_aload0 dX8_put_14 ?_
    refine gw_getR dX8_put_15 fkX8_9 rfl rfl ?_
    refine gw_iload1 dX8_put_18 ?_
    by_cases h4 : ow_inn x1 4
    rotate_left
    · replace h := (if_neg h4).symm.trans h
      cases h
    replace h := (if_pos h4).symm.trans h
    refine gw_iald dX8_put_19 rfl h4 ?_
    refine gw_bipush (-9) dX8_put_20 (by decide) ?_
    refine gw_icmp_ne (tgt := 31) dX8_put_22 rfl (fun h5 => ?_) (fun h5 => ?_)
    · replace h := (if_neg h5).symm.trans h
      refine gw_iload2 dX8_put_31 ?_
      refine gw_ic0 dX8_put_32 ?_
      refine gw_aload0 dX8_put_33 ?_
      refine gw_getR dX8_put_34 fkX8_13 rfl rfl ?_
      refine gw_iload1 dX8_put_37 ?_
      by_cases h6 : ow_inn x1 4
      rotate_left
      · replace h := (if_neg h6).symm.trans h
        cases h
      replace h := (if_pos h6).symm.trans h
      refine gw_iald dX8_put_38 rfl h6 ?_
      refine gw_ic1 dX8_put_39 ?_
      refine gw_isub dX8_put_40 ?_
      obtain ⟨v8, hc7, h⟩ := ow_b_some h
      refine gw_cSI3 dX8_put_41 lkX8_82 mkX8_within (ow_rm_in rfl rfl) (ctX8_within l hc7) rfl ?_
      refine gw_if_ne (tgt := 53) dX8_put_44 rfl (fun h9 => ?_) (fun h9 => ?_)
      · replace h := (if_neg h9).symm.trans h
        refine gw_aload0 dX8_put_53 ?_
        refine gw_getR dX8_put_54 fkX8_16 rfl rfl ?_
        refine gw_bipush 50 dX8_put_57 (by decide) ?_
        refine gw_iload1 dX8_put_59 ?_
        refine gw_imul dX8_put_60 ?_
        refine gw_iload2 dX8_put_61 ?_
        refine gw_iadd dX8_put_62 ?_
        refine gw_aload0 dX8_put_63 ?_
        refine gw_getR dX8_put_64 fkX8_9 rfl rfl ?_
        refine gw_iload1 dX8_put_67 ?_
        by_cases h10 : ow_inn x1 4
        rotate_left
        · replace h := (if_neg h10).symm.trans h
          cases h
        replace h := (if_pos h10).symm.trans h
        refine gw_iald dX8_put_68 rfl h10 ?_
        refine gw_if_ne (tgt := 77) dX8_put_69 rfl (fun h11 => ?_) (fun h11 => ?_)
        · replace h := (if_neg h11).symm.trans h
          refine gw_aload0 dX8_put_77 ?_
          refine gw_getR dX8_put_78 fkX8_9 rfl rfl ?_
          refine gw_iload1 dX8_put_81 ?_
          by_cases h12 : ow_inn x1 4
          rotate_left
          · replace h := (if_neg h12).symm.trans h
            cases h
          replace h := (if_pos h12).symm.trans h
          refine gw_iald dX8_put_82 rfl h12 ?_
          refine gw_ic1 dX8_put_83 ?_
          refine gw_icmp_ne (tgt := 92) dX8_put_84 rfl (fun h13 => ?_) (fun h13 => ?_)
          · replace h := (if_neg h13).symm.trans h
            refine gw_iload3 dX8_put_92 ?_
            by_cases h14 : ow_inn ((50 * x1) + x2) 200
            rotate_left
            · replace h := (if_neg h14).symm.trans h
              cases h
            replace h := (if_pos h14).symm.trans h
            refine gw_iast dX8_put_93 rfl h14 ?_
            refine gw_ic1 dX8_put_94 ?_
            obtain ⟨hA, hB⟩ := Prod.mk.inj (Option.some.inj h)
            subst hA
            subst hB
            exact gw_iret dX8_put_95 ⟨rfl, rfl⟩
          · replace h := (if_pos h13).symm.trans h
            refine gw_iload3 dX8_put_87 ?_
            refine gw_i2s dX8_put_88 ?_
            refine gw_goto (tgt := 93) rfl dX8_put_89 ?_
            by_cases h15 : ow_inn ((50 * x1) + x2) 200
            rotate_left
            · replace h := (if_neg h15).symm.trans h
              cases h
            replace h := (if_pos h15).symm.trans h
            refine gw_iast dX8_put_93 rfl h15 ?_
            refine gw_ic1 dX8_put_94 ?_
            obtain ⟨hA, hB⟩ := Prod.mk.inj (Option.some.inj h)
            subst hA
            subst hB
            exact gw_iret dX8_put_95 ⟨rfl, rfl⟩
        · replace h := (if_pos h11).symm.trans h
          refine gw_iload3 dX8_put_72 ?_
          refine gw_i2b dX8_put_73 ?_
          refine gw_goto (tgt := 93) rfl dX8_put_74 ?_
          by_cases h16 : ow_inn ((50 * x1) + x2) 200
          rotate_left
          · replace h := (if_neg h16).symm.trans h
            cases h
          replace h := (if_pos h16).symm.trans h
          refine gw_iast dX8_put_93 rfl h16 ?_
          refine gw_ic1 dX8_put_94 ?_
          obtain ⟨hA, hB⟩ := Prod.mk.inj (Option.some.inj h)
          subst hA
          subst hB
          exact gw_iret dX8_put_95 ⟨rfl, rfl⟩
      · replace h := (if_pos h9).symm.trans h
        refine gw_aload0 dX8_put_47 ?_
        refine gw_ic3 dX8_put_48 ?_
        obtain ⟨v18, M19, hc17, h⟩ := ow_bd_some h
        refine gw_cVI1 dX8_put_49 lkX8_114 mkX8_fails (ow_rm_in rfl rfl) rfl rfl (ctX8_fails l hc17) rfl ?_
        obtain ⟨hA, hB⟩ := Prod.mk.inj (Option.some.inj h)
        subst hA
        subst hB
        exact gw_iret dX8_put_52 ⟨rfl, rfl⟩
    · replace h := (if_pos h5).symm.trans h
      refine gw_aload0 dX8_put_25 ?_
      refine gw_ic1 dX8_put_26 ?_
      obtain ⟨v21, M22, hc20, h⟩ := ow_bd_some h
      refine gw_cVI1 dX8_put_27 lkX8_114 mkX8_fails (ow_rm_in rfl rfl) rfl rfl (ctX8_fails l hc20) rfl ?_
      obtain ⟨hA, hB⟩ := Prod.mk.inj (Option.some.inj h)
      subst hA
      subst hB
      exact gw_iret dX8_put_30 ⟨rfl, rfl⟩
  · replace h := (if_pos h3).symm.trans h
    refine gw_icm1 dX8_put_12 ?_
    obtain ⟨hA, hB⟩ := Prod.mk.inj (Option.some.inj h)
    subst hA
    subst hB
    exact gw_iret dX8_put_13 ⟨rfl, rfl⟩

def fX8_lost (x1 : Int32) (M : ow_M) : Option (Int64 × ow_M) := some ((-9223372036854775808), (ow_up M 34 0 x1))
set_option maxRecDepth 100000 in
set_option maxHeartbeats 4000000 in
theorem ctX8_lost (l : Launch) {x1 : Int32} {M : ow_M} {r : Int64} {M9 : ow_M}  (h : fX8_lost x1 M = some (r, M9)) : ow_F l 0 yX8_lost cX8_lost 2 (some .long) [.ref 34, .int x1] M (some (.long r)) M9 := by
  unfold fX8_lost at h
  refine ow_enterO (own := RX8) rfl (by decide +kernel) rfl (ls := [some (.ref 34), some (.int x1)]) rfl ?_
  refine gw_aload0 dX8_lost_0 ?_
  refine gw_iload1 dX8_lost_1 ?_
  refine gw_putI dX8_lost_2 fkX8_76 fp8_0 rfl rfl ?_
  refine gw_ldc2 klX8_80 dX8_lost_5 ?_
  obtain ⟨hA, hB⟩ := Prod.mk.inj (Option.some.inj h)
  subst hA
  subst hB
  exact gw_lret dX8_lost_8 ⟨rfl, rfl⟩

def jX8_cell_50 (x1 : Int32) (x2 : Int32) (M : ow_M) : Option (Int64 × ow_M) := if ow_inn x1 4 then (if (M.1 35 x1.toNatClampNeg) = (-9) then ow_bd (fX8_lost 1 M) (fun v20 M21 => some (v20, M21)) else if ow_inn x1 4 then Option.bind (fX8_within x2 0 ((M.1 36 x1.toNatClampNeg) - 1)) (fun v13 => (if v13 = 0 then ow_bd (fX8_lost 3 M) (fun v17 M18 => some (v17, M18)) else if ow_inn ((50 * x1) + x2) 200 then some (((M.1 37 ((50 * x1) + x2).toNatClampNeg)).toInt64, M) else none)) else none) else none
set_option maxRecDepth 100000 in
set_option maxHeartbeats 4000000 in
theorem tjX8_cell_50 (l : Launch) {x1 : Int32} {x2 : Int32} {M : ow_M} {r : Int64} {M9 : ow_M}  (h : jX8_cell_50 x1 x2 M = some (r, M9)) : ow_G (ow_Γ l 2 (some .long) (ow_is (some (.long r)) M9)) RX8 cX8_cell 4 50 [some (.ref 34), some (.int x1), some (.int x2), none] [] M := by
  unfold jX8_cell_50 at h
  refine gw_aload0 dX8_cell_50 ?_
  refine gw_getR dX8_cell_51 fkX8_9 rfl rfl ?_
  refine gw_iload1 dX8_cell_54 ?_
  by_cases h9 : ow_inn x1 4
  rotate_left
  · replace h := (if_neg h9).symm.trans h
    cases h
  replace h := (if_pos h9).symm.trans h
  refine gw_iald dX8_cell_55 rfl h9 ?_
  refine gw_bipush (-9) dX8_cell_56 (by decide) ?_
  refine gw_icmp_ne (tgt := 67) dX8_cell_58 rfl (fun h10 => ?_) (fun h10 => ?_)
  · replace h := (if_neg h10).symm.trans h
    refine gw_iload2 dX8_cell_67 ?_
    refine gw_ic0 dX8_cell_68 ?_
    refine gw_aload0 dX8_cell_69 ?_
    refine gw_getR dX8_cell_70 fkX8_13 rfl rfl ?_
    refine gw_iload1 dX8_cell_73 ?_
    by_cases h11 : ow_inn x1 4
    rotate_left
    · replace h := (if_neg h11).symm.trans h
      cases h
    replace h := (if_pos h11).symm.trans h
    refine gw_iald dX8_cell_74 rfl h11 ?_
    refine gw_ic1 dX8_cell_75 ?_
    refine gw_isub dX8_cell_76 ?_
    obtain ⟨v13, hc12, h⟩ := ow_b_some h
    refine gw_cSI3 dX8_cell_77 lkX8_82 mkX8_within (ow_rm_in rfl rfl) (ctX8_within l hc12) rfl ?_
    refine gw_if_ne (tgt := 89) dX8_cell_80 rfl (fun h14 => ?_) (fun h14 => ?_)
    · replace h := (if_neg h14).symm.trans h
      refine gw_aload0 dX8_cell_89 ?_
      refine gw_getR dX8_cell_90 fkX8_16 rfl rfl ?_
      refine gw_bipush 50 dX8_cell_93 (by decide) ?_
      refine gw_iload1 dX8_cell_95 ?_
      refine gw_imul dX8_cell_96 ?_
      refine gw_iload2 dX8_cell_97 ?_
      refine gw_iadd dX8_cell_98 ?_
      by_cases h15 : ow_inn ((50 * x1) + x2) 200
      rotate_left
      · replace h := (if_neg h15).symm.trans h
        cases h
      replace h := (if_pos h15).symm.trans h
      refine gw_iald dX8_cell_99 rfl h15 ?_
      refine gw_i2l dX8_cell_100 ?_
      obtain ⟨hA, hB⟩ := Prod.mk.inj (Option.some.inj h)
      subst hA
      subst hB
      exact gw_lret dX8_cell_101 ⟨rfl, rfl⟩
    · replace h := (if_pos h14).symm.trans h
      refine gw_aload0 dX8_cell_83 ?_
      refine gw_ic3 dX8_cell_84 ?_
      obtain ⟨v17, M18, hc16, h⟩ := ow_bd_some h
      refine gw_cVI1 dX8_cell_85 lkX8_225 mkX8_lost (ow_rm_in rfl rfl) rfl rfl (ctX8_lost l hc16) rfl ?_
      obtain ⟨hA, hB⟩ := Prod.mk.inj (Option.some.inj h)
      subst hA
      subst hB
      exact gw_lret dX8_cell_88 ⟨rfl, rfl⟩
  · replace h := (if_pos h10).symm.trans h
    refine gw_aload0 dX8_cell_61 ?_
    refine gw_ic1 dX8_cell_62 ?_
    obtain ⟨v20, M21, hc19, h⟩ := ow_bd_some h
    refine gw_cVI1 dX8_cell_63 lkX8_225 mkX8_lost (ow_rm_in rfl rfl) rfl rfl (ctX8_lost l hc19) rfl ?_
    obtain ⟨hA, hB⟩ := Prod.mk.inj (Option.some.inj h)
    subst hA
    subst hB
    exact gw_lret dX8_cell_66 ⟨rfl, rfl⟩

def fX8_cell (x1 : Int32) (x2 : Int32) (x3 : Int32) (M : ow_M) : Option (Int64 × ow_M) := Option.bind (fX8_isSheet x1) (fun v2 => (if v2 = 0 then some ((-9223372036854775808), (ow_up M 34 0 0)) else Option.bind (fX8_isSort x3) (fun v5 => (if v5 = 0 then some ((-9223372036854775808), (ow_up M 34 0 0)) else if ow_inn x1 4 then (if ((ow_up M 34 0 0).1 35 x1.toNatClampNeg) = (-9) then jX8_cell_50 x1 x2 (ow_up M 34 0 0) else if ow_inn x1 4 then (if ((ow_up M 34 0 0).1 35 x1.toNatClampNeg) = x3 then jX8_cell_50 x1 x2 (ow_up M 34 0 0) else ow_bd (fX8_lost 2 (ow_up M 34 0 0)) (fun v25 M26 => some (v25, M26))) else none) else none))))
set_option maxRecDepth 100000 in
set_option maxHeartbeats 4000000 in
theorem ctX8_cell (l : Launch) {x1 : Int32} {x2 : Int32} {x3 : Int32} {M : ow_M} {r : Int64} {M9 : ow_M}  (h : fX8_cell x1 x2 x3 M = some (r, M9)) : ow_F l 2 yX8_cell cX8_cell 4 (some .long) [.ref 34, .int x1, .int x2, .int x3] M (some (.long r)) M9 := by
  unfold fX8_cell at h
  refine ow_enterO (own := RX8) rfl (by decide +kernel) rfl (ls := [some (.ref 34), some (.int x1), some (.int x2), some (.int x3)]) rfl ?_
  refine gw_aload0 dX8_cell_0 ?_
  refine gw_ic0 dX8_cell_1 ?_
  refine gw_putI dX8_cell_2 fkX8_76 fp8_0 rfl rfl ?_
  refine gw_iload1 dX8_cell_5 ?_
  obtain ⟨v2, hc1, h⟩ := ow_b_some h
  refine gw_cSI1 dX8_cell_6 lkX8_103 mkX8_isSheet (ow_rm_in rfl rfl) (ctX8_isSheet l hc1) rfl ?_
  refine gw_if_eq (tgt := 19) dX8_cell_9 rfl (fun h3 => ?_) (fun h3 => ?_)
  · replace h := (if_pos h3).symm.trans h
    refine gw_ldc2 klX8_80 dX8_cell_19 ?_
    obtain ⟨hA, hB⟩ := Prod.mk.inj (Option.some.inj h)
    subst hA
    subst hB
    exact gw_lret dX8_cell_22 ⟨rfl, rfl⟩
  · replace h := (if_neg h3).symm.trans h
    refine gw_iload3 dX8_cell_12 ?_
    obtain ⟨v5, hc4, h⟩ := ow_b_some h
    refine gw_cSI1 dX8_cell_13 lkX8_107 mkX8_isSort (ow_rm_in rfl rfl) (ctX8_isSort l hc4) rfl ?_
    refine gw_if_ne (tgt := 23) dX8_cell_16 rfl (fun h6 => ?_) (fun h6 => ?_)
    · replace h := (if_neg h6).symm.trans h
      refine gw_aload0 dX8_cell_23 ?_
      refine gw_getR dX8_cell_24 fkX8_9 rfl rfl ?_
      refine gw_iload1 dX8_cell_27 ?_
      by_cases h7 : ow_inn x1 4
      rotate_left
      · replace h := (if_neg h7).symm.trans h
        cases h
      replace h := (if_pos h7).symm.trans h
      refine gw_iald dX8_cell_28 rfl h7 ?_
      refine gw_bipush (-9) dX8_cell_29 (by decide) ?_
      refine gw_icmp_eq (tgt := 50) dX8_cell_31 rfl (fun h8 => ?_) (fun h8 => ?_)
      · replace h := (if_pos h8).symm.trans h
        refine gw_drp3 ?_
        exact tjX8_cell_50 l h
      · replace h := (if_neg h8).symm.trans h
        refine gw_aload0 dX8_cell_34 ?_
        refine gw_getR dX8_cell_35 fkX8_9 rfl rfl ?_
        refine gw_iload1 dX8_cell_38 ?_
        by_cases h22 : ow_inn x1 4
        rotate_left
        · replace h := (if_neg h22).symm.trans h
          cases h
        replace h := (if_pos h22).symm.trans h
        refine gw_iald dX8_cell_39 rfl h22 ?_
        refine gw_iload3 dX8_cell_40 ?_
        refine gw_icmp_eq (tgt := 50) dX8_cell_41 rfl (fun h23 => ?_) (fun h23 => ?_)
        · replace h := (if_pos h23).symm.trans h
          refine gw_drp3 ?_
          exact tjX8_cell_50 l h
        · replace h := (if_neg h23).symm.trans h
          refine gw_aload0 dX8_cell_44 ?_
          refine gw_ic2 dX8_cell_45 ?_
          obtain ⟨v25, M26, hc24, h⟩ := ow_bd_some h
          refine gw_cVI1 dX8_cell_46 lkX8_225 mkX8_lost (ow_rm_in rfl rfl) rfl rfl (ctX8_lost l hc24) rfl ?_
          obtain ⟨hA, hB⟩ := Prod.mk.inj (Option.some.inj h)
          subst hA
          subst hB
          exact gw_lret dX8_cell_49 ⟨rfl, rfl⟩
    · replace h := (if_pos h6).symm.trans h
      refine gw_ldc2 klX8_80 dX8_cell_19 ?_
      obtain ⟨hA, hB⟩ := Prod.mk.inj (Option.some.inj h)
      subst hA
      subst hB
      exact gw_lret dX8_cell_22 ⟨rfl, rfl⟩

def jX8_copy_190 (x1 : Int32) (x2 : Int32) (x3 : Int32) (x4 : Int32) (x5 : Int32) (x7 : Int32) (x8 : Int32) (s0 : Int32) (kb : Int32 → ow_M → Option (Int32 × ow_M)) (k : Int32 → ow_M → Option (Int32 × ow_M)) (M : ow_M) : Option (Int32 × ow_M) := if ow_inn (((50 * x1) + x2) + s0) 200 then if ow_inn (((50 * x3) + x4) + s0) 200 then kb (x8 + 1) (ow_up M 37 (((50 * x3) + x4) + s0).toNatClampNeg (M.1 37 (((50 * x1) + x2) + s0).toNatClampNeg)) else none else none
set_option maxRecDepth 100000 in
set_option maxHeartbeats 4000000 in
theorem tjX8_copy_190 (l : Launch) {x1 : Int32} {x2 : Int32} {x3 : Int32} {x4 : Int32} {x5 : Int32} {x7 : Int32} {x8 : Int32} {s0 : Int32} {kb : Int32 → ow_M → Option (Int32 × ow_M)} {k : Int32 → ow_M → Option (Int32 × ow_M)} {M : ow_M} {r : Int32} {M9 : ow_M}  (hkb : ∀ (z8 : Int32) (Mz : ow_M), kb z8 Mz = some (r, M9) → ow_G (ow_Γ l 2 (some .int) (ow_is (some (.int r)) M9)) RX8 cX8_copy 10 166 [some (.ref 34), some (.int x1), some (.int x2), some (.int x3), some (.int x4), some (.int x5), none, some (.int x7), some (.int z8), none] [] Mz) (hk : ∀ (z8 : Int32) (Mz : ow_M), k z8 Mz = some (r, M9) → ow_G (ow_Γ l 2 (some .int) (ow_is (some (.int r)) M9)) RX8 cX8_copy 10 227 [some (.ref 34), some (.int x1), some (.int x2), some (.int x3), some (.int x4), some (.int x5), none, some (.int x7), some (.int z8), none] [] Mz) (h : jX8_copy_190 x1 x2 x3 x4 x5 x7 x8 s0 kb k M = some (r, M9)) : ow_G (ow_Γ l 2 (some .int) (ow_is (some (.int r)) M9)) RX8 cX8_copy 10 190 [some (.ref 34), some (.int x1), some (.int x2), some (.int x3), some (.int x4), some (.int x5), none, some (.int x7), some (.int x8), none] [.int s0] M := by
  unfold jX8_copy_190 at h
  refine gw_istore9 dX8_copy_190 (by decide) rfl ?_
  refine gw_aload0 dX8_copy_192 ?_
  refine gw_getR dX8_copy_193 fkX8_16 rfl rfl ?_
  refine gw_bipush 50 dX8_copy_196 (by decide) ?_
  refine gw_iload3 dX8_copy_198 ?_
  refine gw_imul dX8_copy_199 ?_
  refine gw_iload4 dX8_copy_200 ?_
  refine gw_iadd dX8_copy_202 ?_
  refine gw_iload9 dX8_copy_203 ?_
  refine gw_iadd dX8_copy_205 ?_
  refine gw_aload0 dX8_copy_206 ?_
  refine gw_getR dX8_copy_207 fkX8_16 rfl rfl ?_
  refine gw_bipush 50 dX8_copy_210 (by decide) ?_
  refine gw_iload1 dX8_copy_212 ?_
  refine gw_imul dX8_copy_213 ?_
  refine gw_iload2 dX8_copy_214 ?_
  refine gw_iadd dX8_copy_215 ?_
  refine gw_iload9 dX8_copy_216 ?_
  refine gw_iadd dX8_copy_218 ?_
  by_cases h32 : ow_inn (((50 * x1) + x2) + s0) 200
  rotate_left
  · replace h := (if_neg h32).symm.trans h
    cases h
  replace h := (if_pos h32).symm.trans h
  refine gw_iald dX8_copy_219 rfl h32 ?_
  by_cases h33 : ow_inn (((50 * x3) + x4) + s0) 200
  rotate_left
  · replace h := (if_neg h33).symm.trans h
    cases h
  replace h := (if_pos h33).symm.trans h
  refine gw_iast dX8_copy_220 rfl h33 ?_
  refine gw_iinc8 1 dX8_copy_221 (by decide) rfl (by decide) ?_
  refine gw_goto (tgt := 166) rfl dX8_copy_224 ?_
  refine gw_drp9 ?_
  exact hkb _ _ h

def lpX8_copy_166 (x1 : Int32) (x2 : Int32) (x3 : Int32) (x4 : Int32) (x5 : Int32) (x7 : Int32) (k : Int32 → ow_M → Option (Int32 × ow_M)) : Nat → Int32 → ow_M → Option (Int32 × ow_M)
  | 0, _, _ => none
  | n + 1, x8, M => (if x5 ≤ x8 then k x8 M else (if x7 = 0 then jX8_copy_190 x1 x2 x3 x4 x5 x7 x8 x8 (lpX8_copy_166 x1 x2 x3 x4 x5 x7 k n) k M else jX8_copy_190 x1 x2 x3 x4 x5 x7 x8 ((x5 - 1) - x8) (lpX8_copy_166 x1 x2 x3 x4 x5 x7 k n) k M))
set_option maxRecDepth 100000 in
set_option maxHeartbeats 4000000 in
theorem tlpX8_copy_166 (l : Launch) {x1 : Int32} {x2 : Int32} {x3 : Int32} {x4 : Int32} {x5 : Int32} {x7 : Int32} {k : Int32 → ow_M → Option (Int32 × ow_M)} {r : Int32} {M9 : ow_M}  (hk : ∀ (x8 : Int32) (M : ow_M), k x8 M = some (r, M9) → ow_G (ow_Γ l 2 (some .int) (ow_is (some (.int r)) M9)) RX8 cX8_copy 10 227 [some (.ref 34), some (.int x1), some (.int x2), some (.int x3), some (.int x4), some (.int x5), none, some (.int x7), some (.int x8), none] [] M) : ∀ (n : Nat) (x8 : Int32) (M : ow_M), lpX8_copy_166 x1 x2 x3 x4 x5 x7 k n x8 M = some (r, M9) → ow_G (ow_Γ l 2 (some .int) (ow_is (some (.int r)) M9)) RX8 cX8_copy 10 166 [some (.ref 34), some (.int x1), some (.int x2), some (.int x3), some (.int x4), some (.int x5), none, some (.int x7), some (.int x8), none] [] M := by
  intro n
  induction n with
  | zero => intro _ _ h; cases h
  | succ n ih =>
    intro x8 M h
    unfold lpX8_copy_166 at h
    refine gw_iload8 dX8_copy_166 ?_
    refine gw_iload5 dX8_copy_168 ?_
    refine gw_icmp_ge (tgt := 227) dX8_copy_170 rfl (fun h30 => ?_) (fun h30 => ?_)
    · replace h := (if_pos h30).symm.trans h
      exact hk _ _ h
    · replace h := (if_neg h30).symm.trans h
      refine gw_iload7 dX8_copy_173 ?_
      refine gw_if_eq (tgt := 188) dX8_copy_175 rfl (fun h31 => ?_) (fun h31 => ?_)
      · replace h := (if_pos h31).symm.trans h
        refine gw_iload8 dX8_copy_188 ?_
        exact tjX8_copy_190 l ih hk h
      · replace h := (if_neg h31).symm.trans h
        refine gw_iload5 dX8_copy_178 ?_
        refine gw_ic1 dX8_copy_180 ?_
        refine gw_isub dX8_copy_181 ?_
        refine gw_iload8 dX8_copy_182 ?_
        refine gw_isub dX8_copy_184 ?_
        refine gw_goto (tgt := 190) rfl dX8_copy_185 ?_
        exact tjX8_copy_190 l ih hk h

def jX8_copy_161 (x1 : Int32) (x2 : Int32) (x3 : Int32) (x4 : Int32) (x5 : Int32) (s0 : Int32) (M : ow_M) : Option (Int32 × ow_M) := lpX8_copy_166 x1 x2 x3 x4 x5 s0 (fun u34 M35 => some (x5, M35)) ow_N 0 M
set_option maxRecDepth 100000 in
set_option maxHeartbeats 4000000 in
theorem tjX8_copy_161 (l : Launch) {x1 : Int32} {x2 : Int32} {x3 : Int32} {x4 : Int32} {x5 : Int32} {s0 : Int32} {M : ow_M} {r : Int32} {M9 : ow_M}  (h : jX8_copy_161 x1 x2 x3 x4 x5 s0 M = some (r, M9)) : ow_G (ow_Γ l 2 (some .int) (ow_is (some (.int r)) M9)) RX8 cX8_copy 10 161 [some (.ref 34), some (.int x1), some (.int x2), some (.int x3), some (.int x4), some (.int x5), none, none, none, none] [.int s0] M := by
  unfold jX8_copy_161 at h
  refine gw_istore7 dX8_copy_161 (by decide) rfl ?_
  refine gw_ic0 dX8_copy_163 ?_
  refine gw_istore8 dX8_copy_164 (by decide) rfl ?_
  refine tlpX8_copy_166 l ?_ _ _ _ h
  intro u34 M35 h
  refine gw_iload5 dX8_copy_227 ?_
  obtain ⟨hA, hB⟩ := Prod.mk.inj (Option.some.inj h)
  subst hA
  subst hB
  exact gw_iret dX8_copy_229 ⟨rfl, rfl⟩

def jX8_copy_110 (x1 : Int32) (x2 : Int32) (x3 : Int32) (x4 : Int32) (x5 : Int32) (s0 : Int32) (M : ow_M) : Option (Int32 × ow_M) := (if s0 = 0 then ow_bd (fX8_fails 3 M) (fun v20 M21 => some (v20, M21)) else if ow_inn x1 4 then (if ((M.1 36 x1.toNatClampNeg) - x2) < x5 then ow_bd (fX8_fails 3 M) (fun v25 M26 => some (v25, M26)) else if ow_inn x3 4 then (if x5 ≤ ((M.1 36 x3.toNatClampNeg) - x4) then (if x4 ≤ x2 then jX8_copy_161 x1 x2 x3 x4 x5 0 M else jX8_copy_161 x1 x2 x3 x4 x5 1 M) else ow_bd (fX8_fails 3 M) (fun v37 M38 => some (v37, M38))) else none) else none)
set_option maxRecDepth 100000 in
set_option maxHeartbeats 4000000 in
theorem tjX8_copy_110 (l : Launch) {x1 : Int32} {x2 : Int32} {x3 : Int32} {x4 : Int32} {x5 : Int32} {s0 : Int32} {M : ow_M} {r : Int32} {M9 : ow_M}  (h : jX8_copy_110 x1 x2 x3 x4 x5 s0 M = some (r, M9)) : ow_G (ow_Γ l 2 (some .int) (ow_is (some (.int r)) M9)) RX8 cX8_copy 10 110 [some (.ref 34), some (.int x1), some (.int x2), some (.int x3), some (.int x4), some (.int x5), none, none, none, none] [.int s0] M := by
  unfold jX8_copy_110 at h
  refine gw_istore6 dX8_copy_110 (by decide) rfl ?_
  refine gw_iload6 dX8_copy_112 ?_
  refine gw_if_eq (tgt := 144) dX8_copy_114 rfl (fun h18 => ?_) (fun h18 => ?_)
  · replace h := (if_pos h18).symm.trans h
    refine gw_aload0 dX8_copy_144 ?_
    refine gw_ic3 dX8_copy_145 ?_
    obtain ⟨v20, M21, hc19, h⟩ := ow_bd_some h
    refine gw_cVI1 dX8_copy_146 lkX8_114 mkX8_fails (ow_rm_in rfl rfl) rfl rfl (ctX8_fails l hc19) rfl ?_
    obtain ⟨hA, hB⟩ := Prod.mk.inj (Option.some.inj h)
    subst hA
    subst hB
    exact gw_iret dX8_copy_149 ⟨rfl, rfl⟩
  · replace h := (if_neg h18).symm.trans h
    refine gw_iload5 dX8_copy_117 ?_
    refine gw_aload0 dX8_copy_119 ?_
    refine gw_getR dX8_copy_120 fkX8_13 rfl rfl ?_
    refine gw_iload1 dX8_copy_123 ?_
    by_cases h22 : ow_inn x1 4
    rotate_left
    · replace h := (if_neg h22).symm.trans h
      cases h
    replace h := (if_pos h22).symm.trans h
    refine gw_iald dX8_copy_124 rfl h22 ?_
    refine gw_iload2 dX8_copy_125 ?_
    refine gw_isub dX8_copy_126 ?_
    refine gw_icmp_gt (tgt := 144) dX8_copy_127 rfl (fun h23 => ?_) (fun h23 => ?_)
    · replace h := (if_pos h23).symm.trans h
      refine gw_aload0 dX8_copy_144 ?_
      refine gw_ic3 dX8_copy_145 ?_
      obtain ⟨v25, M26, hc24, h⟩ := ow_bd_some h
      refine gw_cVI1 dX8_copy_146 lkX8_114 mkX8_fails (ow_rm_in rfl rfl) rfl rfl (ctX8_fails l hc24) rfl ?_
      obtain ⟨hA, hB⟩ := Prod.mk.inj (Option.some.inj h)
      subst hA
      subst hB
      exact gw_iret dX8_copy_149 ⟨rfl, rfl⟩
    · replace h := (if_neg h23).symm.trans h
      refine gw_iload5 dX8_copy_130 ?_
      refine gw_aload0 dX8_copy_132 ?_
      refine gw_getR dX8_copy_133 fkX8_13 rfl rfl ?_
      refine gw_iload3 dX8_copy_136 ?_
      by_cases h27 : ow_inn x3 4
      rotate_left
      · replace h := (if_neg h27).symm.trans h
        cases h
      replace h := (if_pos h27).symm.trans h
      refine gw_iald dX8_copy_137 rfl h27 ?_
      refine gw_iload4 dX8_copy_138 ?_
      refine gw_isub dX8_copy_140 ?_
      refine gw_icmp_le (tgt := 150) dX8_copy_141 rfl (fun h28 => ?_) (fun h28 => ?_)
      · replace h := (if_pos h28).symm.trans h
        refine gw_iload2 dX8_copy_150 ?_
        refine gw_iload4 dX8_copy_151 ?_
        refine gw_icmp_ge (tgt := 160) dX8_copy_153 rfl (fun h29 => ?_) (fun h29 => ?_)
        · replace h := (if_pos h29).symm.trans h
          refine gw_ic0 dX8_copy_160 ?_
          refine gw_drp6 ?_
          exact tjX8_copy_161 l h
        · replace h := (if_neg h29).symm.trans h
          refine gw_ic1 dX8_copy_156 ?_
          refine gw_goto (tgt := 161) rfl dX8_copy_157 ?_
          refine gw_drp6 ?_
          exact tjX8_copy_161 l h
      · replace h := (if_neg h28).symm.trans h
        refine gw_aload0 dX8_copy_144 ?_
        refine gw_ic3 dX8_copy_145 ?_
        obtain ⟨v37, M38, hc36, h⟩ := ow_bd_some h
        refine gw_cVI1 dX8_copy_146 lkX8_114 mkX8_fails (ow_rm_in rfl rfl) rfl rfl (ctX8_fails l hc36) rfl ?_
        obtain ⟨hA, hB⟩ := Prod.mk.inj (Option.some.inj h)
        subst hA
        subst hB
        exact gw_iret dX8_copy_149 ⟨rfl, rfl⟩

def jX8_copy_109 (x1 : Int32) (x2 : Int32) (x3 : Int32) (x4 : Int32) (x5 : Int32) (M : ow_M) : Option (Int32 × ow_M) := jX8_copy_110 x1 x2 x3 x4 x5 0 M
set_option maxRecDepth 100000 in
set_option maxHeartbeats 4000000 in
theorem tjX8_copy_109 (l : Launch) {x1 : Int32} {x2 : Int32} {x3 : Int32} {x4 : Int32} {x5 : Int32} {M : ow_M} {r : Int32} {M9 : ow_M}  (h : jX8_copy_109 x1 x2 x3 x4 x5 M = some (r, M9)) : ow_G (ow_Γ l 2 (some .int) (ow_is (some (.int r)) M9)) RX8 cX8_copy 10 109 [some (.ref 34), some (.int x1), some (.int x2), some (.int x3), some (.int x4), some (.int x5), none, none, none, none] [] M := by
  unfold jX8_copy_109 at h
  refine gw_ic0 dX8_copy_109 ?_
  exact tjX8_copy_110 l h

def fX8_copy (x1 : Int32) (x2 : Int32) (x3 : Int32) (x4 : Int32) (x5 : Int32) (M : ow_M) : Option (Int32 × ow_M) := Option.bind (fX8_isSheet x1) (fun v2 => (if v2 = 0 then some ((-1), (ow_up M 34 0 0)) else Option.bind (fX8_isSheet x3) (fun v5 => (if v5 = 0 then some ((-1), (ow_up M 34 0 0)) else if ow_inn x1 4 then (if ((ow_up M 34 0 0).1 35 x1.toNatClampNeg) = (-9) then ow_bd (fX8_fails 1 (ow_up M 34 0 0)) (fun v10 M11 => some (v10, M11)) else if ow_inn x3 4 then (if ((ow_up M 34 0 0).1 35 x3.toNatClampNeg) = (-9) then ow_bd (fX8_fails 1 (ow_up M 34 0 0)) (fun v49 M50 => some (v49, M50)) else if ow_inn x1 4 then if ow_inn x3 4 then (if ((ow_up M 34 0 0).1 35 x1.toNatClampNeg) = ((ow_up M 34 0 0).1 35 x3.toNatClampNeg) then (if x2 < 0 then jX8_copy_109 x1 x2 x3 x4 x5 (ow_up M 34 0 0) else (if x4 < 0 then jX8_copy_109 x1 x2 x3 x4 x5 (ow_up M 34 0 0) else (if x5 < 0 then jX8_copy_109 x1 x2 x3 x4 x5 (ow_up M 34 0 0) else if ow_inn x1 4 then (if ((ow_up M 34 0 0).1 36 x1.toNatClampNeg) < x2 then jX8_copy_109 x1 x2 x3 x4 x5 (ow_up M 34 0 0) else if ow_inn x3 4 then (if ((ow_up M 34 0 0).1 36 x3.toNatClampNeg) < x4 then jX8_copy_109 x1 x2 x3 x4 x5 (ow_up M 34 0 0) else jX8_copy_110 x1 x2 x3 x4 x5 1 (ow_up M 34 0 0)) else none) else none))) else ow_bd (fX8_fails 2 (ow_up M 34 0 0)) (fun v46 M47 => some (v46, M47))) else none else none) else none) else none))))
set_option maxRecDepth 100000 in
set_option maxHeartbeats 4000000 in
theorem ctX8_copy (l : Launch) {x1 : Int32} {x2 : Int32} {x3 : Int32} {x4 : Int32} {x5 : Int32} {M : ow_M} {r : Int32} {M9 : ow_M}  (h : fX8_copy x1 x2 x3 x4 x5 M = some (r, M9)) : ow_F l 2 yX8_copy cX8_copy 10 (some .int) [.ref 34, .int x1, .int x2, .int x3, .int x4, .int x5] M (some (.int r)) M9 := by
  unfold fX8_copy at h
  refine ow_enterO (own := RX8) rfl (by decide +kernel) rfl (ls := [some (.ref 34), some (.int x1), some (.int x2), some (.int x3), some (.int x4), some (.int x5), none, none, none, none]) rfl ?_
  refine gw_aload0 dX8_copy_0 ?_
  refine gw_ic0 dX8_copy_1 ?_
  refine gw_putI dX8_copy_2 fkX8_76 fp8_0 rfl rfl ?_
  refine gw_iload1 dX8_copy_5 ?_
  obtain ⟨v2, hc1, h⟩ := ow_b_some h
  refine gw_cSI1 dX8_copy_6 lkX8_103 mkX8_isSheet (ow_rm_in rfl rfl) (ctX8_isSheet l hc1) rfl ?_
  refine gw_if_eq (tgt := 19) dX8_copy_9 rfl (fun h3 => ?_) (fun h3 => ?_)
  · replace h := (if_pos h3).symm.trans h
    refine gw_icm1 dX8_copy_19 ?_
    obtain ⟨hA, hB⟩ := Prod.mk.inj (Option.some.inj h)
    subst hA
    subst hB
    exact gw_iret dX8_copy_20 ⟨rfl, rfl⟩
  · replace h := (if_neg h3).symm.trans h
    refine gw_iload3 dX8_copy_12 ?_
    obtain ⟨v5, hc4, h⟩ := ow_b_some h
    refine gw_cSI1 dX8_copy_13 lkX8_103 mkX8_isSheet (ow_rm_in rfl rfl) (ctX8_isSheet l hc4) rfl ?_
    refine gw_if_ne (tgt := 21) dX8_copy_16 rfl (fun h6 => ?_) (fun h6 => ?_)
    · replace h := (if_neg h6).symm.trans h
      refine gw_aload0 dX8_copy_21 ?_
      refine gw_getR dX8_copy_22 fkX8_9 rfl rfl ?_
      refine gw_iload1 dX8_copy_25 ?_
      by_cases h7 : ow_inn x1 4
      rotate_left
      · replace h := (if_neg h7).symm.trans h
        cases h
      replace h := (if_pos h7).symm.trans h
      refine gw_iald dX8_copy_26 rfl h7 ?_
      refine gw_bipush (-9) dX8_copy_27 (by decide) ?_
      refine gw_icmp_eq (tgt := 43) dX8_copy_29 rfl (fun h8 => ?_) (fun h8 => ?_)
      · replace h := (if_pos h8).symm.trans h
        refine gw_aload0 dX8_copy_43 ?_
        refine gw_ic1 dX8_copy_44 ?_
        obtain ⟨v10, M11, hc9, h⟩ := ow_bd_some h
        refine gw_cVI1 dX8_copy_45 lkX8_114 mkX8_fails (ow_rm_in rfl rfl) rfl rfl (ctX8_fails l hc9) rfl ?_
        obtain ⟨hA, hB⟩ := Prod.mk.inj (Option.some.inj h)
        subst hA
        subst hB
        exact gw_iret dX8_copy_48 ⟨rfl, rfl⟩
      · replace h := (if_neg h8).symm.trans h
        refine gw_aload0 dX8_copy_32 ?_
        refine gw_getR dX8_copy_33 fkX8_9 rfl rfl ?_
        refine gw_iload3 dX8_copy_36 ?_
        by_cases h12 : ow_inn x3 4
        rotate_left
        · replace h := (if_neg h12).symm.trans h
          cases h
        replace h := (if_pos h12).symm.trans h
        refine gw_iald dX8_copy_37 rfl h12 ?_
        refine gw_bipush (-9) dX8_copy_38 (by decide) ?_
        refine gw_icmp_ne (tgt := 49) dX8_copy_40 rfl (fun h13 => ?_) (fun h13 => ?_)
        · replace h := (if_neg h13).symm.trans h
          refine gw_aload0 dX8_copy_49 ?_
          refine gw_getR dX8_copy_50 fkX8_9 rfl rfl ?_
          refine gw_iload1 dX8_copy_53 ?_
          by_cases h14 : ow_inn x1 4
          rotate_left
          · replace h := (if_neg h14).symm.trans h
            cases h
          replace h := (if_pos h14).symm.trans h
          refine gw_iald dX8_copy_54 rfl h14 ?_
          refine gw_aload0 dX8_copy_55 ?_
          refine gw_getR dX8_copy_56 fkX8_9 rfl rfl ?_
          refine gw_iload3 dX8_copy_59 ?_
          by_cases h15 : ow_inn x3 4
          rotate_left
          · replace h := (if_neg h15).symm.trans h
            cases h
          replace h := (if_pos h15).symm.trans h
          refine gw_iald dX8_copy_60 rfl h15 ?_
          refine gw_icmp_eq (tgt := 70) dX8_copy_61 rfl (fun h16 => ?_) (fun h16 => ?_)
          · replace h := (if_pos h16).symm.trans h
            refine gw_iload2 dX8_copy_70 ?_
            refine gw_if_lt (tgt := 109) dX8_copy_71 rfl (fun h17 => ?_) (fun h17 => ?_)
            · replace h := (if_pos h17).symm.trans h
              exact tjX8_copy_109 l h
            · replace h := (if_neg h17).symm.trans h
              refine gw_iload4 dX8_copy_74 ?_
              refine gw_if_lt (tgt := 109) dX8_copy_76 rfl (fun h39 => ?_) (fun h39 => ?_)
              · replace h := (if_pos h39).symm.trans h
                exact tjX8_copy_109 l h
              · replace h := (if_neg h39).symm.trans h
                refine gw_iload5 dX8_copy_79 ?_
                refine gw_if_lt (tgt := 109) dX8_copy_81 rfl (fun h40 => ?_) (fun h40 => ?_)
                · replace h := (if_pos h40).symm.trans h
                  exact tjX8_copy_109 l h
                · replace h := (if_neg h40).symm.trans h
                  refine gw_iload2 dX8_copy_84 ?_
                  refine gw_aload0 dX8_copy_85 ?_
                  refine gw_getR dX8_copy_86 fkX8_13 rfl rfl ?_
                  refine gw_iload1 dX8_copy_89 ?_
                  by_cases h41 : ow_inn x1 4
                  rotate_left
                  · replace h := (if_neg h41).symm.trans h
                    cases h
                  replace h := (if_pos h41).symm.trans h
                  refine gw_iald dX8_copy_90 rfl h41 ?_
                  refine gw_icmp_gt (tgt := 109) dX8_copy_91 rfl (fun h42 => ?_) (fun h42 => ?_)
                  · replace h := (if_pos h42).symm.trans h
                    exact tjX8_copy_109 l h
                  · replace h := (if_neg h42).symm.trans h
                    refine gw_iload4 dX8_copy_94 ?_
                    refine gw_aload0 dX8_copy_96 ?_
                    refine gw_getR dX8_copy_97 fkX8_13 rfl rfl ?_
                    refine gw_iload3 dX8_copy_100 ?_
                    by_cases h43 : ow_inn x3 4
                    rotate_left
                    · replace h := (if_neg h43).symm.trans h
                      cases h
                    replace h := (if_pos h43).symm.trans h
                    refine gw_iald dX8_copy_101 rfl h43 ?_
                    refine gw_icmp_gt (tgt := 109) dX8_copy_102 rfl (fun h44 => ?_) (fun h44 => ?_)
                    · replace h := (if_pos h44).symm.trans h
                      exact tjX8_copy_109 l h
                    · replace h := (if_neg h44).symm.trans h
                      refine gw_ic1 dX8_copy_105 ?_
                      refine gw_goto (tgt := 110) rfl dX8_copy_106 ?_
                      exact tjX8_copy_110 l h
          · replace h := (if_neg h16).symm.trans h
            refine gw_aload0 dX8_copy_64 ?_
            refine gw_ic2 dX8_copy_65 ?_
            obtain ⟨v46, M47, hc45, h⟩ := ow_bd_some h
            refine gw_cVI1 dX8_copy_66 lkX8_114 mkX8_fails (ow_rm_in rfl rfl) rfl rfl (ctX8_fails l hc45) rfl ?_
            obtain ⟨hA, hB⟩ := Prod.mk.inj (Option.some.inj h)
            subst hA
            subst hB
            exact gw_iret dX8_copy_69 ⟨rfl, rfl⟩
        · replace h := (if_pos h13).symm.trans h
          refine gw_aload0 dX8_copy_43 ?_
          refine gw_ic1 dX8_copy_44 ?_
          obtain ⟨v49, M50, hc48, h⟩ := ow_bd_some h
          refine gw_cVI1 dX8_copy_45 lkX8_114 mkX8_fails (ow_rm_in rfl rfl) rfl rfl (ctX8_fails l hc48) rfl ?_
          obtain ⟨hA, hB⟩ := Prod.mk.inj (Option.some.inj h)
          subst hA
          subst hB
          exact gw_iret dX8_copy_48 ⟨rfl, rfl⟩
    · replace h := (if_pos h6).symm.trans h
      refine gw_icm1 dX8_copy_19 ?_
      obtain ⟨hA, hB⟩ := Prod.mk.inj (Option.some.inj h)
      subst hA
      subst hB
      exact gw_iret dX8_copy_20 ⟨rfl, rfl⟩

def fX8_begins (x1 : Int32) (M : ow_M) : Option ow_M := some (ow_up M 34 1 ((31 * (M.1 34 1)) + x1))
set_option maxRecDepth 100000 in
set_option maxHeartbeats 4000000 in
theorem ctX8_begins (l : Launch) {x1 : Int32} {M : ow_M} {M9 : ow_M}  (h : fX8_begins x1 M = some M9) : ow_F l 0 yX8_begins cX8_begins 2 none [.ref 34, .int x1] M none M9 := by
  unfold fX8_begins at h
  refine ow_enterO (own := RX8) rfl (by decide +kernel) rfl (ls := [some (.ref 34), some (.int x1)]) rfl ?_
  refine gw_aload0 dX8_begins_0 ?_
  refine gw_bipush 31 dX8_begins_1 (by decide) ?_
  refine gw_aload0 dX8_begins_3 ?_
  refine gw_getI dX8_begins_4 fkX8_229 rfl rfl ?_
  refine gw_imul dX8_begins_7 ?_
  refine gw_iload1 dX8_begins_8 ?_
  refine gw_iadd dX8_begins_9 ?_
  refine gw_putI dX8_begins_10 fkX8_229 fp8_1 rfl rfl ?_
  have hA := Option.some.inj h
  subst hA
  exact gw_vret dX8_begins_13 ⟨rfl, rfl⟩

def fX8_tell (x1 : Int32) (M : ow_M) : Option (Int32 × ow_M) := Option.bind (fX8_isPerson x1 M) (fun v2 => (if v2 = 0 then some ((-1), M) else if ow_inn x1 7 then if ow_inn x1 7 then (if (M.1 38 x1.toNatClampNeg) = 1 then Option.bind (fX8_begins 2 M) (fun M9 => Option.bind (fX8_begins 1 M9) (fun M12 => some (((M.1 39 x1.toNatClampNeg) + 100), M12))) else (if (M.1 38 x1.toNatClampNeg) = 2 then Option.bind (fX8_begins 3 M) (fun M16 => Option.bind (fX8_begins 2 M16) (fun M19 => Option.bind (fX8_begins 1 M19) (fun M22 => Option.bind (fX8_begins 1 M22) (fun M25 => some (((2 * (M.1 39 x1.toNatClampNeg)) + 100), M25))))) else (Option.bind (fX8_begins 1 M) (fun M28 => some ((M.1 39 x1.toNatClampNeg), M28))))) else none else none))
set_option maxRecDepth 100000 in
set_option maxHeartbeats 4000000 in
theorem ctX8_tell (l : Launch) {x1 : Int32} {M : ow_M} {r : Int32} {M9 : ow_M}  (h : fX8_tell x1 M = some (r, M9)) : ow_F l 1 yX8_tell cX8_tell 3 (some .int) [.ref 34, .int x1] M (some (.int r)) M9 := by
  unfold fX8_tell at h
  refine ow_enterO (own := RX8) rfl (by decide +kernel) rfl (ls := [some (.ref 34), some (.int x1), none]) rfl ?_
  refine gw_aload0 dX8_tell_0 ?_
  refine gw_iload1 dX8_tell_1 ?_
  obtain ⟨v2, hc1, h⟩ := ow_b_some h
  refine gw_cVI1 dX8_tell_2 lkX8_138 mkX8_isPerson (ow_rm_in rfl rfl) rfl rfl (ctX8_isPerson l hc1) rfl ?_
  refine gw_if_ne (tgt := 10) dX8_tell_5 rfl (fun h3 => ?_) (fun h3 => ?_)
  · replace h := (if_neg h3).symm.trans h
    refine gw_aload0 dX8_tell_10 ?_
    refine gw_getR dX8_tell_11 fkX8_22 rfl rfl ?_
    refine gw_iload1 dX8_tell_14 ?_
    by_cases h4 : ow_inn x1 7
    rotate_left
    · replace h := (if_neg h4).symm.trans h
      cases h
    replace h := (if_pos h4).symm.trans h
    refine gw_iald dX8_tell_15 rfl h4 ?_
    refine gw_istore2 dX8_tell_16 (by decide) rfl ?_
    refine gw_aload0 dX8_tell_17 ?_
    refine gw_getR dX8_tell_18 fkX8_19 rfl rfl ?_
    refine gw_iload1 dX8_tell_21 ?_
    by_cases h5 : ow_inn x1 7
    rotate_left
    · replace h := (if_neg h5).symm.trans h
      cases h
    replace h := (if_pos h5).symm.trans h
    refine gw_iald dX8_tell_22 rfl h5 ?_
    by_cases h6 : (M.1 38 x1.toNatClampNeg) = 1
    · replace h := (if_pos h6).symm.trans h
      refine gw_lookup (off := 25) (tgt := 48) dX8_tell_23 (by decide) (by rw [h6]; rfl) rfl ?_
      refine gw_aload0 dX8_tell_48 ?_
      refine gw_ic2 dX8_tell_49 ?_
      obtain ⟨M9, hc7, h⟩ := ow_b_some h
      refine gw_cVV1 dX8_tell_50 lkX8_232 mkX8_begins (ow_rm_in rfl rfl) rfl rfl (ctX8_begins l hc7) rfl ?_
      refine gw_aload0 dX8_tell_53 ?_
      refine gw_ic1 dX8_tell_54 ?_
      obtain ⟨M12, hc10, h⟩ := ow_b_some h
      refine gw_cVV1 dX8_tell_55 lkX8_232 mkX8_begins (ow_rm_in rfl rfl) rfl rfl (ctX8_begins l hc10) rfl ?_
      refine gw_iload2 dX8_tell_58 ?_
      refine gw_bipush 100 dX8_tell_59 (by decide) ?_
      refine gw_iadd dX8_tell_61 ?_
      obtain ⟨hA, hB⟩ := Prod.mk.inj (Option.some.inj h)
      subst hA
      subst hB
      exact gw_iret dX8_tell_62 ⟨rfl, rfl⟩
    replace h := (if_neg h6).symm.trans h
    by_cases h13 : (M.1 38 x1.toNatClampNeg) = 2
    · replace h := (if_pos h13).symm.trans h
      refine gw_lookup (off := 40) (tgt := 63) dX8_tell_23 (by decide) (by rw [h13]; rfl) rfl ?_
      refine gw_aload0 dX8_tell_63 ?_
      refine gw_ic3 dX8_tell_64 ?_
      obtain ⟨M16, hc14, h⟩ := ow_b_some h
      refine gw_cVV1 dX8_tell_65 lkX8_232 mkX8_begins (ow_rm_in rfl rfl) rfl rfl (ctX8_begins l hc14) rfl ?_
      refine gw_aload0 dX8_tell_68 ?_
      refine gw_ic2 dX8_tell_69 ?_
      obtain ⟨M19, hc17, h⟩ := ow_b_some h
      refine gw_cVV1 dX8_tell_70 lkX8_232 mkX8_begins (ow_rm_in rfl rfl) rfl rfl (ctX8_begins l hc17) rfl ?_
      refine gw_aload0 dX8_tell_73 ?_
      refine gw_ic1 dX8_tell_74 ?_
      obtain ⟨M22, hc20, h⟩ := ow_b_some h
      refine gw_cVV1 dX8_tell_75 lkX8_232 mkX8_begins (ow_rm_in rfl rfl) rfl rfl (ctX8_begins l hc20) rfl ?_
      refine gw_aload0 dX8_tell_78 ?_
      refine gw_ic1 dX8_tell_79 ?_
      obtain ⟨M25, hc23, h⟩ := ow_b_some h
      refine gw_cVV1 dX8_tell_80 lkX8_232 mkX8_begins (ow_rm_in rfl rfl) rfl rfl (ctX8_begins l hc23) rfl ?_
      refine gw_ic2 dX8_tell_83 ?_
      refine gw_iload2 dX8_tell_84 ?_
      refine gw_imul dX8_tell_85 ?_
      refine gw_bipush 100 dX8_tell_86 (by decide) ?_
      refine gw_iadd dX8_tell_88 ?_
      obtain ⟨hA, hB⟩ := Prod.mk.inj (Option.some.inj h)
      subst hA
      subst hB
      exact gw_iret dX8_tell_89 ⟨rfl, rfl⟩
    replace h := (if_neg h13).symm.trans h
    have eh6 := ow_neI 1 1 (by decide) h6
    have eh13 := ow_neI 2 2 (by decide) h13
    refine gw_lookup (off := 67) (tgt := 90) dX8_tell_23 (by decide) (by simp [Op.lookupswitch.offset, eh6, Ne.symm eh6, eh13, Ne.symm eh13]) rfl ?_
    refine gw_aload0 dX8_tell_90 ?_
    refine gw_ic1 dX8_tell_91 ?_
    obtain ⟨M28, hc26, h⟩ := ow_b_some h
    refine gw_cVV1 dX8_tell_92 lkX8_232 mkX8_begins (ow_rm_in rfl rfl) rfl rfl (ctX8_begins l hc26) rfl ?_
    refine gw_iload2 dX8_tell_95 ?_
    obtain ⟨hA, hB⟩ := Prod.mk.inj (Option.some.inj h)
    subst hA
    subst hB
    exact gw_iret dX8_tell_96 ⟨rfl, rfl⟩
  · replace h := (if_pos h3).symm.trans h
    refine gw_icm1 dX8_tell_8 ?_
    obtain ⟨hA, hB⟩ := Prod.mk.inj (Option.some.inj h)
    subst hA
    subst hB
    exact gw_iret dX8_tell_9 ⟨rfl, rfl⟩

def jX8_lean_26 (x1 : Int32) (s1 : Int32) (M : ow_M) : Option (Int32 × ow_M) := Option.bind (fX8_begins s1 M) (fun M8 => if ow_inn x1 7 then (if (M8.1 38 x1.toNatClampNeg) = 2 then some (70, M8) else some (x1, M8)) else none)
set_option maxRecDepth 100000 in
set_option maxHeartbeats 4000000 in
theorem tjX8_lean_26 (l : Launch) {x1 : Int32} {s1 : Int32} {M : ow_M} {r : Int32} {M9 : ow_M}  (h : jX8_lean_26 x1 s1 M = some (r, M9)) : ow_G (ow_Γ l 1 (some .int) (ow_is (some (.int r)) M9)) RX8 cX8_lean 2 26 [some (.ref 34), some (.int x1)] [.int s1, .ref 34] M := by
  unfold jX8_lean_26 at h
  obtain ⟨M8, hc6, h⟩ := ow_b_some h
  refine gw_cVV1 dX8_lean_26 lkX8_232 mkX8_begins (ow_rm_in rfl rfl) rfl rfl (ctX8_begins l hc6) rfl ?_
  refine gw_aload0 dX8_lean_29 ?_
  refine gw_getR dX8_lean_30 fkX8_19 rfl rfl ?_
  refine gw_iload1 dX8_lean_33 ?_
  by_cases h9 : ow_inn x1 7
  rotate_left
  · replace h := (if_neg h9).symm.trans h
    cases h
  replace h := (if_pos h9).symm.trans h
  refine gw_iald dX8_lean_34 rfl h9 ?_
  refine gw_ic2 dX8_lean_35 ?_
  refine gw_icmp_ne (tgt := 44) dX8_lean_36 rfl (fun h10 => ?_) (fun h10 => ?_)
  · replace h := (if_neg h10).symm.trans h
    refine gw_iload1 dX8_lean_44 ?_
    obtain ⟨hA, hB⟩ := Prod.mk.inj (Option.some.inj h)
    subst hA
    subst hB
    exact gw_iret dX8_lean_45 ⟨rfl, rfl⟩
  · replace h := (if_pos h10).symm.trans h
    refine gw_bipush 70 dX8_lean_39 (by decide) ?_
    refine gw_goto (tgt := 45) rfl dX8_lean_41 ?_
    obtain ⟨hA, hB⟩ := Prod.mk.inj (Option.some.inj h)
    subst hA
    subst hB
    exact gw_iret dX8_lean_45 ⟨rfl, rfl⟩

def fX8_lean (x1 : Int32) (M : ow_M) : Option (Int32 × ow_M) := Option.bind (fX8_isPerson x1 M) (fun v2 => (if v2 = 0 then some ((-1), M) else if ow_inn x1 7 then (if (M.1 38 x1.toNatClampNeg) = 2 then jX8_lean_26 x1 5 M else jX8_lean_26 x1 4 M) else none))
set_option maxRecDepth 100000 in
set_option maxHeartbeats 4000000 in
theorem ctX8_lean (l : Launch) {x1 : Int32} {M : ow_M} {r : Int32} {M9 : ow_M}  (h : fX8_lean x1 M = some (r, M9)) : ow_F l 1 yX8_lean cX8_lean 2 (some .int) [.ref 34, .int x1] M (some (.int r)) M9 := by
  unfold fX8_lean at h
  refine ow_enterO (own := RX8) rfl (by decide +kernel) rfl (ls := [some (.ref 34), some (.int x1)]) rfl ?_
  refine gw_aload0 dX8_lean_0 ?_
  refine gw_iload1 dX8_lean_1 ?_
  obtain ⟨v2, hc1, h⟩ := ow_b_some h
  refine gw_cVI1 dX8_lean_2 lkX8_138 mkX8_isPerson (ow_rm_in rfl rfl) rfl rfl (ctX8_isPerson l hc1) rfl ?_
  refine gw_if_ne (tgt := 10) dX8_lean_5 rfl (fun h3 => ?_) (fun h3 => ?_)
  · replace h := (if_neg h3).symm.trans h
    refine gw_aload0 dX8_lean_10 ?_
    refine gw_aload0 dX8_lean_11 ?_
    refine gw_getR dX8_lean_12 fkX8_19 rfl rfl ?_
    refine gw_iload1 dX8_lean_15 ?_
    by_cases h4 : ow_inn x1 7
    rotate_left
    · replace h := (if_neg h4).symm.trans h
      cases h
    replace h := (if_pos h4).symm.trans h
    refine gw_iald dX8_lean_16 rfl h4 ?_
    refine gw_ic2 dX8_lean_17 ?_
    refine gw_icmp_ne (tgt := 25) dX8_lean_18 rfl (fun h5 => ?_) (fun h5 => ?_)
    · replace h := (if_neg h5).symm.trans h
      refine gw_ic4 dX8_lean_25 ?_
      exact tjX8_lean_26 l h
    · replace h := (if_pos h5).symm.trans h
      refine gw_ic5 dX8_lean_21 ?_
      refine gw_goto (tgt := 26) rfl dX8_lean_22 ?_
      exact tjX8_lean_26 l h
  · replace h := (if_pos h3).symm.trans h
    refine gw_icm1 dX8_lean_8 ?_
    obtain ⟨hA, hB⟩ := Prod.mk.inj (Option.some.inj h)
    subst hA
    subst hB
    exact gw_iret dX8_lean_9 ⟨rfl, rfl⟩

def fX8_as (x1 : Int32) (x2 : Int32) (M : ow_M) : Option (Int32 × ow_M) := Option.bind (fX8_isPerson x1 (ow_up M 34 0 0)) (fun v2 => (if v2 = 0 then some ((-1), (ow_up M 34 0 0)) else Option.bind (fX8_within x2 0 2) (fun v5 => (if v5 = 0 then some ((-2), (ow_up M 34 0 0)) else if ow_inn x1 7 then (if ((ow_up M 34 0 0).1 38 x1.toNatClampNeg) < x2 then ow_bd (fX8_fails 2 (ow_up M 34 0 0)) (fun v10 M11 => some (v10, M11)) else some (1, (ow_up M 34 0 0))) else none))))
set_option maxRecDepth 100000 in
set_option maxHeartbeats 4000000 in
theorem ctX8_as (l : Launch) {x1 : Int32} {x2 : Int32} {M : ow_M} {r : Int32} {M9 : ow_M}  (h : fX8_as x1 x2 M = some (r, M9)) : ow_F l 1 yX8_as cX8_as 3 (some .int) [.ref 34, .int x1, .int x2] M (some (.int r)) M9 := by
  unfold fX8_as at h
  refine ow_enterO (own := RX8) rfl (by decide +kernel) rfl (ls := [some (.ref 34), some (.int x1), some (.int x2)]) rfl ?_
  refine gw_aload0 dX8_as_0 ?_
  refine gw_ic0 dX8_as_1 ?_
  refine gw_putI dX8_as_2 fkX8_76 fp8_0 rfl rfl ?_
  refine gw_aload0 dX8_as_5 ?_
  refine gw_iload1 dX8_as_6 ?_
  obtain ⟨v2, hc1, h⟩ := ow_b_some h
  refine gw_cVI1 dX8_as_7 lkX8_138 mkX8_isPerson (ow_rm_in rfl rfl) rfl rfl (ctX8_isPerson l hc1) rfl ?_
  refine gw_if_ne (tgt := 15) dX8_as_10 rfl (fun h3 => ?_) (fun h3 => ?_)
  · replace h := (if_neg h3).symm.trans h
    refine gw_iload2 dX8_as_15 ?_
    refine gw_ic0 dX8_as_16 ?_
    refine gw_ic2 dX8_as_17 ?_
    obtain ⟨v5, hc4, h⟩ := ow_b_some h
    refine gw_cSI3 dX8_as_18 lkX8_82 mkX8_within (ow_rm_in rfl rfl) (ctX8_within l hc4) rfl ?_
    refine gw_if_ne (tgt := 27) dX8_as_21 rfl (fun h6 => ?_) (fun h6 => ?_)
    · replace h := (if_neg h6).symm.trans h
      refine gw_aload0 dX8_as_27 ?_
      refine gw_getR dX8_as_28 fkX8_19 rfl rfl ?_
      refine gw_iload1 dX8_as_31 ?_
      by_cases h7 : ow_inn x1 7
      rotate_left
      · replace h := (if_neg h7).symm.trans h
        cases h
      replace h := (if_pos h7).symm.trans h
      refine gw_iald dX8_as_32 rfl h7 ?_
      refine gw_iload2 dX8_as_33 ?_
      refine gw_icmp_lt (tgt := 41) dX8_as_34 rfl (fun h8 => ?_) (fun h8 => ?_)
      · replace h := (if_pos h8).symm.trans h
        refine gw_aload0 dX8_as_41 ?_
        refine gw_ic2 dX8_as_42 ?_
        obtain ⟨v10, M11, hc9, h⟩ := ow_bd_some h
        refine gw_cVI1 dX8_as_43 lkX8_114 mkX8_fails (ow_rm_in rfl rfl) rfl rfl (ctX8_fails l hc9) rfl ?_
        obtain ⟨hA, hB⟩ := Prod.mk.inj (Option.some.inj h)
        subst hA
        subst hB
        exact gw_iret dX8_as_46 ⟨rfl, rfl⟩
      · replace h := (if_neg h8).symm.trans h
        refine gw_ic1 dX8_as_37 ?_
        refine gw_goto (tgt := 46) rfl dX8_as_38 ?_
        obtain ⟨hA, hB⟩ := Prod.mk.inj (Option.some.inj h)
        subst hA
        subst hB
        exact gw_iret dX8_as_46 ⟨rfl, rfl⟩
    · replace h := (if_pos h6).symm.trans h
      refine gw_bipush (-2) dX8_as_24 (by decide) ?_
      obtain ⟨hA, hB⟩ := Prod.mk.inj (Option.some.inj h)
      subst hA
      subst hB
      exact gw_iret dX8_as_26 ⟨rfl, rfl⟩
  · replace h := (if_pos h3).symm.trans h
    refine gw_icm1 dX8_as_13 ?_
    obtain ⟨hA, hB⟩ := Prod.mk.inj (Option.some.inj h)
    subst hA
    subst hB
    exact gw_iret dX8_as_14 ⟨rfl, rfl⟩

def fX8_trace  (M : ow_M) : Option Int32 := some (M.1 34 1)
set_option maxRecDepth 100000 in
set_option maxHeartbeats 4000000 in
theorem ctX8_trace (l : Launch)  {M : ow_M} {r : Int32}  (h : fX8_trace M = some r) : ow_F l 0 yX8_trace cX8_trace 1 (some .int) [.ref 34] M (some (.int r)) M := by
  unfold fX8_trace at h
  refine ow_enterO (own := RX8) rfl (by decide +kernel) rfl (ls := [some (.ref 34)]) rfl ?_
  refine gw_aload0 dX8_trace_0 ?_
  refine gw_getI dX8_trace_1 fkX8_229 rfl rfl ?_
  have hA := Option.some.inj h
  subst hA
  exact gw_iret dX8_trace_4 ⟨rfl, rfl⟩

def fX8_fault  (M : ow_M) : Option Int32 := some (M.1 34 0)
set_option maxRecDepth 100000 in
set_option maxHeartbeats 4000000 in
theorem ctX8_fault (l : Launch)  {M : ow_M} {r : Int32}  (h : fX8_fault M = some r) : ow_F l 0 yX8_fault cX8_fault 1 (some .int) [.ref 34] M (some (.int r)) M := by
  unfold fX8_fault at h
  refine ow_enterO (own := RX8) rfl (by decide +kernel) rfl (ls := [some (.ref 34)]) rfl ?_
  refine gw_aload0 dX8_fault_0 ?_
  refine gw_getI dX8_fault_1 fkX8_76 rfl rfl ?_
  have hA := Option.some.inj h
  subst hA
  exact gw_iret dX8_fault_4 ⟨rfl, rfl⟩

def lpX8_walled_7  (M : ow_M) (k : Int32 → Int32 → Option Int32) : Nat → Int32 → Int32 → Option Int32
  | 0, _, _ => none
  | n + 1, x1, x2 => (if x2 ≤ 0 then k x1 x2 else lpX8_walled_7  M k n (x1 + (x2 &&& 1)) (x2 >>> (1 &&& 31)))
set_option maxRecDepth 100000 in
set_option maxHeartbeats 4000000 in
theorem tlpX8_walled_7 (l : Launch)  {M : ow_M} {k : Int32 → Int32 → Option Int32} {r : Int32}  (hk : ∀ (x1 : Int32) (x2 : Int32), k x1 x2 = some r → ow_G (ow_Γ l 0 (some .int) (ow_is (some (.int r)) M)) RX8 cX8_walled 3 24 [none, some (.int x1), some (.int x2)] [] M) : ∀ (n : Nat) (x1 : Int32) (x2 : Int32), lpX8_walled_7  M k n x1 x2 = some r → ow_G (ow_Γ l 0 (some .int) (ow_is (some (.int r)) M)) RX8 cX8_walled 3 7 [none, some (.int x1), some (.int x2)] [] M := by
  intro n
  induction n with
  | zero => intro _ _ h; cases h
  | succ n ih =>
    intro x1 x2 h
    unfold lpX8_walled_7 at h
    refine gw_iload2 dX8_walled_7 ?_
    refine gw_if_le (tgt := 24) dX8_walled_8 rfl (fun h1 => ?_) (fun h1 => ?_)
    · replace h := (if_pos h1).symm.trans h
      exact hk _ _ h
    · replace h := (if_neg h1).symm.trans h
      refine gw_iload1 dX8_walled_11 ?_
      refine gw_iload2 dX8_walled_12 ?_
      refine gw_ic1 dX8_walled_13 ?_
      refine gw_iand dX8_walled_14 ?_
      refine gw_iadd dX8_walled_15 ?_
      refine gw_istore1 dX8_walled_16 (by decide) rfl ?_
      refine gw_iload2 dX8_walled_17 ?_
      refine gw_ic1 dX8_walled_18 ?_
      refine gw_ishr dX8_walled_19 ?_
      refine gw_istore2 dX8_walled_20 (by decide) rfl ?_
      refine gw_goto (tgt := 7) rfl dX8_walled_21 ?_
      exact ih _ _ h

def fX8_walled  (M : ow_M) : Option Int32 := lpX8_walled_7 M (fun u2 u3 => some u2) ow_N 0 (M.1 34 7)
set_option maxRecDepth 100000 in
set_option maxHeartbeats 4000000 in
theorem ctX8_walled (l : Launch)  {M : ow_M} {r : Int32}  (h : fX8_walled M = some r) : ow_F l 0 yX8_walled cX8_walled 3 (some .int) [.ref 34] M (some (.int r)) M := by
  unfold fX8_walled at h
  refine ow_enterO (own := RX8) rfl (by decide +kernel) rfl (ls := [some (.ref 34), none, none]) rfl ?_
  refine gw_ic0 dX8_walled_0 ?_
  refine gw_istore1 dX8_walled_1 (by decide) rfl ?_
  refine gw_aload0 dX8_walled_2 ?_
  refine gw_getI dX8_walled_3 fkX8_97 rfl rfl ?_
  refine gw_istore2 dX8_walled_6 (by decide) rfl ?_
  refine gw_drp0 ?_
  refine tlpX8_walled_7 l ?_ _ _ _ h
  intro u2 u3 h
  refine gw_iload1 dX8_walled_24 ?_
  have hA := Option.some.inj h
  subst hA
  exact gw_iret dX8_walled_25 ⟨rfl, rfl⟩

def fX8_many (x1 : Int32) (M : ow_M) : Option Int32 := (if x1 = 0 then some (M.1 34 5) else (if x1 = 1 then Option.bind (fX8_edges M) (fun v4 => some v4) else (if x1 = 2 then Option.bind (fX8_walled M) (fun v7 => some v7) else (if x1 = 3 then some (M.1 34 27) else (if x1 = 4 then (if (M.1 34 6) = 0 then some 0 else some 1) else (some (-2)))))))
set_option maxRecDepth 100000 in
set_option maxHeartbeats 4000000 in
theorem ctX8_many (l : Launch) {x1 : Int32} {M : ow_M} {r : Int32}  (h : fX8_many x1 M = some r) : ow_F l 1 yX8_many cX8_many 2 (some .int) [.ref 34, .int x1] M (some (.int r)) M := by
  unfold fX8_many at h
  refine ow_enterO (own := RX8) rfl (by decide +kernel) rfl (ls := [some (.ref 34), some (.int x1)]) rfl ?_
  refine gw_iload1 dX8_many_0 ?_
  by_cases h1 : x1 = 0
  · replace h := (if_pos h1).symm.trans h
    refine gw_tableIn (tgt := 36) dX8_many_1 (by rw [h1]; decide) (by rw [h1]; decide) (by rw [h1]; rfl) rfl ?_
    refine gw_aload0 dX8_many_36 ?_
    refine gw_getI dX8_many_37 fkX8_86 rfl rfl ?_
    have hA := Option.some.inj h
    subst hA
    exact gw_iret dX8_many_40 ⟨rfl, rfl⟩
  replace h := (if_neg h1).symm.trans h
  by_cases h2 : x1 = 1
  · replace h := (if_pos h2).symm.trans h
    refine gw_tableIn (tgt := 41) dX8_many_1 (by rw [h2]; decide) (by rw [h2]; decide) (by rw [h2]; rfl) rfl ?_
    refine gw_aload0 dX8_many_41 ?_
    obtain ⟨v4, hc3, h⟩ := ow_b_some h
    refine gw_cVI0 dX8_many_42 lkX8_93 mkX8_edges (ow_rm_in rfl rfl) rfl rfl (ctX8_edges l hc3) rfl ?_
    have hA := Option.some.inj h
    subst hA
    exact gw_iret dX8_many_45 ⟨rfl, rfl⟩
  replace h := (if_neg h2).symm.trans h
  by_cases h5 : x1 = 2
  · replace h := (if_pos h5).symm.trans h
    refine gw_tableIn (tgt := 46) dX8_many_1 (by rw [h5]; decide) (by rw [h5]; decide) (by rw [h5]; rfl) rfl ?_
    refine gw_aload0 dX8_many_46 ?_
    obtain ⟨v7, hc6, h⟩ := ow_b_some h
    refine gw_cVI0 dX8_many_47 lkX8_236 mkX8_walled (ow_rm_in rfl rfl) rfl rfl (ctX8_walled l hc6) rfl ?_
    have hA := Option.some.inj h
    subst hA
    exact gw_iret dX8_many_50 ⟨rfl, rfl⟩
  replace h := (if_neg h5).symm.trans h
  by_cases h8 : x1 = 3
  · replace h := (if_pos h8).symm.trans h
    refine gw_tableIn (tgt := 51) dX8_many_1 (by rw [h8]; decide) (by rw [h8]; decide) (by rw [h8]; rfl) rfl ?_
    refine gw_aload0 dX8_many_51 ?_
    refine gw_getI dX8_many_52 fkX8_127 rfl rfl ?_
    have hA := Option.some.inj h
    subst hA
    exact gw_iret dX8_many_55 ⟨rfl, rfl⟩
  replace h := (if_neg h8).symm.trans h
  by_cases h9 : x1 = 4
  · replace h := (if_pos h9).symm.trans h
    refine gw_tableIn (tgt := 56) dX8_many_1 (by rw [h9]; decide) (by rw [h9]; decide) (by rw [h9]; rfl) rfl ?_
    refine gw_aload0 dX8_many_56 ?_
    refine gw_getI dX8_many_57 fkX8_89 rfl rfl ?_
    refine gw_if_eq (tgt := 67) dX8_many_60 rfl (fun h10 => ?_) (fun h10 => ?_)
    · replace h := (if_pos h10).symm.trans h
      refine gw_ic0 dX8_many_67 ?_
      have hA := Option.some.inj h
      subst hA
      exact gw_iret dX8_many_68 ⟨rfl, rfl⟩
    · replace h := (if_neg h10).symm.trans h
      refine gw_ic1 dX8_many_63 ?_
      refine gw_goto (tgt := 68) rfl dX8_many_64 ?_
      have hA := Option.some.inj h
      subst hA
      exact gw_iret dX8_many_68 ⟨rfl, rfl⟩
  replace h := (if_neg h9).symm.trans h
  have eh1 := ow_neI 0 0 (by decide) h1
  have eh2 := ow_neI 1 1 (by decide) h2
  have eh5 := ow_neI 2 2 (by decide) h5
  have eh8 := ow_neI 3 3 (by decide) h8
  have eh9 := ow_neI 4 4 (by decide) h9
  refine gw_tableOut (tgt := 69) dX8_many_1 (by omega) rfl ?_
  refine gw_bipush (-2) dX8_many_69 (by decide) ?_
  have hA := Option.some.inj h
  subst hA
  exact gw_iret dX8_many_71 ⟨rfl, rfl⟩

