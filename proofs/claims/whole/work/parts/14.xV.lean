def fX7_isSheet (x0 : Int32) : Option Int32 := (if x0 < 0 then some 0 else (if 4 ≤ x0 then some 0 else some 1))
set_option maxRecDepth 100000 in
set_option maxHeartbeats 4000000 in
theorem ctX7_isSheet (l : Launch) {x0 : Int32} {M : ow_M} {r : Int32}  (h : fX7_isSheet x0 = some r) : ow_F l 0 yX7_isSheet cX7_isSheet 1 (some .boolean) [.int x0] M (some (.int r)) M := by
  unfold fX7_isSheet at h
  refine ow_enterO (own := RX7) rfl (by decide +kernel) rfl (ls := [some (.int x0)]) rfl ?_
  refine gw_iload0 dX7_isSheet_0 ?_
  refine gw_if_lt (tgt := 13) dX7_isSheet_1 rfl (fun h1 => ?_) (fun h1 => ?_)
  · replace h := (if_pos h1).symm.trans h
    refine gw_ic0 dX7_isSheet_13 ?_
    have hA := Option.some.inj h
    subst hA
    exact gw_zret (Or.inl rfl) dX7_isSheet_14 ⟨rfl, rfl⟩
  · replace h := (if_neg h1).symm.trans h
    refine gw_iload0 dX7_isSheet_4 ?_
    refine gw_ic4 dX7_isSheet_5 ?_
    refine gw_icmp_ge (tgt := 13) dX7_isSheet_6 rfl (fun h2 => ?_) (fun h2 => ?_)
    · replace h := (if_pos h2).symm.trans h
      refine gw_ic0 dX7_isSheet_13 ?_
      have hA := Option.some.inj h
      subst hA
      exact gw_zret (Or.inl rfl) dX7_isSheet_14 ⟨rfl, rfl⟩
    · replace h := (if_neg h2).symm.trans h
      refine gw_ic1 dX7_isSheet_9 ?_
      refine gw_goto (tgt := 14) rfl dX7_isSheet_10 ?_
      have hA := Option.some.inj h
      subst hA
      exact gw_zret (Or.inr rfl) dX7_isSheet_14 ⟨rfl, rfl⟩

def fX7_isLane (x0 : Int32) : Option Int32 := (if x0 < 0 then some 0 else (if 3 ≤ x0 then some 0 else some 1))
set_option maxRecDepth 100000 in
set_option maxHeartbeats 4000000 in
theorem ctX7_isLane (l : Launch) {x0 : Int32} {M : ow_M} {r : Int32}  (h : fX7_isLane x0 = some r) : ow_F l 0 yX7_isLane cX7_isLane 1 (some .boolean) [.int x0] M (some (.int r)) M := by
  unfold fX7_isLane at h
  refine ow_enterO (own := RX7) rfl (by decide +kernel) rfl (ls := [some (.int x0)]) rfl ?_
  refine gw_iload0 dX7_isLane_0 ?_
  refine gw_if_lt (tgt := 13) dX7_isLane_1 rfl (fun h1 => ?_) (fun h1 => ?_)
  · replace h := (if_pos h1).symm.trans h
    refine gw_ic0 dX7_isLane_13 ?_
    have hA := Option.some.inj h
    subst hA
    exact gw_zret (Or.inl rfl) dX7_isLane_14 ⟨rfl, rfl⟩
  · replace h := (if_neg h1).symm.trans h
    refine gw_iload0 dX7_isLane_4 ?_
    refine gw_ic3 dX7_isLane_5 ?_
    refine gw_icmp_ge (tgt := 13) dX7_isLane_6 rfl (fun h2 => ?_) (fun h2 => ?_)
    · replace h := (if_pos h2).symm.trans h
      refine gw_ic0 dX7_isLane_13 ?_
      have hA := Option.some.inj h
      subst hA
      exact gw_zret (Or.inl rfl) dX7_isLane_14 ⟨rfl, rfl⟩
    · replace h := (if_neg h2).symm.trans h
      refine gw_ic1 dX7_isLane_9 ?_
      refine gw_goto (tgt := 14) rfl dX7_isLane_10 ?_
      have hA := Option.some.inj h
      subst hA
      exact gw_zret (Or.inr rfl) dX7_isLane_14 ⟨rfl, rfl⟩

def fX7_failed (x1 : Int32) (M : ow_M) : Option (Int32 × ow_M) := some (((-10) - x1), (ow_up M 0 8 x1))
set_option maxRecDepth 100000 in
set_option maxHeartbeats 4000000 in
theorem ctX7_failed (l : Launch) {x1 : Int32} {M : ow_M} {r : Int32} {M9 : ow_M}  (h : fX7_failed x1 M = some (r, M9)) : ow_F l 0 yX7_failed cX7_failed 2 (some .int) [.ref 0, .int x1] M (some (.int r)) M9 := by
  unfold fX7_failed at h
  refine ow_enterO (own := RX7) rfl (by decide +kernel) rfl (ls := [some (.ref 0), some (.int x1)]) rfl ?_
  refine gw_aload0 dX7_failed_0 ?_
  refine gw_iload1 dX7_failed_1 ?_
  refine gw_putI dX7_failed_2 fkX7_63 fp7_8 rfl rfl ?_
  refine gw_bipush (-10) dX7_failed_5 (by decide) ?_
  refine gw_iload1 dX7_failed_7 ?_
  refine gw_isub dX7_failed_8 ?_
  obtain ⟨hA, hB⟩ := Prod.mk.inj (Option.some.inj h)
  subst hA
  subst hB
  exact gw_iret dX7_failed_9 ⟨rfl, rfl⟩

def fX7_isDigit (x0 : Int32) (x1 : Int32) : Option Int32 := (if x0 < 48 then some 0 else (if (48 + x1) < x0 then some 0 else some 1))
set_option maxRecDepth 100000 in
set_option maxHeartbeats 4000000 in
theorem ctX7_isDigit (l : Launch) {x0 : Int32} {x1 : Int32} {M : ow_M} {r : Int32}  (h : fX7_isDigit x0 x1 = some r) : ow_F l 0 yX7_isDigit cX7_isDigit 2 (some .boolean) [.int x0, .int x1] M (some (.int r)) M := by
  unfold fX7_isDigit at h
  refine ow_enterO (own := RX7) rfl (by decide +kernel) rfl (ls := [some (.int x0), some (.int x1)]) rfl ?_
  refine gw_iload0 dX7_isDigit_0 ?_
  refine gw_bipush 48 dX7_isDigit_1 (by decide) ?_
  refine gw_icmp_lt (tgt := 18) dX7_isDigit_3 rfl (fun h1 => ?_) (fun h1 => ?_)
  · replace h := (if_pos h1).symm.trans h
    refine gw_ic0 dX7_isDigit_18 ?_
    have hA := Option.some.inj h
    subst hA
    exact gw_zret (Or.inl rfl) dX7_isDigit_19 ⟨rfl, rfl⟩
  · replace h := (if_neg h1).symm.trans h
    refine gw_iload0 dX7_isDigit_6 ?_
    refine gw_bipush 48 dX7_isDigit_7 (by decide) ?_
    refine gw_iload1 dX7_isDigit_9 ?_
    refine gw_iadd dX7_isDigit_10 ?_
    refine gw_icmp_gt (tgt := 18) dX7_isDigit_11 rfl (fun h2 => ?_) (fun h2 => ?_)
    · replace h := (if_pos h2).symm.trans h
      refine gw_ic0 dX7_isDigit_18 ?_
      have hA := Option.some.inj h
      subst hA
      exact gw_zret (Or.inl rfl) dX7_isDigit_19 ⟨rfl, rfl⟩
    · replace h := (if_neg h2).symm.trans h
      refine gw_ic1 dX7_isDigit_14 ?_
      refine gw_goto (tgt := 19) rfl dX7_isDigit_15 ?_
      have hA := Option.some.inj h
      subst hA
      exact gw_zret (Or.inr rfl) dX7_isDigit_19 ⟨rfl, rfl⟩

def fX7_goesOn (x0 : Int32) (x1 : Int32) : Option Int32 := (if x0 = 0 then (if x1 = 119 then some 1 else some 0) else (if x0 = 1 then Option.bind (fX7_isDigit x1 1) (fun v18 => if v18 = 0 ∨ v18 = 1 then some v18 else none) else (if x0 < 37 then (if ((x0 - 2) - (x0 - 2) / 5 * 5) = 0 then (if x1 = 59 then some 1 else some 0) else (if ((x0 - 2) - (x0 - 2) / 5 * 5) = 1 then (if x1 = 112 then some 1 else (if x1 = 103 then some 1 else (if x1 = 116 then some 1 else some 0))) else (if ((x0 - 2) - (x0 - 2) / 5 * 5) = 2 then Option.bind (fX7_isDigit x1 9) (fun v12 => if v12 = 0 ∨ v12 = 1 then some v12 else none) else (Option.bind (fX7_isDigit x1 3) (fun v15 => if v15 = 0 ∨ v15 = 1 then some v15 else none))))) else some 0)))
set_option maxRecDepth 100000 in
set_option maxHeartbeats 4000000 in
theorem ctX7_goesOn (l : Launch) {x0 : Int32} {x1 : Int32} {M : ow_M} {r : Int32}  (h : fX7_goesOn x0 x1 = some r) : ow_F l 1 yX7_goesOn cX7_goesOn 2 (some .boolean) [.int x0, .int x1] M (some (.int r)) M := by
  unfold fX7_goesOn at h
  refine ow_enterO (own := RX7) rfl (by decide +kernel) rfl (ls := [some (.int x0), some (.int x1)]) rfl ?_
  refine gw_iload0 dX7_goesOn_0 ?_
  refine gw_if_ne (tgt := 16) dX7_goesOn_1 rfl (fun h1 => ?_) (fun h1 => ?_)
  · replace h := (if_neg h1).symm.trans h
    refine gw_iload0 dX7_goesOn_16 ?_
    refine gw_ic1 dX7_goesOn_17 ?_
    refine gw_icmp_ne (tgt := 27) dX7_goesOn_18 rfl (fun h2 => ?_) (fun h2 => ?_)
    · replace h := (if_neg h2).symm.trans h
      refine gw_iload0 dX7_goesOn_27 ?_
      refine gw_bipush 37 dX7_goesOn_28 (by decide) ?_
      refine gw_icmp_lt (tgt := 35) dX7_goesOn_30 rfl (fun h3 => ?_) (fun h3 => ?_)
      · replace h := (if_pos h3).symm.trans h
        refine gw_iload0 dX7_goesOn_35 ?_
        refine gw_ic2 dX7_goesOn_36 ?_
        refine gw_isub dX7_goesOn_37 ?_
        refine gw_ic5 dX7_goesOn_38 ?_
        refine gw_irem (by decide) dX7_goesOn_39 ?_
        by_cases h4 : ((x0 - 2) - (x0 - 2) / 5 * 5) = 0
        · replace h := (if_pos h4).symm.trans h
          refine gw_tableIn (tgt := 68) dX7_goesOn_40 (by rw [h4]; decide) (by rw [h4]; decide) (by rw [h4]; rfl) rfl ?_
          refine gw_iload1 dX7_goesOn_68 ?_
          refine gw_bipush 59 dX7_goesOn_69 (by decide) ?_
          refine gw_icmp_ne (tgt := 78) dX7_goesOn_71 rfl (fun h5 => ?_) (fun h5 => ?_)
          · replace h := (if_neg h5).symm.trans h
            refine gw_ic0 dX7_goesOn_78 ?_
            have hA := Option.some.inj h
            subst hA
            exact gw_zret (Or.inl rfl) dX7_goesOn_79 ⟨rfl, rfl⟩
          · replace h := (if_pos h5).symm.trans h
            refine gw_ic1 dX7_goesOn_74 ?_
            refine gw_goto (tgt := 79) rfl dX7_goesOn_75 ?_
            have hA := Option.some.inj h
            subst hA
            exact gw_zret (Or.inr rfl) dX7_goesOn_79 ⟨rfl, rfl⟩
        replace h := (if_neg h4).symm.trans h
        by_cases h6 : ((x0 - 2) - (x0 - 2) / 5 * 5) = 1
        · replace h := (if_pos h6).symm.trans h
          refine gw_tableIn (tgt := 80) dX7_goesOn_40 (by rw [h6]; decide) (by rw [h6]; decide) (by rw [h6]; rfl) rfl ?_
          refine gw_iload1 dX7_goesOn_80 ?_
          refine gw_bipush 112 dX7_goesOn_81 (by decide) ?_
          refine gw_icmp_eq (tgt := 98) dX7_goesOn_83 rfl (fun h7 => ?_) (fun h7 => ?_)
          · replace h := (if_pos h7).symm.trans h
            refine gw_ic1 dX7_goesOn_98 ?_
            refine gw_goto (tgt := 103) rfl dX7_goesOn_99 ?_
            have hA := Option.some.inj h
            subst hA
            exact gw_zret (Or.inr rfl) dX7_goesOn_103 ⟨rfl, rfl⟩
          · replace h := (if_neg h7).symm.trans h
            refine gw_iload1 dX7_goesOn_86 ?_
            refine gw_bipush 103 dX7_goesOn_87 (by decide) ?_
            refine gw_icmp_eq (tgt := 98) dX7_goesOn_89 rfl (fun h8 => ?_) (fun h8 => ?_)
            · replace h := (if_pos h8).symm.trans h
              refine gw_ic1 dX7_goesOn_98 ?_
              refine gw_goto (tgt := 103) rfl dX7_goesOn_99 ?_
              have hA := Option.some.inj h
              subst hA
              exact gw_zret (Or.inr rfl) dX7_goesOn_103 ⟨rfl, rfl⟩
            · replace h := (if_neg h8).symm.trans h
              refine gw_iload1 dX7_goesOn_92 ?_
              refine gw_bipush 116 dX7_goesOn_93 (by decide) ?_
              refine gw_icmp_ne (tgt := 102) dX7_goesOn_95 rfl (fun h9 => ?_) (fun h9 => ?_)
              · replace h := (if_neg h9).symm.trans h
                refine gw_ic0 dX7_goesOn_102 ?_
                have hA := Option.some.inj h
                subst hA
                exact gw_zret (Or.inl rfl) dX7_goesOn_103 ⟨rfl, rfl⟩
              · replace h := (if_pos h9).symm.trans h
                refine gw_ic1 dX7_goesOn_98 ?_
                refine gw_goto (tgt := 103) rfl dX7_goesOn_99 ?_
                have hA := Option.some.inj h
                subst hA
                exact gw_zret (Or.inr rfl) dX7_goesOn_103 ⟨rfl, rfl⟩
        replace h := (if_neg h6).symm.trans h
        by_cases h10 : ((x0 - 2) - (x0 - 2) / 5 * 5) = 2
        · replace h := (if_pos h10).symm.trans h
          refine gw_tableIn (tgt := 104) dX7_goesOn_40 (by rw [h10]; decide) (by rw [h10]; decide) (by rw [h10]; rfl) rfl ?_
          refine gw_iload1 dX7_goesOn_104 ?_
          refine gw_bipush 9 dX7_goesOn_105 (by decide) ?_
          obtain ⟨v12, hc11, h⟩ := ow_b_some h
          refine gw_cSI2 dX7_goesOn_107 lkX7_248 mkX7_isDigit (ow_rm_in rfl rfl) (ctX7_isDigit l hc11) rfl ?_
          by_cases h13 : v12 = 0 ∨ v12 = 1
          rotate_left
          · replace h := (if_neg h13).symm.trans h
            cases h
          replace h := (if_pos h13).symm.trans h
          have hA := Option.some.inj h
          subst hA
          exact gw_zret h13 dX7_goesOn_110 ⟨rfl, rfl⟩
        replace h := (if_neg h10).symm.trans h
        have eh4 := ow_neI 0 0 (by decide) h4
        have eh6 := ow_neI 1 1 (by decide) h6
        have eh10 := ow_neI 2 2 (by decide) h10
        refine gw_tableOut (tgt := 111) dX7_goesOn_40 (by omega) rfl ?_
        refine gw_iload1 dX7_goesOn_111 ?_
        refine gw_ic3 dX7_goesOn_112 ?_
        obtain ⟨v15, hc14, h⟩ := ow_b_some h
        refine gw_cSI2 dX7_goesOn_113 lkX7_248 mkX7_isDigit (ow_rm_in rfl rfl) (ctX7_isDigit l hc14) rfl ?_
        by_cases h16 : v15 = 0 ∨ v15 = 1
        rotate_left
        · replace h := (if_neg h16).symm.trans h
          cases h
        replace h := (if_pos h16).symm.trans h
        have hA := Option.some.inj h
        subst hA
        exact gw_zret h16 dX7_goesOn_116 ⟨rfl, rfl⟩
      · replace h := (if_neg h3).symm.trans h
        refine gw_ic0 dX7_goesOn_33 ?_
        have hA := Option.some.inj h
        subst hA
        exact gw_zret (Or.inl rfl) dX7_goesOn_34 ⟨rfl, rfl⟩
    · replace h := (if_pos h2).symm.trans h
      refine gw_iload1 dX7_goesOn_21 ?_
      refine gw_ic1 dX7_goesOn_22 ?_
      obtain ⟨v18, hc17, h⟩ := ow_b_some h
      refine gw_cSI2 dX7_goesOn_23 lkX7_248 mkX7_isDigit (ow_rm_in rfl rfl) (ctX7_isDigit l hc17) rfl ?_
      by_cases h19 : v18 = 0 ∨ v18 = 1
      rotate_left
      · replace h := (if_neg h19).symm.trans h
        cases h
      replace h := (if_pos h19).symm.trans h
      have hA := Option.some.inj h
      subst hA
      exact gw_zret h19 dX7_goesOn_26 ⟨rfl, rfl⟩
  · replace h := (if_pos h1).symm.trans h
    refine gw_iload1 dX7_goesOn_4 ?_
    refine gw_bipush 119 dX7_goesOn_5 (by decide) ?_
    refine gw_icmp_ne (tgt := 14) dX7_goesOn_7 rfl (fun h20 => ?_) (fun h20 => ?_)
    · replace h := (if_neg h20).symm.trans h
      refine gw_ic0 dX7_goesOn_14 ?_
      have hA := Option.some.inj h
      subst hA
      exact gw_zret (Or.inl rfl) dX7_goesOn_15 ⟨rfl, rfl⟩
    · replace h := (if_pos h20).symm.trans h
      refine gw_ic1 dX7_goesOn_10 ?_
      refine gw_goto (tgt := 15) rfl dX7_goesOn_11 ?_
      have hA := Option.some.inj h
      subst hA
      exact gw_zret (Or.inr rfl) dX7_goesOn_15 ⟨rfl, rfl⟩

def lpX7_firstFault_2 (x0 : Nat) (x1 : Int32) (x2 : Int32) (M : ow_M) (k : Int32 → Option Int32) : Nat → Int32 → Option Int32
  | 0, _ => none
  | n + 1, x3 => (if x2 ≤ x3 then k x3 else Option.bind (fX4_load x0 (x1 + x3) M) (fun v3 => Option.bind (fX7_goesOn x3 v3) (fun v5 => (if v5 = 0 then some x3 else lpX7_firstFault_2 x0 x1 x2 M k n (x3 + 1)))))
set_option maxRecDepth 100000 in
set_option maxHeartbeats 4000000 in
theorem tlpX7_firstFault_2 (l : Launch) {x0 : Nat} {x1 : Int32} {x2 : Int32} {M : ow_M} {k : Int32 → Option Int32} {r : Int32}  (hS0 : ow_isS x0) (hk : ∀ (x3 : Int32), k x3 = some r → ow_G (ow_Γ l 2 (some .int) (ow_is (some (.int r)) M)) RX7 cX7_firstFault 4 29 [some (.ref x0), some (.int x1), some (.int x2), some (.int x3)] [] M) : ∀ (n : Nat) (x3 : Int32), lpX7_firstFault_2 x0 x1 x2 M k n x3 = some r → ow_G (ow_Γ l 2 (some .int) (ow_is (some (.int r)) M)) RX7 cX7_firstFault 4 2 [some (.ref x0), some (.int x1), some (.int x2), some (.int x3)] [] M := by
  intro n
  induction n with
  | zero => intro _ h; cases h
  | succ n ih =>
    intro x3 h
    unfold lpX7_firstFault_2 at h
    refine gw_iload3 dX7_firstFault_2 ?_
    refine gw_iload2 dX7_firstFault_3 ?_
    refine gw_icmp_ge (tgt := 29) dX7_firstFault_4 rfl (fun h1 => ?_) (fun h1 => ?_)
    · replace h := (if_pos h1).symm.trans h
      exact hk _ h
    · replace h := (if_neg h1).symm.trans h
      refine gw_iload3 dX7_firstFault_7 ?_
      refine gw_aload0 dX7_firstFault_8 ?_
      refine gw_iload1 dX7_firstFault_9 ?_
      refine gw_iload3 dX7_firstFault_10 ?_
      refine gw_iadd dX7_firstFault_11 ?_
      obtain ⟨v3, hc2, h⟩ := ow_b_some h
      refine gw_cVI1 dX7_firstFault_12 lkX7_242 mkX4_load (ow_rm_in rfl rfl) hS0.1 rfl (ctX4_load l hS0 hc2) rfl ?_
      obtain ⟨v5, hc4, h⟩ := ow_b_some h
      refine gw_cSI2 dX7_firstFault_15 lkX7_245 mkX7_goesOn (ow_rm_in rfl rfl) (ctX7_goesOn l hc4) rfl ?_
      refine gw_if_ne (tgt := 23) dX7_firstFault_18 rfl (fun h6 => ?_) (fun h6 => ?_)
      · replace h := (if_neg h6).symm.trans h
        refine gw_iinc3 1 dX7_firstFault_23 (by decide) rfl (by decide) ?_
        refine gw_goto (tgt := 2) rfl dX7_firstFault_26 ?_
        exact ih _ h
      · replace h := (if_pos h6).symm.trans h
        refine gw_iload3 dX7_firstFault_21 ?_
        have hA := Option.some.inj h
        subst hA
        exact gw_iret dX7_firstFault_22 ⟨rfl, rfl⟩

def jX7_firstFault_48 (x2 : Int32) (s0 : Int32) (M : ow_M) : Option Int32 := (if s0 = 0 then some x2 else some (-9))
set_option maxRecDepth 100000 in
set_option maxHeartbeats 4000000 in
theorem tjX7_firstFault_48 (l : Launch) {x2 : Int32} {s0 : Int32} {M : ow_M} {r : Int32}  (h : jX7_firstFault_48 x2 s0 M = some r) : ow_G (ow_Γ l 2 (some .int) (ow_is (some (.int r)) M)) RX7 cX7_firstFault 4 48 [none, none, some (.int x2), none] [.int s0] M := by
  unfold jX7_firstFault_48 at h
  refine gw_istore3 dX7_firstFault_48 (by decide) rfl ?_
  refine gw_iload3 dX7_firstFault_49 ?_
  refine gw_if_eq (tgt := 58) dX7_firstFault_50 rfl (fun h9 => ?_) (fun h9 => ?_)
  · replace h := (if_pos h9).symm.trans h
    refine gw_iload2 dX7_firstFault_58 ?_
    have hA := Option.some.inj h
    subst hA
    exact gw_iret dX7_firstFault_59 ⟨rfl, rfl⟩
  · replace h := (if_neg h9).symm.trans h
    refine gw_bipush (-9) dX7_firstFault_53 (by decide) ?_
    refine gw_goto (tgt := 59) rfl dX7_firstFault_55 ?_
    have hA := Option.some.inj h
    subst hA
    exact gw_iret dX7_firstFault_59 ⟨rfl, rfl⟩

def jX7_firstFault_47 (x2 : Int32) (M : ow_M) : Option Int32 := jX7_firstFault_48 x2 0 M
set_option maxRecDepth 100000 in
set_option maxHeartbeats 4000000 in
theorem tjX7_firstFault_47 (l : Launch) {x2 : Int32} {M : ow_M} {r : Int32}  (h : jX7_firstFault_47 x2 M = some r) : ow_G (ow_Γ l 2 (some .int) (ow_is (some (.int r)) M)) RX7 cX7_firstFault 4 47 [none, none, some (.int x2), none] [] M := by
  unfold jX7_firstFault_47 at h
  refine gw_ic0 dX7_firstFault_47 ?_
  exact tjX7_firstFault_48 l h

def fX7_firstFault (x0 : Nat) (x1 : Int32) (x2 : Int32) (M : ow_M) : Option Int32 := lpX7_firstFault_2 x0 x1 x2 M (fun u7 => (if x2 < 12 then jX7_firstFault_47 x2 M else (if ((x2 - 2) - (x2 - 2) / 5 * 5) = 0 then jX7_firstFault_48 x2 1 M else jX7_firstFault_47 x2 M))) ow_N 0
set_option maxRecDepth 100000 in
set_option maxHeartbeats 4000000 in
theorem ctX7_firstFault (l : Launch) {x0 : Nat} {x1 : Int32} {x2 : Int32} {M : ow_M} {r : Int32}  (hS0 : ow_isS x0) (h : fX7_firstFault x0 x1 x2 M = some r) : ow_F l 2 yX7_firstFault cX7_firstFault 4 (some .int) [.ref x0, .int x1, .int x2] M (some (.int r)) M := by
  unfold fX7_firstFault at h
  refine ow_enterO (own := RX7) rfl (by decide +kernel) rfl (ls := [some (.ref x0), some (.int x1), some (.int x2), none]) rfl ?_
  refine gw_ic0 dX7_firstFault_0 ?_
  refine gw_istore3 dX7_firstFault_1 (by decide) rfl ?_
  refine tlpX7_firstFault_2 l hS0 ?_ _ _ h
  intro u7 h
  refine gw_iload2 dX7_firstFault_29 ?_
  refine gw_bipush 12 dX7_firstFault_30 (by decide) ?_
  refine gw_icmp_lt (tgt := 47) dX7_firstFault_32 rfl (fun h8 => ?_) (fun h8 => ?_)
  · replace h := (if_pos h8).symm.trans h
    refine gw_drp0 ?_
    refine gw_drp1 ?_
    refine gw_drp3 ?_
    exact tjX7_firstFault_47 l h
  · replace h := (if_neg h8).symm.trans h
    refine gw_iload2 dX7_firstFault_35 ?_
    refine gw_ic2 dX7_firstFault_36 ?_
    refine gw_isub dX7_firstFault_37 ?_
    refine gw_ic5 dX7_firstFault_38 ?_
    refine gw_irem (by decide) dX7_firstFault_39 ?_
    refine gw_if_ne (tgt := 47) dX7_firstFault_40 rfl (fun h10 => ?_) (fun h10 => ?_)
    · replace h := (if_neg h10).symm.trans h
      refine gw_drp0 ?_
      refine gw_drp1 ?_
      refine gw_drp3 ?_
      exact tjX7_firstFault_47 l h
    · replace h := (if_pos h10).symm.trans h
      refine gw_ic1 dX7_firstFault_43 ?_
      refine gw_goto (tgt := 48) rfl dX7_firstFault_44 ?_
      refine gw_drp0 ?_
      refine gw_drp1 ?_
      refine gw_drp3 ?_
      exact tjX7_firstFault_48 l h

def fX7_wire (x1 : Int32) (x2 : Int32) (x3 : Int32) (x4 : Int32) (M : ow_M) : Option (Int32 × ow_M) := Option.bind (fX7_isSheet x1) (fun v2 => (if v2 = 0 then some ((-1), (ow_up M 0 8 0)) else Option.bind (fX7_isLane x2) (fun v5 => (if v5 = 0 then some ((-2), (ow_up M 0 8 0)) else if ow_inn x1 4 then Option.bind (fX4_faultOfCells (26 + 2 * x1.toNatClampNeg) x2 x3 x4 (ow_up M 0 8 0)) (fun v9 => (if v9 = 0 then Option.bind (fX7_firstFault (26 + 2 * x1.toNatClampNeg) x3 x4 (ow_up M 0 8 0)) (fun v12 => (if v12 = (-9) then Option.bind (fX0_takeText (26 + 2 * x1.toNatClampNeg) x3 x4 (ow_up M 0 8 0)) (fun M16 => some (((ow_up M16 21 0 0).1 2 0), (ow_up M16 21 0 0))) else some (((-100) - v12), (ow_up M 0 8 0)))) else ow_bd (fX7_failed v9 (ow_up M 0 8 0)) (fun v18 M19 => some (v18, M19)))) else none))))
set_option maxRecDepth 100000 in
set_option maxHeartbeats 4000000 in
theorem ctX7_wire (l : Launch) {x1 : Int32} {x2 : Int32} {x3 : Int32} {x4 : Int32} {M : ow_M} {r : Int32} {M9 : ow_M}  (h : fX7_wire x1 x2 x3 x4 M = some (r, M9)) : ow_F l 3 yX7_wire cX7_wire 8 (some .int) [.ref 0, .int x1, .int x2, .int x3, .int x4] M (some (.int r)) M9 := by
  unfold fX7_wire at h
  refine ow_enterO (own := RX7) rfl (by decide +kernel) rfl (ls := [some (.ref 0), some (.int x1), some (.int x2), some (.int x3), some (.int x4), none, none, none]) rfl ?_
  refine gw_aload0 dX7_wire_0 ?_
  refine gw_ic0 dX7_wire_1 ?_
  refine gw_putI dX7_wire_2 fkX7_63 fp7_8 rfl rfl ?_
  refine gw_iload1 dX7_wire_5 ?_
  obtain ⟨v2, hc1, h⟩ := ow_b_some h
  refine gw_cSI1 dX7_wire_6 lkX7_67 mkX7_isSheet (ow_rm_in rfl rfl) (ctX7_isSheet l hc1) rfl ?_
  refine gw_if_ne (tgt := 14) dX7_wire_9 rfl (fun h3 => ?_) (fun h3 => ?_)
  · replace h := (if_neg h3).symm.trans h
    refine gw_iload2 dX7_wire_14 ?_
    obtain ⟨v5, hc4, h⟩ := ow_b_some h
    refine gw_cSI1 dX7_wire_15 lkX7_71 mkX7_isLane (ow_rm_in rfl rfl) (ctX7_isLane l hc4) rfl ?_
    refine gw_if_ne (tgt := 24) dX7_wire_18 rfl (fun h6 => ?_) (fun h6 => ?_)
    · replace h := (if_neg h6).symm.trans h
      refine gw_aload0 dX7_wire_24 ?_
      refine gw_getR dX7_wire_25 fkX7_13 rfl rfl ?_
      refine gw_iload1 dX7_wire_28 ?_
      by_cases h7 : ow_inn x1 4
      rotate_left
      · replace h := (if_neg h7).symm.trans h
        cases h
      replace h := (if_pos h7).symm.trans h
      refine gw_aald dX7_wire_29 h7 ?_
      refine gw_astore5 dX7_wire_30 (by decide) rfl ?_
      refine gw_aload5 dX7_wire_32 ?_
      refine gw_iload2 dX7_wire_34 ?_
      refine gw_iload3 dX7_wire_35 ?_
      refine gw_iload4 dX7_wire_36 ?_
      obtain ⟨v9, hc8, h⟩ := ow_b_some h
      refine gw_cVI3 dX7_wire_38 lkX7_74 mkX4_faultOfCells (ow_rm_in rfl rfl) (ow_isS_of h7).1 rfl (ctX4_faultOfCells l (ow_isS_of h7) hc8) rfl ?_
      refine gw_istore6 dX7_wire_41 (by decide) rfl ?_
      refine gw_iload6 dX7_wire_43 ?_
      refine gw_if_eq (tgt := 55) dX7_wire_45 rfl (fun h10 => ?_) (fun h10 => ?_)
      · replace h := (if_pos h10).symm.trans h
        refine gw_aload5 dX7_wire_55 ?_
        refine gw_iload3 dX7_wire_57 ?_
        refine gw_iload4 dX7_wire_58 ?_
        obtain ⟨v12, hc11, h⟩ := ow_b_some h
        refine gw_cSI3 dX7_wire_60 lkX7_82 mkX7_firstFault (ow_rm_in rfl rfl) (ctX7_firstFault l (ow_isS_of h7) hc11) rfl ?_
        refine gw_istore7 dX7_wire_63 (by decide) rfl ?_
        refine gw_iload7 dX7_wire_65 ?_
        refine gw_bipush (-9) dX7_wire_67 (by decide) ?_
        refine gw_icmp_eq (tgt := 78) dX7_wire_69 rfl (fun h13 => ?_) (fun h13 => ?_)
        · replace h := (if_pos h13).symm.trans h
          refine gw_aload0 dX7_wire_78 ?_
          refine gw_getR dX7_wire_79 fkX7_20 rfl rfl ?_
          refine gw_aload5 dX7_wire_82 ?_
          refine gw_iload3 dX7_wire_84 ?_
          refine gw_iload4 dX7_wire_85 ?_
          obtain ⟨M16, hc14, h⟩ := ow_b_some h
          refine gw_cVV3 dX7_wire_87 lkX7_86 mkX0_takeText (ow_rm_in rfl rfl) rfl rfl (ctX0_takeText l (ow_isS_of h7) hc14) rfl ?_
          refine gw_aload0 dX7_wire_90 ?_
          refine gw_getR dX7_wire_91 fkX7_55 rfl rfl ?_
          refine gw_ic0 dX7_wire_94 ?_
          refine gw_putI dX7_wire_95 fkX7_90 fp3_0 rfl rfl ?_
          refine gw_aload0 dX7_wire_98 ?_
          refine gw_getR dX7_wire_99 fkX7_20 rfl rfl ?_
          refine gw_getI dX7_wire_102 fkX7_93 rfl rfl ?_
          obtain ⟨hA, hB⟩ := Prod.mk.inj (Option.some.inj h)
          subst hA
          subst hB
          exact gw_iret dX7_wire_105 ⟨rfl, rfl⟩
        · replace h := (if_neg h13).symm.trans h
          refine gw_bipush (-100) dX7_wire_72 (by decide) ?_
          refine gw_iload7 dX7_wire_74 ?_
          refine gw_isub dX7_wire_76 ?_
          obtain ⟨hA, hB⟩ := Prod.mk.inj (Option.some.inj h)
          subst hA
          subst hB
          exact gw_iret dX7_wire_77 ⟨rfl, rfl⟩
      · replace h := (if_neg h10).symm.trans h
        refine gw_aload0 dX7_wire_48 ?_
        refine gw_iload6 dX7_wire_49 ?_
        obtain ⟨v18, M19, hc17, h⟩ := ow_bd_some h
        refine gw_cVI1 dX7_wire_51 lkX7_78 mkX7_failed (ow_rm_in rfl rfl) rfl rfl (ctX7_failed l hc17) rfl ?_
        obtain ⟨hA, hB⟩ := Prod.mk.inj (Option.some.inj h)
        subst hA
        subst hB
        exact gw_iret dX7_wire_54 ⟨rfl, rfl⟩
    · replace h := (if_pos h6).symm.trans h
      refine gw_bipush (-2) dX7_wire_21 (by decide) ?_
      obtain ⟨hA, hB⟩ := Prod.mk.inj (Option.some.inj h)
      subst hA
      subst hB
      exact gw_iret dX7_wire_23 ⟨rfl, rfl⟩
  · replace h := (if_pos h3).symm.trans h
    refine gw_icm1 dX7_wire_12 ?_
    obtain ⟨hA, hB⟩ := Prod.mk.inj (Option.some.inj h)
    subst hA
    subst hB
    exact gw_iret dX7_wire_13 ⟨rfl, rfl⟩

def fX7_ofPerson (x1 : Int32) (x2 : Int32) (M : ow_M) : Option Int32 := Option.bind (fX0_isPerson x1 M) (fun v2 => (if v2 = 0 then some (-1) else (if x2 = 0 then if ow_inn x1 7 then some (M.1 3 x1.toNatClampNeg) else none else (if x2 = 1 then if ow_inn x1 7 then some (M.1 4 x1.toNatClampNeg) else none else (if x2 = 2 then if ow_inn x1 7 then some (M.1 5 x1.toNatClampNeg) else none else (if x2 = 3 then if ow_inn x1 7 then some (M.1 6 x1.toNatClampNeg) else none else (some (-2))))))))
set_option maxRecDepth 100000 in
set_option maxHeartbeats 4000000 in
theorem ctX7_ofPerson (l : Launch) {x1 : Int32} {x2 : Int32} {M : ow_M} {r : Int32}  (h : fX7_ofPerson x1 x2 M = some r) : ow_F l 1 yX7_ofPerson cX7_ofPerson 3 (some .int) [.ref 0, .int x1, .int x2] M (some (.int r)) M := by
  unfold fX7_ofPerson at h
  refine ow_enterO (own := RX7) rfl (by decide +kernel) rfl (ls := [some (.ref 0), some (.int x1), some (.int x2)]) rfl ?_
  refine gw_aload0 dX7_ofPerson_0 ?_
  refine gw_getR dX7_ofPerson_1 fkX7_20 rfl rfl ?_
  refine gw_iload1 dX7_ofPerson_4 ?_
  obtain ⟨v2, hc1, h⟩ := ow_b_some h
  refine gw_cVI1 dX7_ofPerson_5 lkX7_96 mkX0_isPerson (ow_rm_in rfl rfl) rfl rfl (ctX0_isPerson l hc1) rfl ?_
  refine gw_if_ne (tgt := 13) dX7_ofPerson_8 rfl (fun h3 => ?_) (fun h3 => ?_)
  · replace h := (if_neg h3).symm.trans h
    refine gw_iload2 dX7_ofPerson_13 ?_
    by_cases h4 : x2 = 0
    · replace h := (if_pos h4).symm.trans h
      refine gw_tableIn (tgt := 44) dX7_ofPerson_14 (by rw [h4]; decide) (by rw [h4]; decide) (by rw [h4]; rfl) rfl ?_
      refine gw_aload0 dX7_ofPerson_44 ?_
      refine gw_getR dX7_ofPerson_45 fkX7_20 rfl rfl ?_
      refine gw_getR dX7_ofPerson_48 fkX7_99 rfl rfl ?_
      refine gw_iload1 dX7_ofPerson_51 ?_
      by_cases h5 : ow_inn x1 7
      rotate_left
      · replace h := (if_neg h5).symm.trans h
        cases h
      replace h := (if_pos h5).symm.trans h
      refine gw_iald dX7_ofPerson_52 rfl h5 ?_
      have hA := Option.some.inj h
      subst hA
      exact gw_iret dX7_ofPerson_53 ⟨rfl, rfl⟩
    replace h := (if_neg h4).symm.trans h
    by_cases h6 : x2 = 1
    · replace h := (if_pos h6).symm.trans h
      refine gw_tableIn (tgt := 54) dX7_ofPerson_14 (by rw [h6]; decide) (by rw [h6]; decide) (by rw [h6]; rfl) rfl ?_
      refine gw_aload0 dX7_ofPerson_54 ?_
      refine gw_getR dX7_ofPerson_55 fkX7_20 rfl rfl ?_
      refine gw_getR dX7_ofPerson_58 fkX7_103 rfl rfl ?_
      refine gw_iload1 dX7_ofPerson_61 ?_
      by_cases h7 : ow_inn x1 7
      rotate_left
      · replace h := (if_neg h7).symm.trans h
        cases h
      replace h := (if_pos h7).symm.trans h
      refine gw_iald dX7_ofPerson_62 rfl h7 ?_
      have hA := Option.some.inj h
      subst hA
      exact gw_iret dX7_ofPerson_63 ⟨rfl, rfl⟩
    replace h := (if_neg h6).symm.trans h
    by_cases h8 : x2 = 2
    · replace h := (if_pos h8).symm.trans h
      refine gw_tableIn (tgt := 64) dX7_ofPerson_14 (by rw [h8]; decide) (by rw [h8]; decide) (by rw [h8]; rfl) rfl ?_
      refine gw_aload0 dX7_ofPerson_64 ?_
      refine gw_getR dX7_ofPerson_65 fkX7_20 rfl rfl ?_
      refine gw_getR dX7_ofPerson_68 fkX7_106 rfl rfl ?_
      refine gw_iload1 dX7_ofPerson_71 ?_
      by_cases h9 : ow_inn x1 7
      rotate_left
      · replace h := (if_neg h9).symm.trans h
        cases h
      replace h := (if_pos h9).symm.trans h
      refine gw_iald dX7_ofPerson_72 rfl h9 ?_
      have hA := Option.some.inj h
      subst hA
      exact gw_iret dX7_ofPerson_73 ⟨rfl, rfl⟩
    replace h := (if_neg h8).symm.trans h
    by_cases h10 : x2 = 3
    · replace h := (if_pos h10).symm.trans h
      refine gw_tableIn (tgt := 74) dX7_ofPerson_14 (by rw [h10]; decide) (by rw [h10]; decide) (by rw [h10]; rfl) rfl ?_
      refine gw_aload0 dX7_ofPerson_74 ?_
      refine gw_getR dX7_ofPerson_75 fkX7_20 rfl rfl ?_
      refine gw_getR dX7_ofPerson_78 fkX7_109 rfl rfl ?_
      refine gw_iload1 dX7_ofPerson_81 ?_
      by_cases h11 : ow_inn x1 7
      rotate_left
      · replace h := (if_neg h11).symm.trans h
        cases h
      replace h := (if_pos h11).symm.trans h
      refine gw_iald dX7_ofPerson_82 rfl h11 ?_
      have hA := Option.some.inj h
      subst hA
      exact gw_iret dX7_ofPerson_83 ⟨rfl, rfl⟩
    replace h := (if_neg h10).symm.trans h
    have eh4 := ow_neI 0 0 (by decide) h4
    have eh6 := ow_neI 1 1 (by decide) h6
    have eh8 := ow_neI 2 2 (by decide) h8
    have eh10 := ow_neI 3 3 (by decide) h10
    refine gw_tableOut (tgt := 84) dX7_ofPerson_14 (by omega) rfl ?_
    refine gw_bipush (-2) dX7_ofPerson_84 (by decide) ?_
    have hA := Option.some.inj h
    subst hA
    exact gw_iret dX7_ofPerson_86 ⟨rfl, rfl⟩
  · replace h := (if_pos h3).symm.trans h
    refine gw_icm1 dX7_ofPerson_11 ?_
    have hA := Option.some.inj h
    subst hA
    exact gw_iret dX7_ofPerson_12 ⟨rfl, rfl⟩

def fX7_grudge (x1 : Int32) (x2 : Int32) (M : ow_M) : Option (Int32 × ow_M) := Option.bind (fX0_isEdge x1 M) (fun v2 => (if v2 = 0 then some ((-1), M) else if ow_inn x1 7 then (if (M.1 7 x1.toNatClampNeg) = x2 then some (0, M) else if ow_inn x1 7 then some (1, (ow_up M 7 x1.toNatClampNeg (vp_nar .boolean x2))) else none) else none))
set_option maxRecDepth 100000 in
set_option maxHeartbeats 4000000 in
theorem ctX7_grudge (l : Launch) {x1 : Int32} {x2 : Int32} {M : ow_M} {r : Int32} {M9 : ow_M}  (h : fX7_grudge x1 x2 M = some (r, M9)) : ow_F l 1 yX7_grudge cX7_grudge 3 (some .int) [.ref 0, .int x1, .int x2] M (some (.int r)) M9 := by
  unfold fX7_grudge at h
  refine ow_enterO (own := RX7) rfl (by decide +kernel) rfl (ls := [some (.ref 0), some (.int x1), some (.int x2)]) rfl ?_
  refine gw_aload0 dX7_grudge_0 ?_
  refine gw_getR dX7_grudge_1 fkX7_20 rfl rfl ?_
  refine gw_iload1 dX7_grudge_4 ?_
  obtain ⟨v2, hc1, h⟩ := ow_b_some h
  refine gw_cVI1 dX7_grudge_5 lkX7_112 mkX0_isEdge (ow_rm_in rfl rfl) rfl rfl (ctX0_isEdge l hc1) rfl ?_
  refine gw_if_ne (tgt := 13) dX7_grudge_8 rfl (fun h3 => ?_) (fun h3 => ?_)
  · replace h := (if_neg h3).symm.trans h
    refine gw_aload0 dX7_grudge_13 ?_
    refine gw_getR dX7_grudge_14 fkX7_20 rfl rfl ?_
    refine gw_getR dX7_grudge_17 fkX7_115 rfl rfl ?_
    refine gw_iload1 dX7_grudge_20 ?_
    by_cases h4 : ow_inn x1 7
    rotate_left
    · replace h := (if_neg h4).symm.trans h
      cases h
    replace h := (if_pos h4).symm.trans h
    refine gw_zald dX7_grudge_21 rfl h4 ?_
    refine gw_iload2 dX7_grudge_22 ?_
    refine gw_icmp_ne (tgt := 28) dX7_grudge_23 rfl (fun h5 => ?_) (fun h5 => ?_)
    · replace h := (if_neg h5).symm.trans h
      refine gw_aload0 dX7_grudge_28 ?_
      refine gw_getR dX7_grudge_29 fkX7_20 rfl rfl ?_
      refine gw_getR dX7_grudge_32 fkX7_115 rfl rfl ?_
      refine gw_iload1 dX7_grudge_35 ?_
      refine gw_iload2 dX7_grudge_36 ?_
      by_cases h6 : ow_inn x1 7
      rotate_left
      · replace h := (if_neg h6).symm.trans h
        cases h
      replace h := (if_pos h6).symm.trans h
      refine gw_zast dX7_grudge_37 rfl h6 ?_
      refine gw_ic1 dX7_grudge_38 ?_
      obtain ⟨hA, hB⟩ := Prod.mk.inj (Option.some.inj h)
      subst hA
      subst hB
      exact gw_iret dX7_grudge_39 ⟨rfl, rfl⟩
    · replace h := (if_pos h5).symm.trans h
      refine gw_ic0 dX7_grudge_26 ?_
      obtain ⟨hA, hB⟩ := Prod.mk.inj (Option.some.inj h)
      subst hA
      subst hB
      exact gw_iret dX7_grudge_27 ⟨rfl, rfl⟩
  · replace h := (if_pos h3).symm.trans h
    refine gw_icm1 dX7_grudge_11 ?_
    obtain ⟨hA, hB⟩ := Prod.mk.inj (Option.some.inj h)
    subst hA
    subst hB
    exact gw_iret dX7_grudge_12 ⟨rfl, rfl⟩

def fX7_hand (x1 : Int32) (M : ow_M) : Option (Int32 × ow_M) := Option.bind (fX0_isEdge x1 M) (fun v2 => (if v2 = 0 then some ((-1), M) else if ow_inn x1 7 then (if (M.1 7 x1.toNatClampNeg) = 0 then Option.bind (fX0_changeGoods x1 M) (fun M8 => some (1, M8)) else some ((-3), M)) else none))
set_option maxRecDepth 100000 in
set_option maxHeartbeats 4000000 in
theorem ctX7_hand (l : Launch) {x1 : Int32} {M : ow_M} {r : Int32} {M9 : ow_M}  (h : fX7_hand x1 M = some (r, M9)) : ow_F l 2 yX7_hand cX7_hand 2 (some .int) [.ref 0, .int x1] M (some (.int r)) M9 := by
  unfold fX7_hand at h
  refine ow_enterO (own := RX7) rfl (by decide +kernel) rfl (ls := [some (.ref 0), some (.int x1)]) rfl ?_
  refine gw_aload0 dX7_hand_0 ?_
  refine gw_getR dX7_hand_1 fkX7_20 rfl rfl ?_
  refine gw_iload1 dX7_hand_4 ?_
  obtain ⟨v2, hc1, h⟩ := ow_b_some h
  refine gw_cVI1 dX7_hand_5 lkX7_112 mkX0_isEdge (ow_rm_in rfl rfl) rfl rfl (ctX0_isEdge l hc1) rfl ?_
  refine gw_if_ne (tgt := 13) dX7_hand_8 rfl (fun h3 => ?_) (fun h3 => ?_)
  · replace h := (if_neg h3).symm.trans h
    refine gw_aload0 dX7_hand_13 ?_
    refine gw_getR dX7_hand_14 fkX7_20 rfl rfl ?_
    refine gw_getR dX7_hand_17 fkX7_115 rfl rfl ?_
    refine gw_iload1 dX7_hand_20 ?_
    by_cases h4 : ow_inn x1 7
    rotate_left
    · replace h := (if_neg h4).symm.trans h
      cases h
    replace h := (if_pos h4).symm.trans h
    refine gw_zald dX7_hand_21 rfl h4 ?_
    refine gw_if_eq (tgt := 28) dX7_hand_22 rfl (fun h5 => ?_) (fun h5 => ?_)
    · replace h := (if_pos h5).symm.trans h
      refine gw_aload0 dX7_hand_28 ?_
      refine gw_getR dX7_hand_29 fkX7_20 rfl rfl ?_
      refine gw_iload1 dX7_hand_32 ?_
      obtain ⟨M8, hc6, h⟩ := ow_b_some h
      refine gw_cVV1 dX7_hand_33 lkX7_119 mkX0_changeGoods (ow_rm_in rfl rfl) rfl rfl (ctX0_changeGoods l hc6) rfl ?_
      refine gw_ic1 dX7_hand_36 ?_
      obtain ⟨hA, hB⟩ := Prod.mk.inj (Option.some.inj h)
      subst hA
      subst hB
      exact gw_iret dX7_hand_37 ⟨rfl, rfl⟩
    · replace h := (if_neg h5).symm.trans h
      refine gw_bipush (-3) dX7_hand_25 (by decide) ?_
      obtain ⟨hA, hB⟩ := Prod.mk.inj (Option.some.inj h)
      subst hA
      subst hB
      exact gw_iret dX7_hand_27 ⟨rfl, rfl⟩
  · replace h := (if_pos h3).symm.trans h
    refine gw_icm1 dX7_hand_11 ?_
    obtain ⟨hA, hB⟩ := Prod.mk.inj (Option.some.inj h)
    subst hA
    subst hB
    exact gw_iret dX7_hand_12 ⟨rfl, rfl⟩

def fX7_wish (x1 : Int32) (x2 : Int32) (M : ow_M) : Option (Int32 × ow_M) := Option.bind (fX0_isPerson x1 M) (fun v2 => (if v2 = 0 then some ((-1), M) else (if x2 < 0 then some ((-2), M) else (if x2 < 4 then if ow_inn x1 7 then if ow_inn x1 7 then some ((M.1 6 x1.toNatClampNeg), (ow_up M 6 x1.toNatClampNeg x2)) else none else none else some ((-2), M)))))
set_option maxRecDepth 100000 in
set_option maxHeartbeats 4000000 in
theorem ctX7_wish (l : Launch) {x1 : Int32} {x2 : Int32} {M : ow_M} {r : Int32} {M9 : ow_M}  (h : fX7_wish x1 x2 M = some (r, M9)) : ow_F l 1 yX7_wish cX7_wish 4 (some .int) [.ref 0, .int x1, .int x2] M (some (.int r)) M9 := by
  unfold fX7_wish at h
  refine ow_enterO (own := RX7) rfl (by decide +kernel) rfl (ls := [some (.ref 0), some (.int x1), some (.int x2), none]) rfl ?_
  refine gw_aload0 dX7_wish_0 ?_
  refine gw_getR dX7_wish_1 fkX7_20 rfl rfl ?_
  refine gw_iload1 dX7_wish_4 ?_
  obtain ⟨v2, hc1, h⟩ := ow_b_some h
  refine gw_cVI1 dX7_wish_5 lkX7_96 mkX0_isPerson (ow_rm_in rfl rfl) rfl rfl (ctX0_isPerson l hc1) rfl ?_
  refine gw_if_ne (tgt := 13) dX7_wish_8 rfl (fun h3 => ?_) (fun h3 => ?_)
  · replace h := (if_neg h3).symm.trans h
    refine gw_iload2 dX7_wish_13 ?_
    refine gw_if_lt (tgt := 22) dX7_wish_14 rfl (fun h4 => ?_) (fun h4 => ?_)
    · replace h := (if_pos h4).symm.trans h
      refine gw_bipush (-2) dX7_wish_22 (by decide) ?_
      obtain ⟨hA, hB⟩ := Prod.mk.inj (Option.some.inj h)
      subst hA
      subst hB
      exact gw_iret dX7_wish_24 ⟨rfl, rfl⟩
    · replace h := (if_neg h4).symm.trans h
      refine gw_iload2 dX7_wish_17 ?_
      refine gw_ic4 dX7_wish_18 ?_
      refine gw_icmp_lt (tgt := 25) dX7_wish_19 rfl (fun h5 => ?_) (fun h5 => ?_)
      · replace h := (if_pos h5).symm.trans h
        refine gw_aload0 dX7_wish_25 ?_
        refine gw_getR dX7_wish_26 fkX7_20 rfl rfl ?_
        refine gw_getR dX7_wish_29 fkX7_109 rfl rfl ?_
        refine gw_iload1 dX7_wish_32 ?_
        by_cases h6 : ow_inn x1 7
        rotate_left
        · replace h := (if_neg h6).symm.trans h
          cases h
        replace h := (if_pos h6).symm.trans h
        refine gw_iald dX7_wish_33 rfl h6 ?_
        refine gw_istore3 dX7_wish_34 (by decide) rfl ?_
        refine gw_aload0 dX7_wish_35 ?_
        refine gw_getR dX7_wish_36 fkX7_20 rfl rfl ?_
        refine gw_getR dX7_wish_39 fkX7_109 rfl rfl ?_
        refine gw_iload1 dX7_wish_42 ?_
        refine gw_iload2 dX7_wish_43 ?_
        by_cases h7 : ow_inn x1 7
        rotate_left
        · replace h := (if_neg h7).symm.trans h
          cases h
        replace h := (if_pos h7).symm.trans h
        refine gw_iast dX7_wish_44 rfl h7 ?_
        refine gw_iload3 dX7_wish_45 ?_
        obtain ⟨hA, hB⟩ := Prod.mk.inj (Option.some.inj h)
        subst hA
        subst hB
        exact gw_iret dX7_wish_46 ⟨rfl, rfl⟩
      · replace h := (if_neg h5).symm.trans h
        refine gw_bipush (-2) dX7_wish_22 (by decide) ?_
        obtain ⟨hA, hB⟩ := Prod.mk.inj (Option.some.inj h)
        subst hA
        subst hB
        exact gw_iret dX7_wish_24 ⟨rfl, rfl⟩
  · replace h := (if_pos h3).symm.trans h
    refine gw_icm1 dX7_wish_11 ?_
    obtain ⟨hA, hB⟩ := Prod.mk.inj (Option.some.inj h)
    subst hA
    subst hB
    exact gw_iret dX7_wish_12 ⟨rfl, rfl⟩

def fX7_isNumber (x0 : Int32) : Option Int32 := (if x0 < 0 then some 0 else (if 100 ≤ x0 then some 0 else some 1))
set_option maxRecDepth 100000 in
set_option maxHeartbeats 4000000 in
theorem ctX7_isNumber (l : Launch) {x0 : Int32} {M : ow_M} {r : Int32}  (h : fX7_isNumber x0 = some r) : ow_F l 0 yX7_isNumber cX7_isNumber 1 (some .boolean) [.int x0] M (some (.int r)) M := by
  unfold fX7_isNumber at h
  refine ow_enterO (own := RX7) rfl (by decide +kernel) rfl (ls := [some (.int x0)]) rfl ?_
  refine gw_iload0 dX7_isNumber_0 ?_
  refine gw_if_lt (tgt := 14) dX7_isNumber_1 rfl (fun h1 => ?_) (fun h1 => ?_)
  · replace h := (if_pos h1).symm.trans h
    refine gw_ic0 dX7_isNumber_14 ?_
    have hA := Option.some.inj h
    subst hA
    exact gw_zret (Or.inl rfl) dX7_isNumber_15 ⟨rfl, rfl⟩
  · replace h := (if_neg h1).symm.trans h
    refine gw_iload0 dX7_isNumber_4 ?_
    refine gw_bipush 100 dX7_isNumber_5 (by decide) ?_
    refine gw_icmp_ge (tgt := 14) dX7_isNumber_7 rfl (fun h2 => ?_) (fun h2 => ?_)
    · replace h := (if_pos h2).symm.trans h
      refine gw_ic0 dX7_isNumber_14 ?_
      have hA := Option.some.inj h
      subst hA
      exact gw_zret (Or.inl rfl) dX7_isNumber_15 ⟨rfl, rfl⟩
    · replace h := (if_neg h2).symm.trans h
      refine gw_ic1 dX7_isNumber_10 ?_
      refine gw_goto (tgt := 15) rfl dX7_isNumber_11 ?_
      have hA := Option.some.inj h
      subst hA
      exact gw_zret (Or.inr rfl) dX7_isNumber_15 ⟨rfl, rfl⟩

def fX7_news (x1 : Int32) (x2 : Int32) (x3 : Int32) (x4 : Int32) (M : ow_M) : Option (Int32 × ow_M) := Option.bind (fX0_isPerson x1 M) (fun v2 => (if v2 = 0 then some ((-1), M) else Option.bind (fX0_isPerson x3 M) (fun v5 => (if v5 = 0 then some ((-1), M) else Option.bind (fX7_isNumber x2) (fun v8 => (if v8 = 0 then some ((-2), M) else (if x4 < 0 then some ((-2), M) else (if x4 ≤ 1 then Option.bind (fX5_tellFrom x1 x2 M) (fun M14 => (if x4 = 0 then if ow_inn x3 7 then some ((M14.1 9 x3.toNatClampNeg), M14) else none else if ow_inn x3 7 then some ((M14.1 10 x3.toNatClampNeg), M14) else none)) else some ((-2), M)))))))))
set_option maxRecDepth 100000 in
set_option maxHeartbeats 4000000 in
theorem ctX7_news (l : Launch) {x1 : Int32} {x2 : Int32} {x3 : Int32} {x4 : Int32} {M : ow_M} {r : Int32} {M9 : ow_M}  (h : fX7_news x1 x2 x3 x4 M = some (r, M9)) : ow_F l 4 yX7_news cX7_news 5 (some .int) [.ref 0, .int x1, .int x2, .int x3, .int x4] M (some (.int r)) M9 := by
  unfold fX7_news at h
  refine ow_enterO (own := RX7) rfl (by decide +kernel) rfl (ls := [some (.ref 0), some (.int x1), some (.int x2), some (.int x3), some (.int x4)]) rfl ?_
  refine gw_aload0 dX7_news_0 ?_
  refine gw_getR dX7_news_1 fkX7_20 rfl rfl ?_
  refine gw_iload1 dX7_news_4 ?_
  obtain ⟨v2, hc1, h⟩ := ow_b_some h
  refine gw_cVI1 dX7_news_5 lkX7_96 mkX0_isPerson (ow_rm_in rfl rfl) rfl rfl (ctX0_isPerson l hc1) rfl ?_
  refine gw_if_eq (tgt := 22) dX7_news_8 rfl (fun h3 => ?_) (fun h3 => ?_)
  · replace h := (if_pos h3).symm.trans h
    refine gw_icm1 dX7_news_22 ?_
    obtain ⟨hA, hB⟩ := Prod.mk.inj (Option.some.inj h)
    subst hA
    subst hB
    exact gw_iret dX7_news_23 ⟨rfl, rfl⟩
  · replace h := (if_neg h3).symm.trans h
    refine gw_aload0 dX7_news_11 ?_
    refine gw_getR dX7_news_12 fkX7_20 rfl rfl ?_
    refine gw_iload3 dX7_news_15 ?_
    obtain ⟨v5, hc4, h⟩ := ow_b_some h
    refine gw_cVI1 dX7_news_16 lkX7_96 mkX0_isPerson (ow_rm_in rfl rfl) rfl rfl (ctX0_isPerson l hc4) rfl ?_
    refine gw_if_ne (tgt := 24) dX7_news_19 rfl (fun h6 => ?_) (fun h6 => ?_)
    · replace h := (if_neg h6).symm.trans h
      refine gw_iload2 dX7_news_24 ?_
      obtain ⟨v8, hc7, h⟩ := ow_b_some h
      refine gw_cSI1 dX7_news_25 lkX7_123 mkX7_isNumber (ow_rm_in rfl rfl) (ctX7_isNumber l hc7) rfl ?_
      refine gw_if_eq (tgt := 42) dX7_news_28 rfl (fun h9 => ?_) (fun h9 => ?_)
      · replace h := (if_pos h9).symm.trans h
        refine gw_bipush (-2) dX7_news_42 (by decide) ?_
        obtain ⟨hA, hB⟩ := Prod.mk.inj (Option.some.inj h)
        subst hA
        subst hB
        exact gw_iret dX7_news_44 ⟨rfl, rfl⟩
      · replace h := (if_neg h9).symm.trans h
        refine gw_iload4 dX7_news_31 ?_
        refine gw_if_lt (tgt := 42) dX7_news_33 rfl (fun h10 => ?_) (fun h10 => ?_)
        · replace h := (if_pos h10).symm.trans h
          refine gw_bipush (-2) dX7_news_42 (by decide) ?_
          obtain ⟨hA, hB⟩ := Prod.mk.inj (Option.some.inj h)
          subst hA
          subst hB
          exact gw_iret dX7_news_44 ⟨rfl, rfl⟩
        · replace h := (if_neg h10).symm.trans h
          refine gw_iload4 dX7_news_36 ?_
          refine gw_ic1 dX7_news_38 ?_
          refine gw_icmp_le (tgt := 45) dX7_news_39 rfl (fun h11 => ?_) (fun h11 => ?_)
          · replace h := (if_pos h11).symm.trans h
            refine gw_aload0 dX7_news_45 ?_
            refine gw_getR dX7_news_46 fkX7_27 rfl rfl ?_
            refine gw_aload0 dX7_news_49 ?_
            refine gw_getR dX7_news_50 fkX7_20 rfl rfl ?_
            refine gw_iload1 dX7_news_53 ?_
            refine gw_iload2 dX7_news_54 ?_
            obtain ⟨M14, hc12, h⟩ := ow_b_some h
            refine gw_cVV3 dX7_news_55 lkX7_126 mkX5_tellFrom (ow_rm_in rfl rfl) rfl rfl (ctX5_tellFrom l hc12) rfl ?_
            refine gw_iload4 dX7_news_58 ?_
            refine gw_if_ne (tgt := 75) dX7_news_60 rfl (fun h15 => ?_) (fun h15 => ?_)
            · replace h := (if_neg h15).symm.trans h
              refine gw_aload0 dX7_news_75 ?_
              refine gw_getR dX7_news_76 fkX7_27 rfl rfl ?_
              refine gw_getR dX7_news_79 fkX7_133 rfl rfl ?_
              refine gw_iload3 dX7_news_82 ?_
              by_cases h16 : ow_inn x3 7
              rotate_left
              · replace h := (if_neg h16).symm.trans h
                cases h
              replace h := (if_pos h16).symm.trans h
              refine gw_iald dX7_news_83 rfl h16 ?_
              obtain ⟨hA, hB⟩ := Prod.mk.inj (Option.some.inj h)
              subst hA
              subst hB
              exact gw_iret dX7_news_84 ⟨rfl, rfl⟩
            · replace h := (if_pos h15).symm.trans h
              refine gw_aload0 dX7_news_63 ?_
              refine gw_getR dX7_news_64 fkX7_27 rfl rfl ?_
              refine gw_getR dX7_news_67 fkX7_130 rfl rfl ?_
              refine gw_iload3 dX7_news_70 ?_
              by_cases h17 : ow_inn x3 7
              rotate_left
              · replace h := (if_neg h17).symm.trans h
                cases h
              replace h := (if_pos h17).symm.trans h
              refine gw_iald dX7_news_71 rfl h17 ?_
              refine gw_goto (tgt := 84) rfl dX7_news_72 ?_
              obtain ⟨hA, hB⟩ := Prod.mk.inj (Option.some.inj h)
              subst hA
              subst hB
              exact gw_iret dX7_news_84 ⟨rfl, rfl⟩
          · replace h := (if_neg h11).symm.trans h
            refine gw_bipush (-2) dX7_news_42 (by decide) ?_
            obtain ⟨hA, hB⟩ := Prod.mk.inj (Option.some.inj h)
            subst hA
            subst hB
            exact gw_iret dX7_news_44 ⟨rfl, rfl⟩
    · replace h := (if_pos h6).symm.trans h
      refine gw_icm1 dX7_news_22 ?_
      obtain ⟨hA, hB⟩ := Prod.mk.inj (Option.some.inj h)
      subst hA
      subst hB
      exact gw_iret dX7_news_23 ⟨rfl, rfl⟩

def lpX7_said_46 (x1 : Int32) (x2 : Int32) (x3 : Int32) (x4 : Int32) (k : Int32 → Int32 → ow_M → Option (Int32 × ow_M)) : Nat → Int32 → Int32 → ow_M → Option (Int32 × ow_M)
  | 0, _, _, _ => none
  | n + 1, x5, x6, M => (if 100 ≤ x6 then k x5 x6 M else Option.bind (fX5_tellFrom x1 x6 M) (fun M14 => if ow_inn x2 7 then (if (M14.1 9 x2.toNatClampNeg) = x3 then (if x5 = x4 then some (x6, M14) else lpX7_said_46 x1 x2 x3 x4 k n (x5 + 1) (x6 + 1) M14) else lpX7_said_46 x1 x2 x3 x4 k n x5 (x6 + 1) M14) else none))
set_option maxRecDepth 100000 in
set_option maxHeartbeats 4000000 in
theorem tlpX7_said_46 (l : Launch) {x1 : Int32} {x2 : Int32} {x3 : Int32} {x4 : Int32} {k : Int32 → Int32 → ow_M → Option (Int32 × ow_M)} {r : Int32} {M9 : ow_M}  (hk : ∀ (x5 : Int32) (x6 : Int32) (M : ow_M), k x5 x6 M = some (r, M9) → ow_G (ow_Γ l 4 (some .int) (ow_is (some (.int r)) M9)) RX7 cX7_said 7 99 [some (.ref 0), some (.int x1), some (.int x2), some (.int x3), some (.int x4), some (.int x5), some (.int x6)] [] M) : ∀ (n : Nat) (x5 : Int32) (x6 : Int32) (M : ow_M), lpX7_said_46 x1 x2 x3 x4 k n x5 x6 M = some (r, M9) → ow_G (ow_Γ l 4 (some .int) (ow_is (some (.int r)) M9)) RX7 cX7_said 7 46 [some (.ref 0), some (.int x1), some (.int x2), some (.int x3), some (.int x4), some (.int x5), some (.int x6)] [] M := by
  intro n
  induction n with
  | zero => intro _ _ _ h; cases h
  | succ n ih =>
    intro x5 x6 M h
    unfold lpX7_said_46 at h
    refine gw_iload6 dX7_said_46 ?_
    refine gw_bipush 100 dX7_said_48 (by decide) ?_
    refine gw_icmp_ge (tgt := 99) dX7_said_50 rfl (fun h11 => ?_) (fun h11 => ?_)
    · replace h := (if_pos h11).symm.trans h
      exact hk _ _ _ h
    · replace h := (if_neg h11).symm.trans h
      refine gw_aload0 dX7_said_53 ?_
      refine gw_getR dX7_said_54 fkX7_27 rfl rfl ?_
      refine gw_aload0 dX7_said_57 ?_
      refine gw_getR dX7_said_58 fkX7_20 rfl rfl ?_
      refine gw_iload1 dX7_said_61 ?_
      refine gw_iload6 dX7_said_62 ?_
      obtain ⟨M14, hc12, h⟩ := ow_b_some h
      refine gw_cVV3 dX7_said_64 lkX7_126 mkX5_tellFrom (ow_rm_in rfl rfl) rfl rfl (ctX5_tellFrom l hc12) rfl ?_
      refine gw_aload0 dX7_said_67 ?_
      refine gw_getR dX7_said_68 fkX7_27 rfl rfl ?_
      refine gw_getR dX7_said_71 fkX7_130 rfl rfl ?_
      refine gw_iload2 dX7_said_74 ?_
      by_cases h15 : ow_inn x2 7
      rotate_left
      · replace h := (if_neg h15).symm.trans h
        cases h
      replace h := (if_pos h15).symm.trans h
      refine gw_iald dX7_said_75 rfl h15 ?_
      refine gw_iload3 dX7_said_76 ?_
      refine gw_icmp_ne (tgt := 93) dX7_said_77 rfl (fun h16 => ?_) (fun h16 => ?_)
      · replace h := (if_neg h16).symm.trans h
        refine gw_iinc6 1 dX7_said_93 (by decide) rfl (by decide) ?_
        refine gw_goto (tgt := 46) rfl dX7_said_96 ?_
        exact ih _ _ _ h
      · replace h := (if_pos h16).symm.trans h
        refine gw_iload5 dX7_said_80 ?_
        refine gw_iload4 dX7_said_82 ?_
        refine gw_icmp_ne (tgt := 90) dX7_said_84 rfl (fun h17 => ?_) (fun h17 => ?_)
        · replace h := (if_neg h17).symm.trans h
          refine gw_iinc5 1 dX7_said_90 (by decide) rfl (by decide) ?_
          refine gw_iinc6 1 dX7_said_93 (by decide) rfl (by decide) ?_
          refine gw_goto (tgt := 46) rfl dX7_said_96 ?_
          exact ih _ _ _ h
        · replace h := (if_pos h17).symm.trans h
          refine gw_iload6 dX7_said_87 ?_
          obtain ⟨hA, hB⟩ := Prod.mk.inj (Option.some.inj h)
          subst hA
          subst hB
          exact gw_iret dX7_said_89 ⟨rfl, rfl⟩

def fX7_said (x1 : Int32) (x2 : Int32) (x3 : Int32) (x4 : Int32) (M : ow_M) : Option (Int32 × ow_M) := Option.bind (fX0_isPerson x1 M) (fun v2 => (if v2 = 0 then some ((-1), M) else Option.bind (fX0_isPerson x2 M) (fun v5 => (if v5 = 0 then some ((-1), M) else (if (-1) ≤ x4 then Option.bind (fX7_isNumber x3) (fun v9 => (if v9 = 0 then some ((-2), M) else lpX7_said_46 x1 x2 x3 x4 (fun u18 u19 M20 => (if x4 = (-1) then some (u18, M20) else some ((-9), M20))) ow_N 0 0 M)) else some ((-1), M))))))
set_option maxRecDepth 100000 in
set_option maxHeartbeats 4000000 in
theorem ctX7_said (l : Launch) {x1 : Int32} {x2 : Int32} {x3 : Int32} {x4 : Int32} {M : ow_M} {r : Int32} {M9 : ow_M}  (h : fX7_said x1 x2 x3 x4 M = some (r, M9)) : ow_F l 4 yX7_said cX7_said 7 (some .int) [.ref 0, .int x1, .int x2, .int x3, .int x4] M (some (.int r)) M9 := by
  unfold fX7_said at h
  refine ow_enterO (own := RX7) rfl (by decide +kernel) rfl (ls := [some (.ref 0), some (.int x1), some (.int x2), some (.int x3), some (.int x4), none, none]) rfl ?_
  refine gw_aload0 dX7_said_0 ?_
  refine gw_getR dX7_said_1 fkX7_20 rfl rfl ?_
  refine gw_iload1 dX7_said_4 ?_
  obtain ⟨v2, hc1, h⟩ := ow_b_some h
  refine gw_cVI1 dX7_said_5 lkX7_96 mkX0_isPerson (ow_rm_in rfl rfl) rfl rfl (ctX0_isPerson l hc1) rfl ?_
  refine gw_if_eq (tgt := 28) dX7_said_8 rfl (fun h3 => ?_) (fun h3 => ?_)
  · replace h := (if_pos h3).symm.trans h
    refine gw_icm1 dX7_said_28 ?_
    obtain ⟨hA, hB⟩ := Prod.mk.inj (Option.some.inj h)
    subst hA
    subst hB
    exact gw_iret dX7_said_29 ⟨rfl, rfl⟩
  · replace h := (if_neg h3).symm.trans h
    refine gw_aload0 dX7_said_11 ?_
    refine gw_getR dX7_said_12 fkX7_20 rfl rfl ?_
    refine gw_iload2 dX7_said_15 ?_
    obtain ⟨v5, hc4, h⟩ := ow_b_some h
    refine gw_cVI1 dX7_said_16 lkX7_96 mkX0_isPerson (ow_rm_in rfl rfl) rfl rfl (ctX0_isPerson l hc4) rfl ?_
    refine gw_if_eq (tgt := 28) dX7_said_19 rfl (fun h6 => ?_) (fun h6 => ?_)
    · replace h := (if_pos h6).symm.trans h
      refine gw_icm1 dX7_said_28 ?_
      obtain ⟨hA, hB⟩ := Prod.mk.inj (Option.some.inj h)
      subst hA
      subst hB
      exact gw_iret dX7_said_29 ⟨rfl, rfl⟩
    · replace h := (if_neg h6).symm.trans h
      refine gw_iload4 dX7_said_22 ?_
      refine gw_icm1 dX7_said_24 ?_
      refine gw_icmp_ge (tgt := 30) dX7_said_25 rfl (fun h7 => ?_) (fun h7 => ?_)
      · replace h := (if_pos h7).symm.trans h
        refine gw_iload3 dX7_said_30 ?_
        obtain ⟨v9, hc8, h⟩ := ow_b_some h
        refine gw_cSI1 dX7_said_31 lkX7_123 mkX7_isNumber (ow_rm_in rfl rfl) (ctX7_isNumber l hc8) rfl ?_
        refine gw_if_ne (tgt := 40) dX7_said_34 rfl (fun h10 => ?_) (fun h10 => ?_)
        · replace h := (if_neg h10).symm.trans h
          refine gw_ic0 dX7_said_40 ?_
          refine gw_istore5 dX7_said_41 (by decide) rfl ?_
          refine gw_ic0 dX7_said_43 ?_
          refine gw_istore6 dX7_said_44 (by decide) rfl ?_
          refine tlpX7_said_46 l ?_ _ _ _ _ h
          intro u18 u19 M20 h
          refine gw_iload4 dX7_said_99 ?_
          refine gw_icm1 dX7_said_101 ?_
          refine gw_icmp_ne (tgt := 110) dX7_said_102 rfl (fun h21 => ?_) (fun h21 => ?_)
          · replace h := (if_neg h21).symm.trans h
            refine gw_bipush (-9) dX7_said_110 (by decide) ?_
            obtain ⟨hA, hB⟩ := Prod.mk.inj (Option.some.inj h)
            subst hA
            subst hB
            exact gw_iret dX7_said_112 ⟨rfl, rfl⟩
          · replace h := (if_pos h21).symm.trans h
            refine gw_iload5 dX7_said_105 ?_
            refine gw_goto (tgt := 112) rfl dX7_said_107 ?_
            obtain ⟨hA, hB⟩ := Prod.mk.inj (Option.some.inj h)
            subst hA
            subst hB
            exact gw_iret dX7_said_112 ⟨rfl, rfl⟩
        · replace h := (if_pos h10).symm.trans h
          refine gw_bipush (-2) dX7_said_37 (by decide) ?_
          obtain ⟨hA, hB⟩ := Prod.mk.inj (Option.some.inj h)
          subst hA
          subst hB
          exact gw_iret dX7_said_39 ⟨rfl, rfl⟩
      · replace h := (if_neg h7).symm.trans h
        refine gw_icm1 dX7_said_28 ?_
        obtain ⟨hA, hB⟩ := Prod.mk.inj (Option.some.inj h)
        subst hA
        subst hB
        exact gw_iret dX7_said_29 ⟨rfl, rfl⟩

def fX7_fewest  (M : ow_M) : Option (Int32 × ow_M) := Option.bind (fX0_isThere M) (fun v2 => (if v2 = 0 then some ((-3), M) else ow_bd (fX6_leastSteps 0 M) (fun v5 M6 => some (v5, M6))))
set_option maxRecDepth 100000 in
set_option maxHeartbeats 4000000 in
theorem ctX7_fewest (l : Launch)  {M : ow_M} {r : Int32} {M9 : ow_M}  (h : fX7_fewest M = some (r, M9)) : ow_F l 5 yX7_fewest cX7_fewest 1 (some .int) [.ref 0] M (some (.int r)) M9 := by
  unfold fX7_fewest at h
  refine ow_enterO (own := RX7) rfl (by decide +kernel) rfl (ls := [some (.ref 0)]) rfl ?_
  refine gw_aload0 dX7_fewest_0 ?_
  refine gw_getR dX7_fewest_1 fkX7_20 rfl rfl ?_
  obtain ⟨v2, hc1, h⟩ := ow_b_some h
  refine gw_cVI0 dX7_fewest_4 lkX7_136 mkX0_isThere (ow_rm_in rfl rfl) rfl rfl (ctX0_isThere l hc1) rfl ?_
  refine gw_if_eq (tgt := 25) dX7_fewest_7 rfl (fun h3 => ?_) (fun h3 => ?_)
  · replace h := (if_pos h3).symm.trans h
    refine gw_bipush (-3) dX7_fewest_25 (by decide) ?_
    obtain ⟨hA, hB⟩ := Prod.mk.inj (Option.some.inj h)
    subst hA
    subst hB
    exact gw_iret dX7_fewest_27 ⟨rfl, rfl⟩
  · replace h := (if_neg h3).symm.trans h
    refine gw_aload0 dX7_fewest_10 ?_
    refine gw_getR dX7_fewest_11 fkX7_34 rfl rfl ?_
    refine gw_aload0 dX7_fewest_14 ?_
    refine gw_getR dX7_fewest_15 fkX7_20 rfl rfl ?_
    refine gw_ic0 dX7_fewest_18 ?_
    obtain ⟨v5, M6, hc4, h⟩ := ow_bd_some h
    refine gw_cVI2 dX7_fewest_19 lkX7_140 mkX6_leastSteps (ow_rm_in rfl rfl) rfl rfl (ctX6_leastSteps l hc4) rfl ?_
    refine gw_goto (tgt := 27) rfl dX7_fewest_22 ?_
    obtain ⟨hA, hB⟩ := Prod.mk.inj (Option.some.inj h)
    subst hA
    subst hB
    exact gw_iret dX7_fewest_27 ⟨rfl, rfl⟩

def fX7_soonest  (M : ow_M) : Option (Int32 × ow_M) := Option.bind (fX0_isThere M) (fun v2 => (if v2 = 0 then some ((-3), M) else ow_bd (fX6_leastSteps 1 M) (fun v5 M6 => some (v5, M6))))
set_option maxRecDepth 100000 in
set_option maxHeartbeats 4000000 in
theorem ctX7_soonest (l : Launch)  {M : ow_M} {r : Int32} {M9 : ow_M}  (h : fX7_soonest M = some (r, M9)) : ow_F l 5 yX7_soonest cX7_soonest 1 (some .int) [.ref 0] M (some (.int r)) M9 := by
  unfold fX7_soonest at h
  refine ow_enterO (own := RX7) rfl (by decide +kernel) rfl (ls := [some (.ref 0)]) rfl ?_
  refine gw_aload0 dX7_soonest_0 ?_
  refine gw_getR dX7_soonest_1 fkX7_20 rfl rfl ?_
  obtain ⟨v2, hc1, h⟩ := ow_b_some h
  refine gw_cVI0 dX7_soonest_4 lkX7_136 mkX0_isThere (ow_rm_in rfl rfl) rfl rfl (ctX0_isThere l hc1) rfl ?_
  refine gw_if_eq (tgt := 25) dX7_soonest_7 rfl (fun h3 => ?_) (fun h3 => ?_)
  · replace h := (if_pos h3).symm.trans h
    refine gw_bipush (-3) dX7_soonest_25 (by decide) ?_
    obtain ⟨hA, hB⟩ := Prod.mk.inj (Option.some.inj h)
    subst hA
    subst hB
    exact gw_iret dX7_soonest_27 ⟨rfl, rfl⟩
  · replace h := (if_neg h3).symm.trans h
    refine gw_aload0 dX7_soonest_10 ?_
    refine gw_getR dX7_soonest_11 fkX7_34 rfl rfl ?_
    refine gw_aload0 dX7_soonest_14 ?_
    refine gw_getR dX7_soonest_15 fkX7_20 rfl rfl ?_
    refine gw_ic1 dX7_soonest_18 ?_
    obtain ⟨v5, M6, hc4, h⟩ := ow_bd_some h
    refine gw_cVI2 dX7_soonest_19 lkX7_140 mkX6_leastSteps (ow_rm_in rfl rfl) rfl rfl (ctX6_leastSteps l hc4) rfl ?_
    refine gw_goto (tgt := 27) rfl dX7_soonest_22 ?_
    obtain ⟨hA, hB⟩ := Prod.mk.inj (Option.some.inj h)
    subst hA
    subst hB
    exact gw_iret dX7_soonest_27 ⟨rfl, rfl⟩

def fX7_cut (x1 : Int32) (M : ow_M) : Option Int32 := Option.bind (fX0_isEdge x1 M) (fun v2 => (if v2 = 0 then some (-1) else (if (M.1 2 2) = 0 then Option.bind (fX6_mustGoOver x1 M) (fun v6 => some v6) else some (-3))))
set_option maxRecDepth 100000 in
set_option maxHeartbeats 4000000 in
theorem ctX7_cut (l : Launch) {x1 : Int32} {M : ow_M} {r : Int32}  (h : fX7_cut x1 M = some r) : ow_F l 2 yX7_cut cX7_cut 2 (some .int) [.ref 0, .int x1] M (some (.int r)) M := by
  unfold fX7_cut at h
  refine ow_enterO (own := RX7) rfl (by decide +kernel) rfl (ls := [some (.ref 0), some (.int x1)]) rfl ?_
  refine gw_aload0 dX7_cut_0 ?_
  refine gw_getR dX7_cut_1 fkX7_20 rfl rfl ?_
  refine gw_iload1 dX7_cut_4 ?_
  obtain ⟨v2, hc1, h⟩ := ow_b_some h
  refine gw_cVI1 dX7_cut_5 lkX7_112 mkX0_isEdge (ow_rm_in rfl rfl) rfl rfl (ctX0_isEdge l hc1) rfl ?_
  refine gw_if_ne (tgt := 13) dX7_cut_8 rfl (fun h3 => ?_) (fun h3 => ?_)
  · replace h := (if_neg h3).symm.trans h
    refine gw_aload0 dX7_cut_13 ?_
    refine gw_getR dX7_cut_14 fkX7_20 rfl rfl ?_
    refine gw_getI dX7_cut_17 fkX7_144 rfl rfl ?_
    refine gw_if_eq (tgt := 28) dX7_cut_20 rfl (fun h4 => ?_) (fun h4 => ?_)
    · replace h := (if_pos h4).symm.trans h
      refine gw_aload0 dX7_cut_28 ?_
      refine gw_getR dX7_cut_29 fkX7_34 rfl rfl ?_
      refine gw_aload0 dX7_cut_32 ?_
      refine gw_getR dX7_cut_33 fkX7_20 rfl rfl ?_
      refine gw_iload1 dX7_cut_36 ?_
      obtain ⟨v6, hc5, h⟩ := ow_b_some h
      refine gw_cVI2 dX7_cut_37 lkX7_148 mkX6_mustGoOver (ow_rm_in rfl rfl) rfl rfl (ctX6_mustGoOver l hc5) rfl ?_
      have hA := Option.some.inj h
      subst hA
      exact gw_iret dX7_cut_40 ⟨rfl, rfl⟩
    · replace h := (if_neg h4).symm.trans h
      refine gw_bipush (-3) dX7_cut_23 (by decide) ?_
      refine gw_goto (tgt := 40) rfl dX7_cut_25 ?_
      have hA := Option.some.inj h
      subst hA
      exact gw_iret dX7_cut_40 ⟨rfl, rfl⟩
  · replace h := (if_pos h3).symm.trans h
    refine gw_icm1 dX7_cut_11 ?_
    have hA := Option.some.inj h
    subst hA
    exact gw_iret dX7_cut_12 ⟨rfl, rfl⟩

def fX7_order (x1 : Int32) (x2 : Int32) (x3 : Int32) (x4 : Int32) (x5 : Int32) (M : ow_M) : Option (Int32 × ow_M) := Option.bind (fX7_isSheet x1) (fun v2 => (if v2 = 0 then some ((-1), (ow_up M 0 8 0)) else Option.bind (fX7_isLane x2) (fun v5 => (if v5 = 0 then some ((-2), (ow_up M 0 8 0)) else (if x5 < 0 then some ((-2), (ow_up M 0 8 0)) else (if x5 ≤ 1 then if ow_inn x1 4 then Option.bind (fX4_faultOfCells (26 + 2 * x1.toNatClampNeg) x2 x3 x4 (ow_up M 0 8 0)) (fun v11 => (if v11 = 0 then Option.bind (fX0_isThere (ow_up M 0 8 0)) (fun v14 => (if v14 = 0 then some ((-3), (ow_up M 0 8 0)) else (if x4 = ((ow_up M 0 8 0).1 2 0) then ow_bd (fX2_readPlaces (26 + 2 * x1.toNatClampNeg) x3 (ow_up M 0 8 0)) (fun v18 M19 => (if v18 = 0 then some ((-1), M19) else Option.bind (fX2_firstBar M19) (fun v22 => (if x5 = 1 then some (v22, M19) else (if v22 = (-9) then Option.bind (fX2_changes M19) (fun v26 => some (v26, M19)) else some ((-9), M19)))))) else some ((-2), (ow_up M 0 8 0))))) else ow_bd (fX7_failed v11 (ow_up M 0 8 0)) (fun v28 M29 => some (v28, M29)))) else none else some ((-2), (ow_up M 0 8 0))))))))
set_option maxRecDepth 100000 in
set_option maxHeartbeats 4000000 in
theorem ctX7_order (l : Launch) {x1 : Int32} {x2 : Int32} {x3 : Int32} {x4 : Int32} {x5 : Int32} {M : ow_M} {r : Int32} {M9 : ow_M}  (h : fX7_order x1 x2 x3 x4 x5 M = some (r, M9)) : ow_F l 2 yX7_order cX7_order 9 (some .int) [.ref 0, .int x1, .int x2, .int x3, .int x4, .int x5] M (some (.int r)) M9 := by
  unfold fX7_order at h
  refine ow_enterO (own := RX7) rfl (by decide +kernel) rfl (ls := [some (.ref 0), some (.int x1), some (.int x2), some (.int x3), some (.int x4), some (.int x5), none, none, none]) rfl ?_
  refine gw_aload0 dX7_order_0 ?_
  refine gw_ic0 dX7_order_1 ?_
  refine gw_putI dX7_order_2 fkX7_63 fp7_8 rfl rfl ?_
  refine gw_iload1 dX7_order_5 ?_
  obtain ⟨v2, hc1, h⟩ := ow_b_some h
  refine gw_cSI1 dX7_order_6 lkX7_67 mkX7_isSheet (ow_rm_in rfl rfl) (ctX7_isSheet l hc1) rfl ?_
  refine gw_if_ne (tgt := 14) dX7_order_9 rfl (fun h3 => ?_) (fun h3 => ?_)
  · replace h := (if_neg h3).symm.trans h
    refine gw_iload2 dX7_order_14 ?_
    obtain ⟨v5, hc4, h⟩ := ow_b_some h
    refine gw_cSI1 dX7_order_15 lkX7_71 mkX7_isLane (ow_rm_in rfl rfl) (ctX7_isLane l hc4) rfl ?_
    refine gw_if_eq (tgt := 32) dX7_order_18 rfl (fun h6 => ?_) (fun h6 => ?_)
    · replace h := (if_pos h6).symm.trans h
      refine gw_bipush (-2) dX7_order_32 (by decide) ?_
      obtain ⟨hA, hB⟩ := Prod.mk.inj (Option.some.inj h)
      subst hA
      subst hB
      exact gw_iret dX7_order_34 ⟨rfl, rfl⟩
    · replace h := (if_neg h6).symm.trans h
      refine gw_iload5 dX7_order_21 ?_
      refine gw_if_lt (tgt := 32) dX7_order_23 rfl (fun h7 => ?_) (fun h7 => ?_)
      · replace h := (if_pos h7).symm.trans h
        refine gw_bipush (-2) dX7_order_32 (by decide) ?_
        obtain ⟨hA, hB⟩ := Prod.mk.inj (Option.some.inj h)
        subst hA
        subst hB
        exact gw_iret dX7_order_34 ⟨rfl, rfl⟩
      · replace h := (if_neg h7).symm.trans h
        refine gw_iload5 dX7_order_26 ?_
        refine gw_ic1 dX7_order_28 ?_
        refine gw_icmp_le (tgt := 35) dX7_order_29 rfl (fun h8 => ?_) (fun h8 => ?_)
        · replace h := (if_pos h8).symm.trans h
          refine gw_aload0 dX7_order_35 ?_
          refine gw_getR dX7_order_36 fkX7_13 rfl rfl ?_
          refine gw_iload1 dX7_order_39 ?_
          by_cases h9 : ow_inn x1 4
          rotate_left
          · replace h := (if_neg h9).symm.trans h
            cases h
          replace h := (if_pos h9).symm.trans h
          refine gw_aald dX7_order_40 h9 ?_
          refine gw_astore6 dX7_order_41 (by decide) rfl ?_
          refine gw_aload6 dX7_order_43 ?_
          refine gw_iload2 dX7_order_45 ?_
          refine gw_iload3 dX7_order_46 ?_
          refine gw_iload4 dX7_order_47 ?_
          obtain ⟨v11, hc10, h⟩ := ow_b_some h
          refine gw_cVI3 dX7_order_49 lkX7_74 mkX4_faultOfCells (ow_rm_in rfl rfl) (ow_isS_of h9).1 rfl (ctX4_faultOfCells l (ow_isS_of h9) hc10) rfl ?_
          refine gw_istore7 dX7_order_52 (by decide) rfl ?_
          refine gw_iload7 dX7_order_54 ?_
          refine gw_if_eq (tgt := 66) dX7_order_56 rfl (fun h12 => ?_) (fun h12 => ?_)
          · replace h := (if_pos h12).symm.trans h
            refine gw_aload0 dX7_order_66 ?_
            refine gw_getR dX7_order_67 fkX7_20 rfl rfl ?_
            obtain ⟨v14, hc13, h⟩ := ow_b_some h
            refine gw_cVI0 dX7_order_70 lkX7_136 mkX0_isThere (ow_rm_in rfl rfl) rfl rfl (ctX0_isThere l hc13) rfl ?_
            refine gw_if_ne (tgt := 79) dX7_order_73 rfl (fun h15 => ?_) (fun h15 => ?_)
            · replace h := (if_neg h15).symm.trans h
              refine gw_iload4 dX7_order_79 ?_
              refine gw_aload0 dX7_order_81 ?_
              refine gw_getR dX7_order_82 fkX7_20 rfl rfl ?_
              refine gw_getI dX7_order_85 fkX7_93 rfl rfl ?_
              refine gw_icmp_eq (tgt := 94) dX7_order_88 rfl (fun h16 => ?_) (fun h16 => ?_)
              · replace h := (if_pos h16).symm.trans h
                refine gw_aload0 dX7_order_94 ?_
                refine gw_getR dX7_order_95 fkX7_41 rfl rfl ?_
                refine gw_aload0 dX7_order_98 ?_
                refine gw_getR dX7_order_99 fkX7_20 rfl rfl ?_
                refine gw_aload6 dX7_order_102 ?_
                refine gw_iload3 dX7_order_104 ?_
                obtain ⟨v18, M19, hc17, h⟩ := ow_bd_some h
                refine gw_cVI3 dX7_order_105 lkX7_152 mkX2_readPlaces (ow_rm_in rfl rfl) rfl rfl (ctX2_readPlaces l (ow_isS_of h9) hc17) rfl ?_
                refine gw_if_ne (tgt := 113) dX7_order_108 rfl (fun h20 => ?_) (fun h20 => ?_)
                · replace h := (if_neg h20).symm.trans h
                  refine gw_aload0 dX7_order_113 ?_
                  refine gw_getR dX7_order_114 fkX7_41 rfl rfl ?_
                  refine gw_aload0 dX7_order_117 ?_
                  refine gw_getR dX7_order_118 fkX7_20 rfl rfl ?_
                  obtain ⟨v22, hc21, h⟩ := ow_b_some h
                  refine gw_cVI1 dX7_order_121 lkX7_156 mkX2_firstBar (ow_rm_in rfl rfl) rfl rfl (ctX2_firstBar l hc21) rfl ?_
                  refine gw_istore8 dX7_order_124 (by decide) rfl ?_
                  refine gw_iload5 dX7_order_126 ?_
                  refine gw_ic1 dX7_order_128 ?_
                  refine gw_icmp_ne (tgt := 135) dX7_order_129 rfl (fun h23 => ?_) (fun h23 => ?_)
                  · replace h := (if_neg h23).symm.trans h
                    refine gw_iload8 dX7_order_135 ?_
                    refine gw_bipush (-9) dX7_order_137 (by decide) ?_
                    refine gw_icmp_ne (tgt := 156) dX7_order_139 rfl (fun h24 => ?_) (fun h24 => ?_)
                    · replace h := (if_neg h24).symm.trans h
                      refine gw_bipush (-9) dX7_order_156 (by decide) ?_
                      obtain ⟨hA, hB⟩ := Prod.mk.inj (Option.some.inj h)
                      subst hA
                      subst hB
                      exact gw_iret dX7_order_158 ⟨rfl, rfl⟩
                    · replace h := (if_pos h24).symm.trans h
                      refine gw_aload0 dX7_order_142 ?_
                      refine gw_getR dX7_order_143 fkX7_41 rfl rfl ?_
                      refine gw_aload0 dX7_order_146 ?_
                      refine gw_getR dX7_order_147 fkX7_20 rfl rfl ?_
                      obtain ⟨v26, hc25, h⟩ := ow_b_some h
                      refine gw_cVI1 dX7_order_150 lkX7_160 mkX2_changes (ow_rm_in rfl rfl) rfl rfl (ctX2_changes l hc25) rfl ?_
                      refine gw_goto (tgt := 158) rfl dX7_order_153 ?_
                      obtain ⟨hA, hB⟩ := Prod.mk.inj (Option.some.inj h)
                      subst hA
                      subst hB
                      exact gw_iret dX7_order_158 ⟨rfl, rfl⟩
                  · replace h := (if_pos h23).symm.trans h
                    refine gw_iload8 dX7_order_132 ?_
                    obtain ⟨hA, hB⟩ := Prod.mk.inj (Option.some.inj h)
                    subst hA
                    subst hB
                    exact gw_iret dX7_order_134 ⟨rfl, rfl⟩
                · replace h := (if_pos h20).symm.trans h
                  refine gw_icm1 dX7_order_111 ?_
                  obtain ⟨hA, hB⟩ := Prod.mk.inj (Option.some.inj h)
                  subst hA
                  subst hB
                  exact gw_iret dX7_order_112 ⟨rfl, rfl⟩
              · replace h := (if_neg h16).symm.trans h
                refine gw_bipush (-2) dX7_order_91 (by decide) ?_
                obtain ⟨hA, hB⟩ := Prod.mk.inj (Option.some.inj h)
                subst hA
                subst hB
                exact gw_iret dX7_order_93 ⟨rfl, rfl⟩
            · replace h := (if_pos h15).symm.trans h
              refine gw_bipush (-3) dX7_order_76 (by decide) ?_
              obtain ⟨hA, hB⟩ := Prod.mk.inj (Option.some.inj h)
              subst hA
              subst hB
              exact gw_iret dX7_order_78 ⟨rfl, rfl⟩
          · replace h := (if_neg h12).symm.trans h
            refine gw_aload0 dX7_order_59 ?_
            refine gw_iload7 dX7_order_60 ?_
            obtain ⟨v28, M29, hc27, h⟩ := ow_bd_some h
            refine gw_cVI1 dX7_order_62 lkX7_78 mkX7_failed (ow_rm_in rfl rfl) rfl rfl (ctX7_failed l hc27) rfl ?_
            obtain ⟨hA, hB⟩ := Prod.mk.inj (Option.some.inj h)
            subst hA
            subst hB
            exact gw_iret dX7_order_65 ⟨rfl, rfl⟩
        · replace h := (if_neg h8).symm.trans h
          refine gw_bipush (-2) dX7_order_32 (by decide) ?_
          obtain ⟨hA, hB⟩ := Prod.mk.inj (Option.some.inj h)
          subst hA
          subst hB
          exact gw_iret dX7_order_34 ⟨rfl, rfl⟩
  · replace h := (if_pos h3).symm.trans h
    refine gw_icm1 dX7_order_12 ?_
    obtain ⟨hA, hB⟩ := Prod.mk.inj (Option.some.inj h)
    subst hA
    subst hB
    exact gw_iret dX7_order_13 ⟨rfl, rfl⟩

def fX7_coming  (M : ow_M) : Option (Int32 × ow_M) := Option.bind (fX0_isThere M) (fun v2 => (if v2 = 0 then some ((-3), M) else ow_bd (fX2_howManyCome M) (fun v5 M6 => some (v5, M6))))
set_option maxRecDepth 100000 in
set_option maxHeartbeats 4000000 in
theorem ctX7_coming (l : Launch)  {M : ow_M} {r : Int32} {M9 : ow_M}  (h : fX7_coming M = some (r, M9)) : ow_F l 3 yX7_coming cX7_coming 1 (some .int) [.ref 0] M (some (.int r)) M9 := by
  unfold fX7_coming at h
  refine ow_enterO (own := RX7) rfl (by decide +kernel) rfl (ls := [some (.ref 0)]) rfl ?_
  refine gw_aload0 dX7_coming_0 ?_
  refine gw_getR dX7_coming_1 fkX7_20 rfl rfl ?_
  obtain ⟨v2, hc1, h⟩ := ow_b_some h
  refine gw_cVI0 dX7_coming_4 lkX7_136 mkX0_isThere (ow_rm_in rfl rfl) rfl rfl (ctX0_isThere l hc1) rfl ?_
  refine gw_if_eq (tgt := 24) dX7_coming_7 rfl (fun h3 => ?_) (fun h3 => ?_)
  · replace h := (if_pos h3).symm.trans h
    refine gw_bipush (-3) dX7_coming_24 (by decide) ?_
    obtain ⟨hA, hB⟩ := Prod.mk.inj (Option.some.inj h)
    subst hA
    subst hB
    exact gw_iret dX7_coming_26 ⟨rfl, rfl⟩
  · replace h := (if_neg h3).symm.trans h
    refine gw_aload0 dX7_coming_10 ?_
    refine gw_getR dX7_coming_11 fkX7_41 rfl rfl ?_
    refine gw_aload0 dX7_coming_14 ?_
    refine gw_getR dX7_coming_15 fkX7_20 rfl rfl ?_
    obtain ⟨v5, M6, hc4, h⟩ := ow_bd_some h
    refine gw_cVI1 dX7_coming_18 lkX7_163 mkX2_howManyCome (ow_rm_in rfl rfl) rfl rfl (ctX2_howManyCome l hc4) rfl ?_
    refine gw_goto (tgt := 26) rfl dX7_coming_21 ?_
    obtain ⟨hA, hB⟩ := Prod.mk.inj (Option.some.inj h)
    subst hA
    subst hB
    exact gw_iret dX7_coming_26 ⟨rfl, rfl⟩

def jX7_letters_18 (x1 : Int32) (M : ow_M) : Option (Int32 × ow_M) := Option.bind (fX0_isThere M) (fun v3 => (if v3 = 0 then some ((-3), M) else ow_bd (fX1_leastReaders M) (fun v6 M7 => (if x1 = (-1) then some (v6, M7) else (if v6 = (-9) then some (v6, M7) else Option.bind (fX1_mateOf x1 M7) (fun v11 => some (v11, M7)))))))
set_option maxRecDepth 100000 in
set_option maxHeartbeats 4000000 in
theorem tjX7_letters_18 (l : Launch) {x1 : Int32} {M : ow_M} {r : Int32} {M9 : ow_M}  (h : jX7_letters_18 x1 M = some (r, M9)) : ow_G (ow_Γ l 4 (some .int) (ow_is (some (.int r)) M9)) RX7 cX7_letters 3 18 [some (.ref 0), some (.int x1), none] [] M := by
  unfold jX7_letters_18 at h
  refine gw_aload0 dX7_letters_18 ?_
  refine gw_getR dX7_letters_19 fkX7_20 rfl rfl ?_
  obtain ⟨v3, hc2, h⟩ := ow_b_some h
  refine gw_cVI0 dX7_letters_22 lkX7_136 mkX0_isThere (ow_rm_in rfl rfl) rfl rfl (ctX0_isThere l hc2) rfl ?_
  refine gw_if_ne (tgt := 31) dX7_letters_25 rfl (fun h4 => ?_) (fun h4 => ?_)
  · replace h := (if_neg h4).symm.trans h
    refine gw_aload0 dX7_letters_31 ?_
    refine gw_getR dX7_letters_32 fkX7_48 rfl rfl ?_
    refine gw_aload0 dX7_letters_35 ?_
    refine gw_getR dX7_letters_36 fkX7_20 rfl rfl ?_
    obtain ⟨v6, M7, hc5, h⟩ := ow_bd_some h
    refine gw_cVI1 dX7_letters_39 lkX7_166 mkX1_leastReaders (ow_rm_in rfl rfl) rfl rfl (ctX1_leastReaders l hc5) rfl ?_
    refine gw_istore2 dX7_letters_42 (by decide) rfl ?_
    refine gw_iload1 dX7_letters_43 ?_
    refine gw_icm1 dX7_letters_44 ?_
    refine gw_icmp_eq (tgt := 54) dX7_letters_45 rfl (fun h8 => ?_) (fun h8 => ?_)
    · replace h := (if_pos h8).symm.trans h
      refine gw_iload2 dX7_letters_54 ?_
      refine gw_goto (tgt := 70) rfl dX7_letters_55 ?_
      obtain ⟨hA, hB⟩ := Prod.mk.inj (Option.some.inj h)
      subst hA
      subst hB
      exact gw_iret dX7_letters_70 ⟨rfl, rfl⟩
    · replace h := (if_neg h8).symm.trans h
      refine gw_iload2 dX7_letters_48 ?_
      refine gw_bipush (-9) dX7_letters_49 (by decide) ?_
      refine gw_icmp_ne (tgt := 58) dX7_letters_51 rfl (fun h9 => ?_) (fun h9 => ?_)
      · replace h := (if_neg h9).symm.trans h
        refine gw_aload0 dX7_letters_58 ?_
        refine gw_getR dX7_letters_59 fkX7_48 rfl rfl ?_
        refine gw_aload0 dX7_letters_62 ?_
        refine gw_getR dX7_letters_63 fkX7_20 rfl rfl ?_
        refine gw_iload1 dX7_letters_66 ?_
        obtain ⟨v11, hc10, h⟩ := ow_b_some h
        refine gw_cVI2 dX7_letters_67 lkX7_169 mkX1_mateOf (ow_rm_in rfl rfl) rfl rfl (ctX1_mateOf l hc10) rfl ?_
        obtain ⟨hA, hB⟩ := Prod.mk.inj (Option.some.inj h)
        subst hA
        subst hB
        exact gw_iret dX7_letters_70 ⟨rfl, rfl⟩
      · replace h := (if_pos h9).symm.trans h
        refine gw_iload2 dX7_letters_54 ?_
        refine gw_goto (tgt := 70) rfl dX7_letters_55 ?_
        obtain ⟨hA, hB⟩ := Prod.mk.inj (Option.some.inj h)
        subst hA
        subst hB
        exact gw_iret dX7_letters_70 ⟨rfl, rfl⟩
  · replace h := (if_pos h4).symm.trans h
    refine gw_bipush (-3) dX7_letters_28 (by decide) ?_
    obtain ⟨hA, hB⟩ := Prod.mk.inj (Option.some.inj h)
    subst hA
    subst hB
    exact gw_iret dX7_letters_30 ⟨rfl, rfl⟩

def fX7_letters (x1 : Int32) (M : ow_M) : Option (Int32 × ow_M) := (if x1 = (-1) then jX7_letters_18 x1 M else Option.bind (fX0_isPerson x1 M) (fun v13 => (if v13 = 0 then some ((-1), M) else jX7_letters_18 x1 M)))
set_option maxRecDepth 100000 in
set_option maxHeartbeats 4000000 in
theorem ctX7_letters (l : Launch) {x1 : Int32} {M : ow_M} {r : Int32} {M9 : ow_M}  (h : fX7_letters x1 M = some (r, M9)) : ow_F l 4 yX7_letters cX7_letters 3 (some .int) [.ref 0, .int x1] M (some (.int r)) M9 := by
  unfold fX7_letters at h
  refine ow_enterO (own := RX7) rfl (by decide +kernel) rfl (ls := [some (.ref 0), some (.int x1), none]) rfl ?_
  refine gw_iload1 dX7_letters_0 ?_
  refine gw_icm1 dX7_letters_1 ?_
  refine gw_icmp_eq (tgt := 18) dX7_letters_2 rfl (fun h1 => ?_) (fun h1 => ?_)
  · replace h := (if_pos h1).symm.trans h
    exact tjX7_letters_18 l h
  · replace h := (if_neg h1).symm.trans h
    refine gw_aload0 dX7_letters_5 ?_
    refine gw_getR dX7_letters_6 fkX7_20 rfl rfl ?_
    refine gw_iload1 dX7_letters_9 ?_
    obtain ⟨v13, hc12, h⟩ := ow_b_some h
    refine gw_cVI1 dX7_letters_10 lkX7_96 mkX0_isPerson (ow_rm_in rfl rfl) rfl rfl (ctX0_isPerson l hc12) rfl ?_
    refine gw_if_ne (tgt := 18) dX7_letters_13 rfl (fun h14 => ?_) (fun h14 => ?_)
    · replace h := (if_neg h14).symm.trans h
      exact tjX7_letters_18 l h
    · replace h := (if_pos h14).symm.trans h
      refine gw_icm1 dX7_letters_16 ?_
      obtain ⟨hA, hB⟩ := Prod.mk.inj (Option.some.inj h)
      subst hA
      subst hB
      exact gw_iret dX7_letters_17 ⟨rfl, rfl⟩

def fX7_isTenths (x0 : Int32) : Option Int32 := (if x0 < 0 then some 0 else (if 10 < x0 then some 0 else some 1))
set_option maxRecDepth 100000 in
set_option maxHeartbeats 4000000 in
theorem ctX7_isTenths (l : Launch) {x0 : Int32} {M : ow_M} {r : Int32}  (h : fX7_isTenths x0 = some r) : ow_F l 0 yX7_isTenths cX7_isTenths 1 (some .boolean) [.int x0] M (some (.int r)) M := by
  unfold fX7_isTenths at h
  refine ow_enterO (own := RX7) rfl (by decide +kernel) rfl (ls := [some (.int x0)]) rfl ?_
  refine gw_iload0 dX7_isTenths_0 ?_
  refine gw_if_lt (tgt := 14) dX7_isTenths_1 rfl (fun h1 => ?_) (fun h1 => ?_)
  · replace h := (if_pos h1).symm.trans h
    refine gw_ic0 dX7_isTenths_14 ?_
    have hA := Option.some.inj h
    subst hA
    exact gw_zret (Or.inl rfl) dX7_isTenths_15 ⟨rfl, rfl⟩
  · replace h := (if_neg h1).symm.trans h
    refine gw_iload0 dX7_isTenths_4 ?_
    refine gw_bipush 10 dX7_isTenths_5 (by decide) ?_
    refine gw_icmp_gt (tgt := 14) dX7_isTenths_7 rfl (fun h2 => ?_) (fun h2 => ?_)
    · replace h := (if_pos h2).symm.trans h
      refine gw_ic0 dX7_isTenths_14 ?_
      have hA := Option.some.inj h
      subst hA
      exact gw_zret (Or.inl rfl) dX7_isTenths_15 ⟨rfl, rfl⟩
    · replace h := (if_neg h2).symm.trans h
      refine gw_ic1 dX7_isTenths_10 ?_
      refine gw_goto (tgt := 15) rfl dX7_isTenths_11 ?_
      have hA := Option.some.inj h
      subst hA
      exact gw_zret (Or.inr rfl) dX7_isTenths_15 ⟨rfl, rfl⟩

def lpX7_allWhole_5 (x1 : Int32) (x2 : Int32) (M : ow_M) (k : Int64 → Int32 → Option Int64) : Nat → Int64 → Int32 → Option Int64
  | 0, _, _ => none
  | n + 1, x3, x5 => (if (M.1 2 1) ≤ x5 then k x3 x5 else (if x1 ≤ x5 then lpX7_allWhole_5 x1 x2 M k n (x3 * 10) (x5 + 1) else lpX7_allWhole_5 x1 x2 M k n (x3 * ((10 - x2)).toInt64) (x5 + 1)))
set_option maxRecDepth 100000 in
set_option maxHeartbeats 4000000 in
theorem tlpX7_allWhole_5 (l : Launch) {x1 : Int32} {x2 : Int32} {M : ow_M} {k : Int64 → Int32 → Option Int64} {r : Int64}  (hk : ∀ (x3 : Int64) (x5 : Int32), k x3 x5 = some r → ow_G (ow_Γ l 0 (some .long) (ow_is (some (.long r)) M)) RX7 cX7_allWhole 6 43 [some (.ref 0), some (.int x1), some (.int x2), some (.long x3), none, some (.int x5)] [] M) : ∀ (n : Nat) (x3 : Int64) (x5 : Int32), lpX7_allWhole_5 x1 x2 M k n x3 x5 = some r → ow_G (ow_Γ l 0 (some .long) (ow_is (some (.long r)) M)) RX7 cX7_allWhole 6 5 [some (.ref 0), some (.int x1), some (.int x2), some (.long x3), none, some (.int x5)] [] M := by
  intro n
  induction n with
  | zero => intro _ _ h; cases h
  | succ n ih =>
    intro x3 x5 h
    unfold lpX7_allWhole_5 at h
    refine gw_iload5 dX7_allWhole_5 ?_
    refine gw_aload0 dX7_allWhole_7 ?_
    refine gw_getR dX7_allWhole_8 fkX7_20 rfl rfl ?_
    refine gw_getI dX7_allWhole_11 fkX7_197 rfl rfl ?_
    refine gw_icmp_ge (tgt := 43) dX7_allWhole_14 rfl (fun h1 => ?_) (fun h1 => ?_)
    · replace h := (if_pos h1).symm.trans h
      exact hk _ _ h
    · replace h := (if_neg h1).symm.trans h
      refine gw_lload3 dX7_allWhole_17 ?_
      refine gw_iload5 dX7_allWhole_18 ?_
      refine gw_iload1 dX7_allWhole_20 ?_
      refine gw_icmp_ge (tgt := 32) dX7_allWhole_21 rfl (fun h2 => ?_) (fun h2 => ?_)
      · replace h := (if_pos h2).symm.trans h
        refine gw_ldc2 klX7_262 dX7_allWhole_32 ?_
        refine gw_lmul dX7_allWhole_35 ?_
        refine gw_lstore3 dX7_allWhole_36 (by decide) rfl ?_
        refine gw_iinc5 1 dX7_allWhole_37 (by decide) rfl (by decide) ?_
        refine gw_goto (tgt := 5) rfl dX7_allWhole_40 ?_
        exact ih _ _ h
      · replace h := (if_neg h2).symm.trans h
        refine gw_bipush 10 dX7_allWhole_24 (by decide) ?_
        refine gw_iload2 dX7_allWhole_26 ?_
        refine gw_isub dX7_allWhole_27 ?_
        refine gw_i2l dX7_allWhole_28 ?_
        refine gw_goto (tgt := 35) rfl dX7_allWhole_29 ?_
        refine gw_lmul dX7_allWhole_35 ?_
        refine gw_lstore3 dX7_allWhole_36 (by decide) rfl ?_
        refine gw_iinc5 1 dX7_allWhole_37 (by decide) rfl (by decide) ?_
        refine gw_goto (tgt := 5) rfl dX7_allWhole_40 ?_
        exact ih _ _ h

def fX7_allWhole (x1 : Int32) (x2 : Int32) (M : ow_M) : Option Int64 := lpX7_allWhole_5 x1 x2 M (fun u3 u4 => some u3) ow_N 1 0
set_option maxRecDepth 100000 in
set_option maxHeartbeats 4000000 in
theorem ctX7_allWhole (l : Launch) {x1 : Int32} {x2 : Int32} {M : ow_M} {r : Int64}  (h : fX7_allWhole x1 x2 M = some r) : ow_F l 0 yX7_allWhole cX7_allWhole 6 (some .long) [.ref 0, .int x1, .int x2] M (some (.long r)) M := by
  unfold fX7_allWhole at h
  refine ow_enterO (own := RX7) rfl (by decide +kernel) rfl (ls := [some (.ref 0), some (.int x1), some (.int x2), none, none, none]) rfl ?_
  refine gw_lconst 1 dX7_allWhole_0 (by decide) ?_
  refine gw_lstore3 dX7_allWhole_1 (by decide) rfl ?_
  refine gw_ic0 dX7_allWhole_2 ?_
  refine gw_istore5 dX7_allWhole_3 (by decide) rfl ?_
  refine tlpX7_allWhole_5 l ?_ _ _ _ h
  intro u3 u4 h
  refine gw_lload3 dX7_allWhole_43 ?_
  have hA := Option.some.inj h
  subst hA
  exact gw_lret dX7_allWhole_44 ⟨rfl, rfl⟩

def jX7_reaching_14 (x1 : Int32) (x2 : Int32) (x3 : Int32) (M : ow_M) : Option Int64 := (if x2 = (-9) then Option.bind (fX7_allWhole x1 x3 M) (fun v13 => some v13) else (if x1 = (-9) then Option.bind (fX7_allWhole x2 x3 M) (fun v11 => some v11) else Option.bind (fX7_allWhole x1 x3 M) (fun v5 => Option.bind (fX7_allWhole x2 x3 M) (fun v7 => Option.bind (fX7_allWhole (x1 + x2) x3 M) (fun v9 => some ((v5 + v7) - v9))))))
set_option maxRecDepth 100000 in
set_option maxHeartbeats 4000000 in
theorem tjX7_reaching_14 (l : Launch) {x1 : Int32} {x2 : Int32} {x3 : Int32} {M : ow_M} {r : Int64}  (h : jX7_reaching_14 x1 x2 x3 M = some r) : ow_G (ow_Γ l 1 (some .long) (ow_is (some (.long r)) M)) RX7 cX7_reaching 4 14 [some (.ref 0), some (.int x1), some (.int x2), some (.int x3)] [] M := by
  unfold jX7_reaching_14 at h
  refine gw_iload2 dX7_reaching_14 ?_
  refine gw_bipush (-9) dX7_reaching_15 (by decide) ?_
  refine gw_icmp_ne (tgt := 27) dX7_reaching_17 rfl (fun h2 => ?_) (fun h2 => ?_)
  · replace h := (if_neg h2).symm.trans h
    refine gw_iload1 dX7_reaching_27 ?_
    refine gw_bipush (-9) dX7_reaching_28 (by decide) ?_
    refine gw_icmp_ne (tgt := 40) dX7_reaching_30 rfl (fun h3 => ?_) (fun h3 => ?_)
    · replace h := (if_neg h3).symm.trans h
      refine gw_aload0 dX7_reaching_40 ?_
      refine gw_iload1 dX7_reaching_41 ?_
      refine gw_iload3 dX7_reaching_42 ?_
      obtain ⟨v5, hc4, h⟩ := ow_b_some h
      refine gw_cVI2 dX7_reaching_43 lkX7_259 mkX7_allWhole (ow_rm_in rfl rfl) rfl rfl (ctX7_allWhole l hc4) rfl ?_
      refine gw_aload0 dX7_reaching_46 ?_
      refine gw_iload2 dX7_reaching_47 ?_
      refine gw_iload3 dX7_reaching_48 ?_
      obtain ⟨v7, hc6, h⟩ := ow_b_some h
      refine gw_cVI2 dX7_reaching_49 lkX7_259 mkX7_allWhole (ow_rm_in rfl rfl) rfl rfl (ctX7_allWhole l hc6) rfl ?_
      refine gw_ladd dX7_reaching_52 ?_
      refine gw_aload0 dX7_reaching_53 ?_
      refine gw_iload1 dX7_reaching_54 ?_
      refine gw_iload2 dX7_reaching_55 ?_
      refine gw_iadd dX7_reaching_56 ?_
      refine gw_iload3 dX7_reaching_57 ?_
      obtain ⟨v9, hc8, h⟩ := ow_b_some h
      refine gw_cVI2 dX7_reaching_58 lkX7_259 mkX7_allWhole (ow_rm_in rfl rfl) rfl rfl (ctX7_allWhole l hc8) rfl ?_
      refine gw_lsub dX7_reaching_61 ?_
      have hA := Option.some.inj h
      subst hA
      exact gw_lret dX7_reaching_62 ⟨rfl, rfl⟩
    · replace h := (if_pos h3).symm.trans h
      refine gw_aload0 dX7_reaching_33 ?_
      refine gw_iload2 dX7_reaching_34 ?_
      refine gw_iload3 dX7_reaching_35 ?_
      obtain ⟨v11, hc10, h⟩ := ow_b_some h
      refine gw_cVI2 dX7_reaching_36 lkX7_259 mkX7_allWhole (ow_rm_in rfl rfl) rfl rfl (ctX7_allWhole l hc10) rfl ?_
      have hA := Option.some.inj h
      subst hA
      exact gw_lret dX7_reaching_39 ⟨rfl, rfl⟩
  · replace h := (if_pos h2).symm.trans h
    refine gw_aload0 dX7_reaching_20 ?_
    refine gw_iload1 dX7_reaching_21 ?_
    refine gw_iload3 dX7_reaching_22 ?_
    obtain ⟨v13, hc12, h⟩ := ow_b_some h
    refine gw_cVI2 dX7_reaching_23 lkX7_259 mkX7_allWhole (ow_rm_in rfl rfl) rfl rfl (ctX7_allWhole l hc12) rfl ?_
    have hA := Option.some.inj h
    subst hA
    exact gw_lret dX7_reaching_26 ⟨rfl, rfl⟩

def fX7_reaching (x1 : Int32) (x2 : Int32) (x3 : Int32) (M : ow_M) : Option Int64 := (if x1 = (-9) then (if x2 = (-9) then some 0 else jX7_reaching_14 x1 x2 x3 M) else jX7_reaching_14 x1 x2 x3 M)
set_option maxRecDepth 100000 in
set_option maxHeartbeats 4000000 in
theorem ctX7_reaching (l : Launch) {x1 : Int32} {x2 : Int32} {x3 : Int32} {M : ow_M} {r : Int64}  (h : fX7_reaching x1 x2 x3 M = some r) : ow_F l 1 yX7_reaching cX7_reaching 4 (some .long) [.ref 0, .int x1, .int x2, .int x3] M (some (.long r)) M := by
  unfold fX7_reaching at h
  refine ow_enterO (own := RX7) rfl (by decide +kernel) rfl (ls := [some (.ref 0), some (.int x1), some (.int x2), some (.int x3)]) rfl ?_
  refine gw_iload1 dX7_reaching_0 ?_
  refine gw_bipush (-9) dX7_reaching_1 (by decide) ?_
  refine gw_icmp_ne (tgt := 14) dX7_reaching_3 rfl (fun h1 => ?_) (fun h1 => ?_)
  · replace h := (if_neg h1).symm.trans h
    exact tjX7_reaching_14 l h
  · replace h := (if_pos h1).symm.trans h
    refine gw_iload2 dX7_reaching_6 ?_
    refine gw_bipush (-9) dX7_reaching_7 (by decide) ?_
    refine gw_icmp_ne (tgt := 14) dX7_reaching_9 rfl (fun h14 => ?_) (fun h14 => ?_)
    · replace h := (if_neg h14).symm.trans h
      exact tjX7_reaching_14 l h
    · replace h := (if_pos h14).symm.trans h
      refine gw_lconst 0 dX7_reaching_12 (by decide) ?_
      have hA := Option.some.inj h
      subst hA
      exact gw_lret dX7_reaching_13 ⟨rfl, rfl⟩

def lpX7_hearers_5 (x1 : Int32) (x2 : Int32) (M : ow_M) (k : Int64 → Int32 → Option Int64) : Nat → Int64 → Int32 → Option Int64
  | 0, _, _ => none
  | n + 1, x3, x5 => (if (M.1 2 0) ≤ x5 then k x3 x5 else (if x5 = x1 then lpX7_hearers_5 x1 x2 M k n x3 (x5 + 1) else Option.bind (fX0_wayRight x1 x5 M) (fun v4 => Option.bind (fX0_wayRight x5 x1 M) (fun v6 => Option.bind (fX7_reaching v4 v6 x2 M) (fun v8 => lpX7_hearers_5 x1 x2 M k n (x3 + v8) (x5 + 1))))))
set_option maxRecDepth 100000 in
set_option maxHeartbeats 4000000 in
theorem tlpX7_hearers_5 (l : Launch) {x1 : Int32} {x2 : Int32} {M : ow_M} {k : Int64 → Int32 → Option Int64} {r : Int64}  (hk : ∀ (x3 : Int64) (x5 : Int32), k x3 x5 = some r → ow_G (ow_Γ l 3 (some .long) (ow_is (some (.long r)) M)) RX7 cX7_hearers 6 57 [some (.ref 0), some (.int x1), some (.int x2), some (.long x3), none, some (.int x5)] [] M) : ∀ (n : Nat) (x3 : Int64) (x5 : Int32), lpX7_hearers_5 x1 x2 M k n x3 x5 = some r → ow_G (ow_Γ l 3 (some .long) (ow_is (some (.long r)) M)) RX7 cX7_hearers 6 5 [some (.ref 0), some (.int x1), some (.int x2), some (.long x3), none, some (.int x5)] [] M := by
  intro n
  induction n with
  | zero => intro _ _ h; cases h
  | succ n ih =>
    intro x3 x5 h
    unfold lpX7_hearers_5 at h
    refine gw_iload5 dX7_hearers_5 ?_
    refine gw_aload0 dX7_hearers_7 ?_
    refine gw_getR dX7_hearers_8 fkX7_20 rfl rfl ?_
    refine gw_getI dX7_hearers_11 fkX7_93 rfl rfl ?_
    refine gw_icmp_ge (tgt := 57) dX7_hearers_14 rfl (fun h1 => ?_) (fun h1 => ?_)
    · replace h := (if_pos h1).symm.trans h
      exact hk _ _ h
    · replace h := (if_neg h1).symm.trans h
      refine gw_iload5 dX7_hearers_17 ?_
      refine gw_iload1 dX7_hearers_19 ?_
      refine gw_icmp_eq (tgt := 51) dX7_hearers_20 rfl (fun h2 => ?_) (fun h2 => ?_)
      · replace h := (if_pos h2).symm.trans h
        refine gw_iinc5 1 dX7_hearers_51 (by decide) rfl (by decide) ?_
        refine gw_goto (tgt := 5) rfl dX7_hearers_54 ?_
        exact ih _ _ h
      · replace h := (if_neg h2).symm.trans h
        refine gw_lload3 dX7_hearers_23 ?_
        refine gw_aload0 dX7_hearers_24 ?_
        refine gw_aload0 dX7_hearers_25 ?_
        refine gw_getR dX7_hearers_26 fkX7_20 rfl rfl ?_
        refine gw_iload1 dX7_hearers_29 ?_
        refine gw_iload5 dX7_hearers_30 ?_
        obtain ⟨v4, hc3, h⟩ := ow_b_some h
        refine gw_cVI2 dX7_hearers_32 lkX7_251 mkX0_wayRight (ow_rm_in rfl rfl) rfl rfl (ctX0_wayRight l hc3) rfl ?_
        refine gw_aload0 dX7_hearers_35 ?_
        refine gw_getR dX7_hearers_36 fkX7_20 rfl rfl ?_
        refine gw_iload5 dX7_hearers_39 ?_
        refine gw_iload1 dX7_hearers_41 ?_
        obtain ⟨v6, hc5, h⟩ := ow_b_some h
        refine gw_cVI2 dX7_hearers_42 lkX7_251 mkX0_wayRight (ow_rm_in rfl rfl) rfl rfl (ctX0_wayRight l hc5) rfl ?_
        refine gw_iload2 dX7_hearers_45 ?_
        obtain ⟨v8, hc7, h⟩ := ow_b_some h
        refine gw_cVI3 dX7_hearers_46 lkX7_255 mkX7_reaching (ow_rm_in rfl rfl) rfl rfl (ctX7_reaching l hc7) rfl ?_
        refine gw_ladd dX7_hearers_49 ?_
        refine gw_lstore3 dX7_hearers_50 (by decide) rfl ?_
        refine gw_iinc5 1 dX7_hearers_51 (by decide) rfl (by decide) ?_
        refine gw_goto (tgt := 5) rfl dX7_hearers_54 ?_
        exact ih _ _ h

def fX7_hearers (x1 : Int32) (x2 : Int32) (M : ow_M) : Option Int64 := lpX7_hearers_5 x1 x2 M (fun u9 u10 => some u9) ow_N 0 0
set_option maxRecDepth 100000 in
set_option maxHeartbeats 4000000 in
theorem ctX7_hearers (l : Launch) {x1 : Int32} {x2 : Int32} {M : ow_M} {r : Int64}  (h : fX7_hearers x1 x2 M = some r) : ow_F l 3 yX7_hearers cX7_hearers 6 (some .long) [.ref 0, .int x1, .int x2] M (some (.long r)) M := by
  unfold fX7_hearers at h
  refine ow_enterO (own := RX7) rfl (by decide +kernel) rfl (ls := [some (.ref 0), some (.int x1), some (.int x2), none, none, none]) rfl ?_
  refine gw_lconst 0 dX7_hearers_0 (by decide) ?_
  refine gw_lstore3 dX7_hearers_1 (by decide) rfl ?_
  refine gw_ic0 dX7_hearers_2 ?_
  refine gw_istore5 dX7_hearers_3 (by decide) rfl ?_
  refine tlpX7_hearers_5 l ?_ _ _ _ h
  intro u9 u10 h
  refine gw_lload3 dX7_hearers_57 ?_
  have hA := Option.some.inj h
  subst hA
  exact gw_lret dX7_hearers_58 ⟨rfl, rfl⟩

def fX7_whole  (M : ow_M) : Option Int64 := Option.bind (fX7_allWhole 0 0 M) (fun v2 => some v2)
set_option maxRecDepth 100000 in
set_option maxHeartbeats 4000000 in
theorem ctX7_whole (l : Launch)  {M : ow_M} {r : Int64}  (h : fX7_whole M = some r) : ow_F l 1 yX7_whole cX7_whole 1 (some .long) [.ref 0] M (some (.long r)) M := by
  unfold fX7_whole at h
  refine ow_enterO (own := RX7) rfl (by decide +kernel) rfl (ls := [some (.ref 0)]) rfl ?_
  refine gw_aload0 dX7_whole_0 ?_
  refine gw_ic0 dX7_whole_1 ?_
  refine gw_ic0 dX7_whole_2 ?_
  obtain ⟨v2, hc1, h⟩ := ow_b_some h
  refine gw_cVI2 dX7_whole_3 lkX7_259 mkX7_allWhole (ow_rm_in rfl rfl) rfl rfl (ctX7_allWhole l hc1) rfl ?_
  have hA := Option.some.inj h
  subst hA
  exact gw_lret dX7_whole_6 ⟨rfl, rfl⟩

def lpX7_commonDivisor_9  (k : Int64 → Int64 → Int32 → Option Int64) : Nat → Int64 → Int64 → Int32 → Option Int64
  | 0, _, _, _ => none
  | n + 1, x4, x6, x8 => (if 200 ≤ x8 then k x4 x6 x8 else (if (lg_cmp x6 0) = 0 then k x4 x6 x8 else if x6 = 0 then none else lpX7_commonDivisor_9  k n x6 (x4 - x4 / x6 * x6) (x8 + 1)))
set_option maxRecDepth 100000 in
set_option maxHeartbeats 4000000 in
theorem tlpX7_commonDivisor_9 (l : Launch)  {M : ow_M} {k : Int64 → Int64 → Int32 → Option Int64} {r : Int64}  (hk : ∀ (x4 : Int64) (x6 : Int64) (x8 : Int32), k x4 x6 x8 = some r → ow_G (ow_Γ l 0 (some .long) (ow_is (some (.long r)) M)) RX7 cX7_commonDivisor 11 45 [none, none, none, none, some (.long x4), none, some (.long x6), none, some (.int x8), none, none] [] M) : ∀ (n : Nat) (x4 : Int64) (x6 : Int64) (x8 : Int32), lpX7_commonDivisor_9  k n x4 x6 x8 = some r → ow_G (ow_Γ l 0 (some .long) (ow_is (some (.long r)) M)) RX7 cX7_commonDivisor 11 9 [none, none, none, none, some (.long x4), none, some (.long x6), none, some (.int x8), none, none] [] M := by
  intro n
  induction n with
  | zero => intro _ _ _ h; cases h
  | succ n ih =>
    intro x4 x6 x8 h
    unfold lpX7_commonDivisor_9 at h
    refine gw_iload8 dX7_commonDivisor_9 ?_
    refine gw_sipush 200 dX7_commonDivisor_11 (by decide) ?_
    refine gw_icmp_ge (tgt := 45) dX7_commonDivisor_14 rfl (fun h1 => ?_) (fun h1 => ?_)
    · replace h := (if_pos h1).symm.trans h
      exact hk _ _ _ h
    · replace h := (if_neg h1).symm.trans h
      refine gw_lload6 dX7_commonDivisor_17 ?_
      refine gw_lconst 0 dX7_commonDivisor_19 (by decide) ?_
      refine gw_lcmp dX7_commonDivisor_20 ?_
      refine gw_if_eq (tgt := 45) dX7_commonDivisor_21 rfl (fun h2 => ?_) (fun h2 => ?_)
      · replace h := (if_pos h2).symm.trans h
        exact hk _ _ _ h
      · replace h := (if_neg h2).symm.trans h
        refine gw_lload4 dX7_commonDivisor_24 ?_
        refine gw_lload6 dX7_commonDivisor_26 ?_
        by_cases h3 : x6 = 0
        · replace h := (if_pos h3).symm.trans h
          cases h
        replace h := (if_neg h3).symm.trans h
        refine gw_lrem h3 dX7_commonDivisor_28 ?_
        refine gw_lstore9 dX7_commonDivisor_29 (by decide) rfl ?_
        refine gw_lload6 dX7_commonDivisor_31 ?_
        refine gw_lstore4 dX7_commonDivisor_33 (by decide) rfl ?_
        refine gw_lload9 dX7_commonDivisor_35 ?_
        refine gw_lstore6 dX7_commonDivisor_37 (by decide) rfl ?_
        refine gw_iinc8 1 dX7_commonDivisor_39 (by decide) rfl (by decide) ?_
        refine gw_goto (tgt := 9) rfl dX7_commonDivisor_42 ?_
        refine gw_drp9 ?_
        exact ih _ _ _ h

def fX7_commonDivisor (x0 : Int64) (x2 : Int64) : Option Int64 := lpX7_commonDivisor_9 (fun u4 u5 u6 => some u4) ow_N x0 x2 0
set_option maxRecDepth 100000 in
set_option maxHeartbeats 4000000 in
theorem ctX7_commonDivisor (l : Launch) {x0 : Int64} {x2 : Int64} {M : ow_M} {r : Int64}  (h : fX7_commonDivisor x0 x2 = some r) : ow_F l 0 yX7_commonDivisor cX7_commonDivisor 11 (some .long) [.long x0, .long x2] M (some (.long r)) M := by
  unfold fX7_commonDivisor at h
  refine ow_enterO (own := RX7) rfl (by decide +kernel) rfl (ls := [some (.long x0), none, some (.long x2), none, none, none, none, none, none, none, none]) rfl ?_
  refine gw_lload0 dX7_commonDivisor_0 ?_
  refine gw_lstore4 dX7_commonDivisor_1 (by decide) rfl ?_
  refine gw_lload2 dX7_commonDivisor_3 ?_
  refine gw_lstore6 dX7_commonDivisor_4 (by decide) rfl ?_
  refine gw_ic0 dX7_commonDivisor_6 ?_
  refine gw_istore8 dX7_commonDivisor_7 (by decide) rfl ?_
  refine gw_drp0 ?_
  refine gw_drp2 ?_
  refine tlpX7_commonDivisor_9 l ?_ _ _ _ _ h
  intro u4 u5 u6 h
  refine gw_lload4 dX7_commonDivisor_45 ?_
  have hA := Option.some.inj h
  subst hA
  exact gw_lret dX7_commonDivisor_47 ⟨rfl, rfl⟩

def fX7_heard (x1 : Int32) (x2 : Int32) (x3 : Int32) (M : ow_M) : Option Int64 := Option.bind (fX0_isPerson x1 M) (fun v2 => (if v2 = 0 then some (-9223372036854775808) else Option.bind (fX7_isTenths x2) (fun v5 => (if v5 = 0 then some (-9223372036854775808) else (if x3 < 0 then some (-9223372036854775808) else (if x3 ≤ 1 then Option.bind (fX7_hearers x1 x2 M) (fun v10 => Option.bind (fX7_whole M) (fun v12 => Option.bind (fX7_commonDivisor v10 v12) (fun v14 => (if 0 ≤ (lg_cmp v14 1) then (if x3 = 0 then if v14 = 0 then none else some (v10 / v14) else if v14 = 0 then none else some (v12 / v14)) else some (-9223372036854775808))))) else some (-9223372036854775808)))))))
set_option maxRecDepth 100000 in
set_option maxHeartbeats 4000000 in
theorem ctX7_heard (l : Launch) {x1 : Int32} {x2 : Int32} {x3 : Int32} {M : ow_M} {r : Int64}  (h : fX7_heard x1 x2 x3 M = some r) : ow_F l 4 yX7_heard cX7_heard 10 (some .long) [.ref 0, .int x1, .int x2, .int x3] M (some (.long r)) M := by
  unfold fX7_heard at h
  refine ow_enterO (own := RX7) rfl (by decide +kernel) rfl (ls := [some (.ref 0), some (.int x1), some (.int x2), some (.int x3), none, none, none, none, none, none]) rfl ?_
  refine gw_aload0 dX7_heard_0 ?_
  refine gw_getR dX7_heard_1 fkX7_20 rfl rfl ?_
  refine gw_iload1 dX7_heard_4 ?_
  obtain ⟨v2, hc1, h⟩ := ow_b_some h
  refine gw_cVI1 dX7_heard_5 lkX7_96 mkX0_isPerson (ow_rm_in rfl rfl) rfl rfl (ctX0_isPerson l hc1) rfl ?_
  refine gw_if_eq (tgt := 27) dX7_heard_8 rfl (fun h3 => ?_) (fun h3 => ?_)
  · replace h := (if_pos h3).symm.trans h
    refine gw_ldc2 klX7_175 dX7_heard_27 ?_
    have hA := Option.some.inj h
    subst hA
    exact gw_lret dX7_heard_30 ⟨rfl, rfl⟩
  · replace h := (if_neg h3).symm.trans h
    refine gw_iload2 dX7_heard_11 ?_
    obtain ⟨v5, hc4, h⟩ := ow_b_some h
    refine gw_cSI1 dX7_heard_12 lkX7_172 mkX7_isTenths (ow_rm_in rfl rfl) (ctX7_isTenths l hc4) rfl ?_
    refine gw_if_eq (tgt := 27) dX7_heard_15 rfl (fun h6 => ?_) (fun h6 => ?_)
    · replace h := (if_pos h6).symm.trans h
      refine gw_ldc2 klX7_175 dX7_heard_27 ?_
      have hA := Option.some.inj h
      subst hA
      exact gw_lret dX7_heard_30 ⟨rfl, rfl⟩
    · replace h := (if_neg h6).symm.trans h
      refine gw_iload3 dX7_heard_18 ?_
      refine gw_if_lt (tgt := 27) dX7_heard_19 rfl (fun h7 => ?_) (fun h7 => ?_)
      · replace h := (if_pos h7).symm.trans h
        refine gw_ldc2 klX7_175 dX7_heard_27 ?_
        have hA := Option.some.inj h
        subst hA
        exact gw_lret dX7_heard_30 ⟨rfl, rfl⟩
      · replace h := (if_neg h7).symm.trans h
        refine gw_iload3 dX7_heard_22 ?_
        refine gw_ic1 dX7_heard_23 ?_
        refine gw_icmp_le (tgt := 31) dX7_heard_24 rfl (fun h8 => ?_) (fun h8 => ?_)
        · replace h := (if_pos h8).symm.trans h
          refine gw_aload0 dX7_heard_31 ?_
          refine gw_iload1 dX7_heard_32 ?_
          refine gw_iload2 dX7_heard_33 ?_
          obtain ⟨v10, hc9, h⟩ := ow_b_some h
          refine gw_cVI2 dX7_heard_34 lkX7_177 mkX7_hearers (ow_rm_in rfl rfl) rfl rfl (ctX7_hearers l hc9) rfl ?_
          refine gw_lstore4 dX7_heard_37 (by decide) rfl ?_
          refine gw_aload0 dX7_heard_39 ?_
          obtain ⟨v12, hc11, h⟩ := ow_b_some h
          refine gw_cVI0 dX7_heard_40 lkX7_181 mkX7_whole (ow_rm_in rfl rfl) rfl rfl (ctX7_whole l hc11) rfl ?_
          refine gw_lstore6 dX7_heard_43 (by decide) rfl ?_
          refine gw_lload4 dX7_heard_45 ?_
          refine gw_lload6 dX7_heard_47 ?_
          obtain ⟨v14, hc13, h⟩ := ow_b_some h
          refine gw_cSI2 dX7_heard_49 lkX7_185 mkX7_commonDivisor (ow_rm_in rfl rfl) (ctX7_commonDivisor l hc13) rfl ?_
          refine gw_lstore8 dX7_heard_52 (by decide) rfl ?_
          refine gw_lload8 dX7_heard_54 ?_
          refine gw_lconst 1 dX7_heard_56 (by decide) ?_
          refine gw_lcmp dX7_heard_57 ?_
          refine gw_if_ge (tgt := 65) dX7_heard_58 rfl (fun h15 => ?_) (fun h15 => ?_)
          · replace h := (if_pos h15).symm.trans h
            refine gw_iload3 dX7_heard_65 ?_
            refine gw_if_ne (tgt := 74) dX7_heard_66 rfl (fun h16 => ?_) (fun h16 => ?_)
            · replace h := (if_neg h16).symm.trans h
              refine gw_lload6 dX7_heard_74 ?_
              refine gw_lload8 dX7_heard_76 ?_
              by_cases h17 : v14 = 0
              · replace h := (if_pos h17).symm.trans h
                cases h
              replace h := (if_neg h17).symm.trans h
              refine gw_ldiv h17 dX7_heard_78 ?_
              have hA := Option.some.inj h
              subst hA
              exact gw_lret dX7_heard_79 ⟨rfl, rfl⟩
            · replace h := (if_pos h16).symm.trans h
              refine gw_lload4 dX7_heard_69 ?_
              refine gw_goto (tgt := 76) rfl dX7_heard_71 ?_
              refine gw_lload8 dX7_heard_76 ?_
              by_cases h18 : v14 = 0
              · replace h := (if_pos h18).symm.trans h
                cases h
              replace h := (if_neg h18).symm.trans h
              refine gw_ldiv h18 dX7_heard_78 ?_
              have hA := Option.some.inj h
              subst hA
              exact gw_lret dX7_heard_79 ⟨rfl, rfl⟩
          · replace h := (if_neg h15).symm.trans h
            refine gw_ldc2 klX7_175 dX7_heard_61 ?_
            have hA := Option.some.inj h
            subst hA
            exact gw_lret dX7_heard_64 ⟨rfl, rfl⟩
        · replace h := (if_neg h8).symm.trans h
          refine gw_ldc2 klX7_175 dX7_heard_27 ?_
          have hA := Option.some.inj h
          subst hA
          exact gw_lret dX7_heard_30 ⟨rfl, rfl⟩

def lpX7_stand_27 (x1 : Int32) (M : ow_M) (k : Int32 → Int32 → Option Int32) : Nat → Int32 → Int32 → Option Int32
  | 0, _, _ => none
  | n + 1, x2, x3 => (if (M.1 2 0) ≤ x3 then k x2 x3 else Option.bind (fX7_hearers x3 x1 M) (fun v9 => Option.bind (fX7_hearers x2 x1 M) (fun v11 => (if (lg_cmp v9 v11) ≤ 0 then lpX7_stand_27 x1 M k n x2 (x3 + 1) else lpX7_stand_27 x1 M k n x3 (x3 + 1)))))
set_option maxRecDepth 100000 in
set_option maxHeartbeats 4000000 in
theorem tlpX7_stand_27 (l : Launch) {x1 : Int32} {M : ow_M} {k : Int32 → Int32 → Option Int32} {r : Int32}  (hk : ∀ (x2 : Int32) (x3 : Int32), k x2 x3 = some r → ow_G (ow_Γ l 4 (some .int) (ow_is (some (.int r)) M)) RX7 cX7_stand 4 62 [some (.ref 0), some (.int x1), some (.int x2), some (.int x3)] [] M) : ∀ (n : Nat) (x2 : Int32) (x3 : Int32), lpX7_stand_27 x1 M k n x2 x3 = some r → ow_G (ow_Γ l 4 (some .int) (ow_is (some (.int r)) M)) RX7 cX7_stand 4 27 [some (.ref 0), some (.int x1), some (.int x2), some (.int x3)] [] M := by
  intro n
  induction n with
  | zero => intro _ _ h; cases h
  | succ n ih =>
    intro x2 x3 h
    unfold lpX7_stand_27 at h
    refine gw_iload3 dX7_stand_27 ?_
    refine gw_aload0 dX7_stand_28 ?_
    refine gw_getR dX7_stand_29 fkX7_20 rfl rfl ?_
    refine gw_getI dX7_stand_32 fkX7_93 rfl rfl ?_
    refine gw_icmp_ge (tgt := 62) dX7_stand_35 rfl (fun h7 => ?_) (fun h7 => ?_)
    · replace h := (if_pos h7).symm.trans h
      exact hk _ _ h
    · replace h := (if_neg h7).symm.trans h
      refine gw_aload0 dX7_stand_38 ?_
      refine gw_iload3 dX7_stand_39 ?_
      refine gw_iload1 dX7_stand_40 ?_
      obtain ⟨v9, hc8, h⟩ := ow_b_some h
      refine gw_cVI2 dX7_stand_41 lkX7_177 mkX7_hearers (ow_rm_in rfl rfl) rfl rfl (ctX7_hearers l hc8) rfl ?_
      refine gw_aload0 dX7_stand_44 ?_
      refine gw_iload2 dX7_stand_45 ?_
      refine gw_iload1 dX7_stand_46 ?_
      obtain ⟨v11, hc10, h⟩ := ow_b_some h
      refine gw_cVI2 dX7_stand_47 lkX7_177 mkX7_hearers (ow_rm_in rfl rfl) rfl rfl (ctX7_hearers l hc10) rfl ?_
      refine gw_lcmp dX7_stand_50 ?_
      refine gw_if_le (tgt := 56) dX7_stand_51 rfl (fun h12 => ?_) (fun h12 => ?_)
      · replace h := (if_pos h12).symm.trans h
        refine gw_iinc3 1 dX7_stand_56 (by decide) rfl (by decide) ?_
        refine gw_goto (tgt := 27) rfl dX7_stand_59 ?_
        exact ih _ _ h
      · replace h := (if_neg h12).symm.trans h
        refine gw_iload3 dX7_stand_54 ?_
        refine gw_istore2 dX7_stand_55 (by decide) rfl ?_
        refine gw_iinc3 1 dX7_stand_56 (by decide) rfl (by decide) ?_
        refine gw_goto (tgt := 27) rfl dX7_stand_59 ?_
        exact ih _ _ h

def fX7_stand (x1 : Int32) (M : ow_M) : Option Int32 := Option.bind (fX7_isTenths x1) (fun v2 => (if v2 = 0 then some (-2) else Option.bind (fX0_isThere M) (fun v5 => (if v5 = 0 then some (-3) else lpX7_stand_27 x1 M (fun u13 u14 => some u13) ow_N 0 1))))
set_option maxRecDepth 100000 in
set_option maxHeartbeats 4000000 in
theorem ctX7_stand (l : Launch) {x1 : Int32} {M : ow_M} {r : Int32}  (h : fX7_stand x1 M = some r) : ow_F l 4 yX7_stand cX7_stand 4 (some .int) [.ref 0, .int x1] M (some (.int r)) M := by
  unfold fX7_stand at h
  refine ow_enterO (own := RX7) rfl (by decide +kernel) rfl (ls := [some (.ref 0), some (.int x1), none, none]) rfl ?_
  refine gw_iload1 dX7_stand_0 ?_
  obtain ⟨v2, hc1, h⟩ := ow_b_some h
  refine gw_cSI1 dX7_stand_1 lkX7_172 mkX7_isTenths (ow_rm_in rfl rfl) (ctX7_isTenths l hc1) rfl ?_
  refine gw_if_ne (tgt := 10) dX7_stand_4 rfl (fun h3 => ?_) (fun h3 => ?_)
  · replace h := (if_neg h3).symm.trans h
    refine gw_aload0 dX7_stand_10 ?_
    refine gw_getR dX7_stand_11 fkX7_20 rfl rfl ?_
    obtain ⟨v5, hc4, h⟩ := ow_b_some h
    refine gw_cVI0 dX7_stand_14 lkX7_136 mkX0_isThere (ow_rm_in rfl rfl) rfl rfl (ctX0_isThere l hc4) rfl ?_
    refine gw_if_ne (tgt := 23) dX7_stand_17 rfl (fun h6 => ?_) (fun h6 => ?_)
    · replace h := (if_neg h6).symm.trans h
      refine gw_ic0 dX7_stand_23 ?_
      refine gw_istore2 dX7_stand_24 (by decide) rfl ?_
      refine gw_ic1 dX7_stand_25 ?_
      refine gw_istore3 dX7_stand_26 (by decide) rfl ?_
      refine tlpX7_stand_27 l ?_ _ _ _ h
      intro u13 u14 h
      refine gw_iload2 dX7_stand_62 ?_
      have hA := Option.some.inj h
      subst hA
      exact gw_iret dX7_stand_63 ⟨rfl, rfl⟩
    · replace h := (if_pos h6).symm.trans h
      refine gw_bipush (-3) dX7_stand_20 (by decide) ?_
      have hA := Option.some.inj h
      subst hA
      exact gw_iret dX7_stand_22 ⟨rfl, rfl⟩
  · replace h := (if_pos h3).symm.trans h
    refine gw_bipush (-2) dX7_stand_7 (by decide) ?_
    have hA := Option.some.inj h
    subst hA
    exact gw_iret dX7_stand_9 ⟨rfl, rfl⟩

def fX7_reading (x1 : Int32) (x2 : Int32) (x3 : Int32) (x4 : Int32) (M : ow_M) : Option (Int32 × ow_M) := Option.bind (fX0_isPerson x1 M) (fun v2 => (if v2 = 0 then some ((-1), M) else Option.bind (fX0_isPerson x3 M) (fun v5 => (if v5 = 0 then some ((-1), M) else Option.bind (fX7_isNumber x2) (fun v8 => (if v8 = 0 then some ((-2), M) else Option.bind (fX7_isNumber x4) (fun v11 => (if v11 = 0 then (if x4 = (-9) then ow_bd (fX3_takeOne x1 x2 x3 x4 M) (fun v18 M19 => some (v18, M19)) else some ((-2), M)) else ow_bd (fX3_takeOne x1 x2 x3 x4 M) (fun v14 M15 => some (v14, M15))))))))))
set_option maxRecDepth 100000 in
set_option maxHeartbeats 4000000 in
theorem ctX7_reading (l : Launch) {x1 : Int32} {x2 : Int32} {x3 : Int32} {x4 : Int32} {M : ow_M} {r : Int32} {M9 : ow_M}  (h : fX7_reading x1 x2 x3 x4 M = some (r, M9)) : ow_F l 1 yX7_reading cX7_reading 5 (some .int) [.ref 0, .int x1, .int x2, .int x3, .int x4] M (some (.int r)) M9 := by
  unfold fX7_reading at h
  refine ow_enterO (own := RX7) rfl (by decide +kernel) rfl (ls := [some (.ref 0), some (.int x1), some (.int x2), some (.int x3), some (.int x4)]) rfl ?_
  refine gw_aload0 dX7_reading_0 ?_
  refine gw_getR dX7_reading_1 fkX7_20 rfl rfl ?_
  refine gw_iload1 dX7_reading_4 ?_
  obtain ⟨v2, hc1, h⟩ := ow_b_some h
  refine gw_cVI1 dX7_reading_5 lkX7_96 mkX0_isPerson (ow_rm_in rfl rfl) rfl rfl (ctX0_isPerson l hc1) rfl ?_
  refine gw_if_eq (tgt := 22) dX7_reading_8 rfl (fun h3 => ?_) (fun h3 => ?_)
  · replace h := (if_pos h3).symm.trans h
    refine gw_icm1 dX7_reading_22 ?_
    obtain ⟨hA, hB⟩ := Prod.mk.inj (Option.some.inj h)
    subst hA
    subst hB
    exact gw_iret dX7_reading_23 ⟨rfl, rfl⟩
  · replace h := (if_neg h3).symm.trans h
    refine gw_aload0 dX7_reading_11 ?_
    refine gw_getR dX7_reading_12 fkX7_20 rfl rfl ?_
    refine gw_iload3 dX7_reading_15 ?_
    obtain ⟨v5, hc4, h⟩ := ow_b_some h
    refine gw_cVI1 dX7_reading_16 lkX7_96 mkX0_isPerson (ow_rm_in rfl rfl) rfl rfl (ctX0_isPerson l hc4) rfl ?_
    refine gw_if_ne (tgt := 24) dX7_reading_19 rfl (fun h6 => ?_) (fun h6 => ?_)
    · replace h := (if_neg h6).symm.trans h
      refine gw_iload2 dX7_reading_24 ?_
      obtain ⟨v8, hc7, h⟩ := ow_b_some h
      refine gw_cSI1 dX7_reading_25 lkX7_123 mkX7_isNumber (ow_rm_in rfl rfl) (ctX7_isNumber l hc7) rfl ?_
      refine gw_if_eq (tgt := 46) dX7_reading_28 rfl (fun h9 => ?_) (fun h9 => ?_)
      · replace h := (if_pos h9).symm.trans h
        refine gw_bipush (-2) dX7_reading_46 (by decide) ?_
        obtain ⟨hA, hB⟩ := Prod.mk.inj (Option.some.inj h)
        subst hA
        subst hB
        exact gw_iret dX7_reading_48 ⟨rfl, rfl⟩
      · replace h := (if_neg h9).symm.trans h
        refine gw_iload4 dX7_reading_31 ?_
        obtain ⟨v11, hc10, h⟩ := ow_b_some h
        refine gw_cSI1 dX7_reading_33 lkX7_123 mkX7_isNumber (ow_rm_in rfl rfl) (ctX7_isNumber l hc10) rfl ?_
        refine gw_if_ne (tgt := 49) dX7_reading_36 rfl (fun h12 => ?_) (fun h12 => ?_)
        · replace h := (if_neg h12).symm.trans h
          refine gw_aload0 dX7_reading_49 ?_
          refine gw_getR dX7_reading_50 fkX7_55 rfl rfl ?_
          refine gw_iload1 dX7_reading_53 ?_
          refine gw_iload2 dX7_reading_54 ?_
          refine gw_iload3 dX7_reading_55 ?_
          refine gw_iload4 dX7_reading_56 ?_
          obtain ⟨v14, M15, hc13, h⟩ := ow_bd_some h
          refine gw_cVI4 dX7_reading_58 lkX7_189 mkX3_takeOne (ow_rm_in rfl rfl) rfl rfl (ctX3_takeOne l hc13) rfl ?_
          obtain ⟨hA, hB⟩ := Prod.mk.inj (Option.some.inj h)
          subst hA
          subst hB
          exact gw_iret dX7_reading_61 ⟨rfl, rfl⟩
        · replace h := (if_pos h12).symm.trans h
          refine gw_iload4 dX7_reading_39 ?_
          refine gw_bipush (-9) dX7_reading_41 (by decide) ?_
          refine gw_icmp_eq (tgt := 49) dX7_reading_43 rfl (fun h16 => ?_) (fun h16 => ?_)
          · replace h := (if_pos h16).symm.trans h
            refine gw_aload0 dX7_reading_49 ?_
            refine gw_getR dX7_reading_50 fkX7_55 rfl rfl ?_
            refine gw_iload1 dX7_reading_53 ?_
            refine gw_iload2 dX7_reading_54 ?_
            refine gw_iload3 dX7_reading_55 ?_
            refine gw_iload4 dX7_reading_56 ?_
            obtain ⟨v18, M19, hc17, h⟩ := ow_bd_some h
            refine gw_cVI4 dX7_reading_58 lkX7_189 mkX3_takeOne (ow_rm_in rfl rfl) rfl rfl (ctX3_takeOne l hc17) rfl ?_
            obtain ⟨hA, hB⟩ := Prod.mk.inj (Option.some.inj h)
            subst hA
            subst hB
            exact gw_iret dX7_reading_61 ⟨rfl, rfl⟩
          · replace h := (if_neg h16).symm.trans h
            refine gw_bipush (-2) dX7_reading_46 (by decide) ?_
            obtain ⟨hA, hB⟩ := Prod.mk.inj (Option.some.inj h)
            subst hA
            subst hB
            exact gw_iret dX7_reading_48 ⟨rfl, rfl⟩
    · replace h := (if_pos h6).symm.trans h
      refine gw_icm1 dX7_reading_22 ?_
      obtain ⟨hA, hB⟩ := Prod.mk.inj (Option.some.inj h)
      subst hA
      subst hB
      exact gw_iret dX7_reading_23 ⟨rfl, rfl⟩

def fX7_back (x1 : Int32) (M : ow_M) : Option (Int32 × ow_M) := (if x1 < 0 then some ((-2), M) else (if x1 ≤ (M.1 21 0) then some (((ow_up M 21 0 ((M.1 21 0) - x1)).1 21 0), (ow_up M 21 0 ((M.1 21 0) - x1))) else some ((-2), M)))
set_option maxRecDepth 100000 in
set_option maxHeartbeats 4000000 in
theorem ctX7_back (l : Launch) {x1 : Int32} {M : ow_M} {r : Int32} {M9 : ow_M}  (h : fX7_back x1 M = some (r, M9)) : ow_F l 0 yX7_back cX7_back 2 (some .int) [.ref 0, .int x1] M (some (.int r)) M9 := by
  unfold fX7_back at h
  refine ow_enterO (own := RX7) rfl (by decide +kernel) rfl (ls := [some (.ref 0), some (.int x1)]) rfl ?_
  refine gw_iload1 dX7_back_0 ?_
  refine gw_if_lt (tgt := 15) dX7_back_1 rfl (fun h1 => ?_) (fun h1 => ?_)
  · replace h := (if_pos h1).symm.trans h
    refine gw_bipush (-2) dX7_back_15 (by decide) ?_
    obtain ⟨hA, hB⟩ := Prod.mk.inj (Option.some.inj h)
    subst hA
    subst hB
    exact gw_iret dX7_back_17 ⟨rfl, rfl⟩
  · replace h := (if_neg h1).symm.trans h
    refine gw_iload1 dX7_back_4 ?_
    refine gw_aload0 dX7_back_5 ?_
    refine gw_getR dX7_back_6 fkX7_55 rfl rfl ?_
    refine gw_getI dX7_back_9 fkX7_90 rfl rfl ?_
    refine gw_icmp_le (tgt := 18) dX7_back_12 rfl (fun h2 => ?_) (fun h2 => ?_)
    · replace h := (if_pos h2).symm.trans h
      refine gw_aload0 dX7_back_18 ?_
      refine gw_getR dX7_back_19 fkX7_55 rfl rfl ?_
      refine gw_dup rfl dX7_back_22 ?_
      refine gw_getI dX7_back_23 fkX7_90 rfl rfl ?_
      refine gw_iload1 dX7_back_26 ?_
      refine gw_isub dX7_back_27 ?_
      refine gw_putI dX7_back_28 fkX7_90 fp3_0 rfl rfl ?_
      refine gw_aload0 dX7_back_31 ?_
      refine gw_getR dX7_back_32 fkX7_55 rfl rfl ?_
      refine gw_getI dX7_back_35 fkX7_90 rfl rfl ?_
      obtain ⟨hA, hB⟩ := Prod.mk.inj (Option.some.inj h)
      subst hA
      subst hB
      exact gw_iret dX7_back_38 ⟨rfl, rfl⟩
    · replace h := (if_neg h2).symm.trans h
      refine gw_bipush (-2) dX7_back_15 (by decide) ?_
      obtain ⟨hA, hB⟩ := Prod.mk.inj (Option.some.inj h)
      subst hA
      subst hB
      exact gw_iret dX7_back_17 ⟨rfl, rfl⟩

def lpX7_kinds_28 (x1 : Int32) (x2 : Int32) (k : Int32 → Int32 → ow_M → Option (Int32 × ow_M)) : Nat → Int32 → Int32 → ow_M → Option (Int32 × ow_M)
  | 0, _, _, _ => none
  | n + 1, x3, x4, M => (if 3 ≤ x4 then k x3 x4 M else if ow_inn x1 7 then ow_bd (fX3_areAllSo (ow_up M 3 x1.toNatClampNeg x4)) (fun v8 M9 => (if v8 = 0 then lpX7_kinds_28 x1 x2 k n x3 (x4 + 1) M9 else lpX7_kinds_28 x1 x2 k n (x3 ||| (1 <<< (x4 &&& 31))) (x4 + 1) M9)) else none)
set_option maxRecDepth 100000 in
set_option maxHeartbeats 4000000 in
theorem tlpX7_kinds_28 (l : Launch) {x1 : Int32} {x2 : Int32} {k : Int32 → Int32 → ow_M → Option (Int32 × ow_M)} {r : Int32} {M9 : ow_M}  (hk : ∀ (x3 : Int32) (x4 : Int32) (M : ow_M), k x3 x4 M = some (r, M9) → ow_G (ow_Γ l 5 (some .int) (ow_is (some (.int r)) M9)) RX7 cX7_kinds 5 76 [some (.ref 0), some (.int x1), some (.int x2), some (.int x3), some (.int x4)] [] M) : ∀ (n : Nat) (x3 : Int32) (x4 : Int32) (M : ow_M), lpX7_kinds_28 x1 x2 k n x3 x4 M = some (r, M9) → ow_G (ow_Γ l 5 (some .int) (ow_is (some (.int r)) M9)) RX7 cX7_kinds 5 28 [some (.ref 0), some (.int x1), some (.int x2), some (.int x3), some (.int x4)] [] M := by
  intro n
  induction n with
  | zero => intro _ _ _ h; cases h
  | succ n ih =>
    intro x3 x4 M h
    unfold lpX7_kinds_28 at h
    refine gw_iload4 dX7_kinds_28 ?_
    refine gw_ic3 dX7_kinds_30 ?_
    refine gw_icmp_ge (tgt := 76) dX7_kinds_31 rfl (fun h5 => ?_) (fun h5 => ?_)
    · replace h := (if_pos h5).symm.trans h
      exact hk _ _ _ h
    · replace h := (if_neg h5).symm.trans h
      refine gw_aload0 dX7_kinds_34 ?_
      refine gw_getR dX7_kinds_35 fkX7_20 rfl rfl ?_
      refine gw_getR dX7_kinds_38 fkX7_99 rfl rfl ?_
      refine gw_iload1 dX7_kinds_41 ?_
      refine gw_iload4 dX7_kinds_42 ?_
      by_cases h6 : ow_inn x1 7
      rotate_left
      · replace h := (if_neg h6).symm.trans h
        cases h
      replace h := (if_pos h6).symm.trans h
      refine gw_iast dX7_kinds_44 rfl h6 ?_
      refine gw_aload0 dX7_kinds_45 ?_
      refine gw_getR dX7_kinds_46 fkX7_55 rfl rfl ?_
      refine gw_aload0 dX7_kinds_49 ?_
      refine gw_getR dX7_kinds_50 fkX7_20 rfl rfl ?_
      refine gw_aload0 dX7_kinds_53 ?_
      refine gw_getR dX7_kinds_54 fkX7_27 rfl rfl ?_
      obtain ⟨v8, M9, hc7, h⟩ := ow_bd_some h
      refine gw_cVI2 dX7_kinds_57 lkX7_193 mkX3_areAllSo (ow_rm_in rfl rfl) rfl rfl (ctX3_areAllSo l hc7) rfl ?_
      refine gw_if_eq (tgt := 70) dX7_kinds_60 rfl (fun h10 => ?_) (fun h10 => ?_)
      · replace h := (if_pos h10).symm.trans h
        refine gw_iinc4 1 dX7_kinds_70 (by decide) rfl (by decide) ?_
        refine gw_goto (tgt := 28) rfl dX7_kinds_73 ?_
        exact ih _ _ _ h
      · replace h := (if_neg h10).symm.trans h
        refine gw_iload3 dX7_kinds_63 ?_
        refine gw_ic1 dX7_kinds_64 ?_
        refine gw_iload4 dX7_kinds_65 ?_
        refine gw_ishl dX7_kinds_67 ?_
        refine gw_ior dX7_kinds_68 ?_
        refine gw_istore3 dX7_kinds_69 (by decide) rfl ?_
        refine gw_iinc4 1 dX7_kinds_70 (by decide) rfl (by decide) ?_
        refine gw_goto (tgt := 28) rfl dX7_kinds_73 ?_
        exact ih _ _ _ h

def fX7_kinds (x1 : Int32) (M : ow_M) : Option (Int32 × ow_M) := Option.bind (fX0_isPerson x1 M) (fun v2 => (if v2 = 0 then some ((-1), M) else if ow_inn x1 7 then lpX7_kinds_28 x1 (M.1 3 x1.toNatClampNeg) (fun u11 u12 M13 => if ow_inn x1 7 then some (u11, (ow_up M13 3 x1.toNatClampNeg (M.1 3 x1.toNatClampNeg))) else none) ow_N 0 0 M else none))
set_option maxRecDepth 100000 in
set_option maxHeartbeats 4000000 in
theorem ctX7_kinds (l : Launch) {x1 : Int32} {M : ow_M} {r : Int32} {M9 : ow_M}  (h : fX7_kinds x1 M = some (r, M9)) : ow_F l 5 yX7_kinds cX7_kinds 5 (some .int) [.ref 0, .int x1] M (some (.int r)) M9 := by
  unfold fX7_kinds at h
  refine ow_enterO (own := RX7) rfl (by decide +kernel) rfl (ls := [some (.ref 0), some (.int x1), none, none, none]) rfl ?_
  refine gw_aload0 dX7_kinds_0 ?_
  refine gw_getR dX7_kinds_1 fkX7_20 rfl rfl ?_
  refine gw_iload1 dX7_kinds_4 ?_
  obtain ⟨v2, hc1, h⟩ := ow_b_some h
  refine gw_cVI1 dX7_kinds_5 lkX7_96 mkX0_isPerson (ow_rm_in rfl rfl) rfl rfl (ctX0_isPerson l hc1) rfl ?_
  refine gw_if_ne (tgt := 13) dX7_kinds_8 rfl (fun h3 => ?_) (fun h3 => ?_)
  · replace h := (if_neg h3).symm.trans h
    refine gw_aload0 dX7_kinds_13 ?_
    refine gw_getR dX7_kinds_14 fkX7_20 rfl rfl ?_
    refine gw_getR dX7_kinds_17 fkX7_99 rfl rfl ?_
    refine gw_iload1 dX7_kinds_20 ?_
    by_cases h4 : ow_inn x1 7
    rotate_left
    · replace h := (if_neg h4).symm.trans h
      cases h
    replace h := (if_pos h4).symm.trans h
    refine gw_iald dX7_kinds_21 rfl h4 ?_
    refine gw_istore2 dX7_kinds_22 (by decide) rfl ?_
    refine gw_ic0 dX7_kinds_23 ?_
    refine gw_istore3 dX7_kinds_24 (by decide) rfl ?_
    refine gw_ic0 dX7_kinds_25 ?_
    refine gw_istore4 dX7_kinds_26 (by decide) rfl ?_
    refine tlpX7_kinds_28 l ?_ _ _ _ _ h
    intro u11 u12 M13 h
    refine gw_aload0 dX7_kinds_76 ?_
    refine gw_getR dX7_kinds_77 fkX7_20 rfl rfl ?_
    refine gw_getR dX7_kinds_80 fkX7_99 rfl rfl ?_
    refine gw_iload1 dX7_kinds_83 ?_
    refine gw_iload2 dX7_kinds_84 ?_
    by_cases h14 : ow_inn x1 7
    rotate_left
    · replace h := (if_neg h14).symm.trans h
      cases h
    replace h := (if_pos h14).symm.trans h
    refine gw_iast dX7_kinds_85 rfl h14 ?_
    refine gw_iload3 dX7_kinds_86 ?_
    obtain ⟨hA, hB⟩ := Prod.mk.inj (Option.some.inj h)
    subst hA
    subst hB
    exact gw_iret dX7_kinds_87 ⟨rfl, rfl⟩
  · replace h := (if_pos h3).symm.trans h
    refine gw_icm1 dX7_kinds_11 ?_
    obtain ⟨hA, hB⟩ := Prod.mk.inj (Option.some.inj h)
    subst hA
    subst hB
    exact gw_iret dX7_kinds_12 ⟨rfl, rfl⟩

def lpX7_walls_17  (k : Int32 → Int32 → ow_M → Option (Int32 × ow_M)) : Nat → Int32 → Int32 → ow_M → Option (Int32 × ow_M)
  | 0, _, _, _ => none
  | n + 1, x1, x2, M => (if (M.1 2 1) ≤ x2 then k x1 x2 M else if ow_inn x2 7 then if ow_inn x2 7 then ow_bd (fX3_areAllSo (ow_up M 7 x2.toNatClampNeg (vp_nar .boolean 1))) (fun v8 M9 => (if v8 = 0 then if ow_inn x2 7 then lpX7_walls_17  k n x1 (x2 + 1) (ow_up M9 7 x2.toNatClampNeg (vp_nar .boolean (M.1 7 x2.toNatClampNeg))) else none else if ow_inn x2 7 then lpX7_walls_17  k n (x1 ||| (1 <<< (x2 &&& 31))) (x2 + 1) (ow_up M9 7 x2.toNatClampNeg (vp_nar .boolean (M.1 7 x2.toNatClampNeg))) else none)) else none else none)
set_option maxRecDepth 100000 in
set_option maxHeartbeats 4000000 in
theorem tlpX7_walls_17 (l : Launch)  {k : Int32 → Int32 → ow_M → Option (Int32 × ow_M)} {r : Int32} {M9 : ow_M}  (hk : ∀ (x1 : Int32) (x2 : Int32) (M : ow_M), k x1 x2 M = some (r, M9) → ow_G (ow_Γ l 5 (some .int) (ow_is (some (.int r)) M9)) RX7 cX7_walls 4 88 [some (.ref 0), some (.int x1), some (.int x2), none] [] M) : ∀ (n : Nat) (x1 : Int32) (x2 : Int32) (M : ow_M), lpX7_walls_17  k n x1 x2 M = some (r, M9) → ow_G (ow_Γ l 5 (some .int) (ow_is (some (.int r)) M9)) RX7 cX7_walls 4 17 [some (.ref 0), some (.int x1), some (.int x2), none] [] M := by
  intro n
  induction n with
  | zero => intro _ _ _ h; cases h
  | succ n ih =>
    intro x1 x2 M h
    unfold lpX7_walls_17 at h
    refine gw_iload2 dX7_walls_17 ?_
    refine gw_aload0 dX7_walls_18 ?_
    refine gw_getR dX7_walls_19 fkX7_20 rfl rfl ?_
    refine gw_getI dX7_walls_22 fkX7_197 rfl rfl ?_
    refine gw_icmp_ge (tgt := 88) dX7_walls_25 rfl (fun h4 => ?_) (fun h4 => ?_)
    · replace h := (if_pos h4).symm.trans h
      exact hk _ _ _ h
    · replace h := (if_neg h4).symm.trans h
      refine gw_aload0 dX7_walls_28 ?_
      refine gw_getR dX7_walls_29 fkX7_20 rfl rfl ?_
      refine gw_getR dX7_walls_32 fkX7_115 rfl rfl ?_
      refine gw_iload2 dX7_walls_35 ?_
      by_cases h5 : ow_inn x2 7
      rotate_left
      · replace h := (if_neg h5).symm.trans h
        cases h
      replace h := (if_pos h5).symm.trans h
      refine gw_zald dX7_walls_36 rfl h5 ?_
      refine gw_istore3 dX7_walls_37 (by decide) rfl ?_
      refine gw_aload0 dX7_walls_38 ?_
      refine gw_getR dX7_walls_39 fkX7_20 rfl rfl ?_
      refine gw_getR dX7_walls_42 fkX7_115 rfl rfl ?_
      refine gw_iload2 dX7_walls_45 ?_
      refine gw_ic1 dX7_walls_46 ?_
      by_cases h6 : ow_inn x2 7
      rotate_left
      · replace h := (if_neg h6).symm.trans h
        cases h
      replace h := (if_pos h6).symm.trans h
      refine gw_zast dX7_walls_47 rfl h6 ?_
      refine gw_aload0 dX7_walls_48 ?_
      refine gw_getR dX7_walls_49 fkX7_55 rfl rfl ?_
      refine gw_aload0 dX7_walls_52 ?_
      refine gw_getR dX7_walls_53 fkX7_20 rfl rfl ?_
      refine gw_aload0 dX7_walls_56 ?_
      refine gw_getR dX7_walls_57 fkX7_27 rfl rfl ?_
      obtain ⟨v8, M9, hc7, h⟩ := ow_bd_some h
      refine gw_cVI2 dX7_walls_60 lkX7_193 mkX3_areAllSo (ow_rm_in rfl rfl) rfl rfl (ctX3_areAllSo l hc7) rfl ?_
      refine gw_if_eq (tgt := 72) dX7_walls_63 rfl (fun h10 => ?_) (fun h10 => ?_)
      · replace h := (if_pos h10).symm.trans h
        refine gw_aload0 dX7_walls_72 ?_
        refine gw_getR dX7_walls_73 fkX7_20 rfl rfl ?_
        refine gw_getR dX7_walls_76 fkX7_115 rfl rfl ?_
        refine gw_iload2 dX7_walls_79 ?_
        refine gw_iload3 dX7_walls_80 ?_
        by_cases h11 : ow_inn x2 7
        rotate_left
        · replace h := (if_neg h11).symm.trans h
          cases h
        replace h := (if_pos h11).symm.trans h
        refine gw_zast dX7_walls_81 rfl h11 ?_
        refine gw_iinc2 1 dX7_walls_82 (by decide) rfl (by decide) ?_
        refine gw_goto (tgt := 17) rfl dX7_walls_85 ?_
        refine gw_drp3 ?_
        exact ih _ _ _ h
      · replace h := (if_neg h10).symm.trans h
        refine gw_iload1 dX7_walls_66 ?_
        refine gw_ic1 dX7_walls_67 ?_
        refine gw_iload2 dX7_walls_68 ?_
        refine gw_ishl dX7_walls_69 ?_
        refine gw_ior dX7_walls_70 ?_
        refine gw_istore1 dX7_walls_71 (by decide) rfl ?_
        refine gw_aload0 dX7_walls_72 ?_
        refine gw_getR dX7_walls_73 fkX7_20 rfl rfl ?_
        refine gw_getR dX7_walls_76 fkX7_115 rfl rfl ?_
        refine gw_iload2 dX7_walls_79 ?_
        refine gw_iload3 dX7_walls_80 ?_
        by_cases h12 : ow_inn x2 7
        rotate_left
        · replace h := (if_neg h12).symm.trans h
          cases h
        replace h := (if_pos h12).symm.trans h
        refine gw_zast dX7_walls_81 rfl h12 ?_
        refine gw_iinc2 1 dX7_walls_82 (by decide) rfl (by decide) ?_
        refine gw_goto (tgt := 17) rfl dX7_walls_85 ?_
        refine gw_drp3 ?_
        exact ih _ _ _ h

def fX7_walls  (M : ow_M) : Option (Int32 × ow_M) := Option.bind (fX0_isThere M) (fun v2 => (if v2 = 0 then some ((-3), M) else lpX7_walls_17 (fun u13 u14 M15 => some (u13, M15)) ow_N 0 0 M))
set_option maxRecDepth 100000 in
set_option maxHeartbeats 4000000 in
theorem ctX7_walls (l : Launch)  {M : ow_M} {r : Int32} {M9 : ow_M}  (h : fX7_walls M = some (r, M9)) : ow_F l 5 yX7_walls cX7_walls 4 (some .int) [.ref 0] M (some (.int r)) M9 := by
  unfold fX7_walls at h
  refine ow_enterO (own := RX7) rfl (by decide +kernel) rfl (ls := [some (.ref 0), none, none, none]) rfl ?_
  refine gw_aload0 dX7_walls_0 ?_
  refine gw_getR dX7_walls_1 fkX7_20 rfl rfl ?_
  obtain ⟨v2, hc1, h⟩ := ow_b_some h
  refine gw_cVI0 dX7_walls_4 lkX7_136 mkX0_isThere (ow_rm_in rfl rfl) rfl rfl (ctX0_isThere l hc1) rfl ?_
  refine gw_if_ne (tgt := 13) dX7_walls_7 rfl (fun h3 => ?_) (fun h3 => ?_)
  · replace h := (if_neg h3).symm.trans h
    refine gw_ic0 dX7_walls_13 ?_
    refine gw_istore1 dX7_walls_14 (by decide) rfl ?_
    refine gw_ic0 dX7_walls_15 ?_
    refine gw_istore2 dX7_walls_16 (by decide) rfl ?_
    refine tlpX7_walls_17 l ?_ _ _ _ _ h
    intro u13 u14 M15 h
    refine gw_iload1 dX7_walls_88 ?_
    obtain ⟨hA, hB⟩ := Prod.mk.inj (Option.some.inj h)
    subst hA
    subst hB
    exact gw_iret dX7_walls_89 ⟨rfl, rfl⟩
  · replace h := (if_pos h3).symm.trans h
    refine gw_bipush (-3) dX7_walls_10 (by decide) ?_
    obtain ⟨hA, hB⟩ := Prod.mk.inj (Option.some.inj h)
    subst hA
    subst hB
    exact gw_iret dX7_walls_12 ⟨rfl, rfl⟩

def fX7_sheet (x1 : Int32) (x2 : Int32) (x3 : Int32) (M : ow_M) : Option (Int32 × ow_M) := Option.bind (fX7_isSheet x1) (fun v2 => (if v2 = 0 then some ((-1), (ow_up M 0 8 0)) else Option.bind (fX7_isLane x2) (fun v5 => (if v5 = 0 then some ((-2), (ow_up M 0 8 0)) else (if x3 ≤ 50 then (if 0 ≤ x3 then if ow_inn x1 4 then Option.bind (fX4_becomeNew (26 + 2 * x1.toNatClampNeg) x2 x3 (ow_up M 0 8 0)) (fun M12 => some (1, M12)) else none else ow_bd (fX7_failed 4 (ow_up M 0 8 0)) (fun v14 M15 => some (v14, M15))) else some ((-2), (ow_up M 0 8 0)))))))
set_option maxRecDepth 100000 in
set_option maxHeartbeats 4000000 in
theorem ctX7_sheet (l : Launch) {x1 : Int32} {x2 : Int32} {x3 : Int32} {M : ow_M} {r : Int32} {M9 : ow_M}  (h : fX7_sheet x1 x2 x3 M = some (r, M9)) : ow_F l 2 yX7_sheet cX7_sheet 4 (some .int) [.ref 0, .int x1, .int x2, .int x3] M (some (.int r)) M9 := by
  unfold fX7_sheet at h
  refine ow_enterO (own := RX7) rfl (by decide +kernel) rfl (ls := [some (.ref 0), some (.int x1), some (.int x2), some (.int x3)]) rfl ?_
  refine gw_aload0 dX7_sheet_0 ?_
  refine gw_ic0 dX7_sheet_1 ?_
  refine gw_putI dX7_sheet_2 fkX7_63 fp7_8 rfl rfl ?_
  refine gw_iload1 dX7_sheet_5 ?_
  obtain ⟨v2, hc1, h⟩ := ow_b_some h
  refine gw_cSI1 dX7_sheet_6 lkX7_67 mkX7_isSheet (ow_rm_in rfl rfl) (ctX7_isSheet l hc1) rfl ?_
  refine gw_if_ne (tgt := 14) dX7_sheet_9 rfl (fun h3 => ?_) (fun h3 => ?_)
  · replace h := (if_neg h3).symm.trans h
    refine gw_iload2 dX7_sheet_14 ?_
    obtain ⟨v5, hc4, h⟩ := ow_b_some h
    refine gw_cSI1 dX7_sheet_15 lkX7_71 mkX7_isLane (ow_rm_in rfl rfl) (ctX7_isLane l hc4) rfl ?_
    refine gw_if_eq (tgt := 27) dX7_sheet_18 rfl (fun h6 => ?_) (fun h6 => ?_)
    · replace h := (if_pos h6).symm.trans h
      refine gw_bipush (-2) dX7_sheet_27 (by decide) ?_
      obtain ⟨hA, hB⟩ := Prod.mk.inj (Option.some.inj h)
      subst hA
      subst hB
      exact gw_iret dX7_sheet_29 ⟨rfl, rfl⟩
    · replace h := (if_neg h6).symm.trans h
      refine gw_iload3 dX7_sheet_21 ?_
      refine gw_bipush 50 dX7_sheet_22 (by decide) ?_
      refine gw_icmp_le (tgt := 30) dX7_sheet_24 rfl (fun h7 => ?_) (fun h7 => ?_)
      · replace h := (if_pos h7).symm.trans h
        refine gw_iload3 dX7_sheet_30 ?_
        refine gw_if_ge (tgt := 40) dX7_sheet_31 rfl (fun h8 => ?_) (fun h8 => ?_)
        · replace h := (if_pos h8).symm.trans h
          refine gw_aload0 dX7_sheet_40 ?_
          refine gw_getR dX7_sheet_41 fkX7_13 rfl rfl ?_
          refine gw_iload1 dX7_sheet_44 ?_
          by_cases h9 : ow_inn x1 4
          rotate_left
          · replace h := (if_neg h9).symm.trans h
            cases h
          replace h := (if_pos h9).symm.trans h
          refine gw_aald dX7_sheet_45 h9 ?_
          refine gw_iload2 dX7_sheet_46 ?_
          refine gw_iload3 dX7_sheet_47 ?_
          obtain ⟨M12, hc10, h⟩ := ow_b_some h
          refine gw_cVV2 dX7_sheet_48 lkX7_200 mkX4_becomeNew (ow_rm_in rfl rfl) (ow_isS_of h9).1 rfl (ctX4_becomeNew l (ow_isS_of h9) hc10) rfl ?_
          refine gw_ic1 dX7_sheet_51 ?_
          obtain ⟨hA, hB⟩ := Prod.mk.inj (Option.some.inj h)
          subst hA
          subst hB
          exact gw_iret dX7_sheet_52 ⟨rfl, rfl⟩
        · replace h := (if_neg h8).symm.trans h
          refine gw_aload0 dX7_sheet_34 ?_
          refine gw_ic4 dX7_sheet_35 ?_
          obtain ⟨v14, M15, hc13, h⟩ := ow_bd_some h
          refine gw_cVI1 dX7_sheet_36 lkX7_78 mkX7_failed (ow_rm_in rfl rfl) rfl rfl (ctX7_failed l hc13) rfl ?_
          obtain ⟨hA, hB⟩ := Prod.mk.inj (Option.some.inj h)
          subst hA
          subst hB
          exact gw_iret dX7_sheet_39 ⟨rfl, rfl⟩
      · replace h := (if_neg h7).symm.trans h
        refine gw_bipush (-2) dX7_sheet_27 (by decide) ?_
        obtain ⟨hA, hB⟩ := Prod.mk.inj (Option.some.inj h)
        subst hA
        subst hB
        exact gw_iret dX7_sheet_29 ⟨rfl, rfl⟩
  · replace h := (if_pos h3).symm.trans h
    refine gw_icm1 dX7_sheet_12 ?_
    obtain ⟨hA, hB⟩ := Prod.mk.inj (Option.some.inj h)
    subst hA
    subst hB
    exact gw_iret dX7_sheet_13 ⟨rfl, rfl⟩

def fX7_lose (x1 : Int32) (M : ow_M) : Option (Int32 × ow_M) := Option.bind (fX7_isSheet x1) (fun v2 => (if v2 = 0 then some ((-1), M) else if ow_inn x1 4 then (if (M.1 (26 + 2 * x1.toNatClampNeg) 0) = 0 then some (0, M) else if ow_inn x1 4 then some (1, (ow_up M (26 + 2 * x1.toNatClampNeg) 0 0)) else none) else none))
set_option maxRecDepth 100000 in
set_option maxHeartbeats 4000000 in
theorem ctX7_lose (l : Launch) {x1 : Int32} {M : ow_M} {r : Int32} {M9 : ow_M}  (h : fX7_lose x1 M = some (r, M9)) : ow_F l 1 yX7_lose cX7_lose 2 (some .int) [.ref 0, .int x1] M (some (.int r)) M9 := by
  unfold fX7_lose at h
  refine ow_enterO (own := RX7) rfl (by decide +kernel) rfl (ls := [some (.ref 0), some (.int x1)]) rfl ?_
  refine gw_iload1 dX7_lose_0 ?_
  obtain ⟨v2, hc1, h⟩ := ow_b_some h
  refine gw_cSI1 dX7_lose_1 lkX7_67 mkX7_isSheet (ow_rm_in rfl rfl) (ctX7_isSheet l hc1) rfl ?_
  refine gw_if_ne (tgt := 9) dX7_lose_4 rfl (fun h3 => ?_) (fun h3 => ?_)
  · replace h := (if_neg h3).symm.trans h
    refine gw_aload0 dX7_lose_9 ?_
    refine gw_getR dX7_lose_10 fkX7_13 rfl rfl ?_
    refine gw_iload1 dX7_lose_13 ?_
    by_cases h4 : ow_inn x1 4
    rotate_left
    · replace h := (if_neg h4).symm.trans h
      cases h
    replace h := (if_pos h4).symm.trans h
    refine gw_aald dX7_lose_14 h4 ?_
    refine gw_getI dX7_lose_15 fkX7_204 (ow_isS_of h4).1 rfl ?_
    refine gw_if_ne (tgt := 23) dX7_lose_18 rfl (fun h5 => ?_) (fun h5 => ?_)
    · replace h := (if_neg h5).symm.trans h
      refine gw_aload0 dX7_lose_23 ?_
      refine gw_getR dX7_lose_24 fkX7_13 rfl rfl ?_
      refine gw_iload1 dX7_lose_27 ?_
      by_cases h6 : ow_inn x1 4
      rotate_left
      · replace h := (if_neg h6).symm.trans h
        cases h
      replace h := (if_pos h6).symm.trans h
      refine gw_aald dX7_lose_28 h6 ?_
      refine gw_ic0 dX7_lose_29 ?_
      refine gw_putZ dX7_lose_30 fkX7_204 fp4_0 (ow_isS_of h6).1 rfl (Or.inl rfl) ?_
      refine gw_ic1 dX7_lose_33 ?_
      obtain ⟨hA, hB⟩ := Prod.mk.inj (Option.some.inj h)
      subst hA
      subst hB
      exact gw_iret dX7_lose_34 ⟨rfl, rfl⟩
    · replace h := (if_pos h5).symm.trans h
      refine gw_ic0 dX7_lose_21 ?_
      obtain ⟨hA, hB⟩ := Prod.mk.inj (Option.some.inj h)
      subst hA
      subst hB
      exact gw_iret dX7_lose_22 ⟨rfl, rfl⟩
  · replace h := (if_pos h3).symm.trans h
    refine gw_icm1 dX7_lose_7 ?_
    obtain ⟨hA, hB⟩ := Prod.mk.inj (Option.some.inj h)
    subst hA
    subst hB
    exact gw_iret dX7_lose_8 ⟨rfl, rfl⟩

def fX7_put (x1 : Int32) (x2 : Int32) (x3 : Int32) (M : ow_M) : Option (Int32 × ow_M) := Option.bind (fX7_isSheet x1) (fun v2 => (if v2 = 0 then some ((-1), (ow_up M 0 8 0)) else if ow_inn x1 4 then (if ((ow_up M 0 8 0).1 (26 + 2 * x1.toNatClampNeg) 0) = 0 then ow_bd (fX7_failed 1 (ow_up M 0 8 0)) (fun v18 M19 => some (v18, M19)) else if ow_inn x1 4 then Option.bind (fX4_hasCells (26 + 2 * x1.toNatClampNeg) x2 1 (ow_up M 0 8 0)) (fun v8 => (if v8 = 0 then ow_bd (fX7_failed 3 (ow_up M 0 8 0)) (fun v15 M16 => some (v15, M16)) else if ow_inn x1 4 then Option.bind (fX4_store (26 + 2 * x1.toNatClampNeg) x2 x3 (ow_up M 0 8 0)) (fun M13 => some (1, M13)) else none)) else none) else none))
set_option maxRecDepth 100000 in
set_option maxHeartbeats 4000000 in
theorem ctX7_put (l : Launch) {x1 : Int32} {x2 : Int32} {x3 : Int32} {M : ow_M} {r : Int32} {M9 : ow_M}  (h : fX7_put x1 x2 x3 M = some (r, M9)) : ow_F l 1 yX7_put cX7_put 4 (some .int) [.ref 0, .int x1, .int x2, .int x3] M (some (.int r)) M9 := by
  unfold fX7_put at h
  refine ow_enterO (own := RX7) rfl (by decide +kernel) rfl (ls := [some (.ref 0), some (.int x1), some (.int x2), some (.int x3)]) rfl ?_
  refine gw_aload0 dX7_put_0 ?_
  refine gw_ic0 dX7_put_1 ?_
  refine gw_putI dX7_put_2 fkX7_63 fp7_8 rfl rfl ?_
  refine gw_iload1 dX7_put_5 ?_
  obtain ⟨v2, hc1, h⟩ := ow_b_some h
  refine gw_cSI1 dX7_put_6 lkX7_67 mkX7_isSheet (ow_rm_in rfl rfl) (ctX7_isSheet l hc1) rfl ?_
  refine gw_if_ne (tgt := 14) dX7_put_9 rfl (fun h3 => ?_) (fun h3 => ?_)
  · replace h := (if_neg h3).symm.trans h
    refine gw_aload0 dX7_put_14 ?_
    refine gw_getR dX7_put_15 fkX7_13 rfl rfl ?_
    refine gw_iload1 dX7_put_18 ?_
    by_cases h4 : ow_inn x1 4
    rotate_left
    · replace h := (if_neg h4).symm.trans h
      cases h
    replace h := (if_pos h4).symm.trans h
    refine gw_aald dX7_put_19 h4 ?_
    refine gw_getI dX7_put_20 fkX7_204 (ow_isS_of h4).1 rfl ?_
    refine gw_if_ne (tgt := 32) dX7_put_23 rfl (fun h5 => ?_) (fun h5 => ?_)
    · replace h := (if_neg h5).symm.trans h
      refine gw_aload0 dX7_put_32 ?_
      refine gw_getR dX7_put_33 fkX7_13 rfl rfl ?_
      refine gw_iload1 dX7_put_36 ?_
      by_cases h6 : ow_inn x1 4
      rotate_left
      · replace h := (if_neg h6).symm.trans h
        cases h
      replace h := (if_pos h6).symm.trans h
      refine gw_aald dX7_put_37 h6 ?_
      refine gw_iload2 dX7_put_38 ?_
      refine gw_ic1 dX7_put_39 ?_
      obtain ⟨v8, hc7, h⟩ := ow_b_some h
      refine gw_cVI2 dX7_put_40 lkX7_207 mkX4_hasCells (ow_rm_in rfl rfl) (ow_isS_of h6).1 rfl (ctX4_hasCells l (ow_isS_of h6) hc7) rfl ?_
      refine gw_if_ne (tgt := 52) dX7_put_43 rfl (fun h9 => ?_) (fun h9 => ?_)
      · replace h := (if_neg h9).symm.trans h
        refine gw_aload0 dX7_put_52 ?_
        refine gw_getR dX7_put_53 fkX7_13 rfl rfl ?_
        refine gw_iload1 dX7_put_56 ?_
        by_cases h10 : ow_inn x1 4
        rotate_left
        · replace h := (if_neg h10).symm.trans h
          cases h
        replace h := (if_pos h10).symm.trans h
        refine gw_aald dX7_put_57 h10 ?_
        refine gw_iload2 dX7_put_58 ?_
        refine gw_iload3 dX7_put_59 ?_
        obtain ⟨M13, hc11, h⟩ := ow_b_some h
        refine gw_cVV2 dX7_put_60 lkX7_211 mkX4_store (ow_rm_in rfl rfl) (ow_isS_of h10).1 rfl (ctX4_store l (ow_isS_of h10) hc11) rfl ?_
        refine gw_ic1 dX7_put_63 ?_
        obtain ⟨hA, hB⟩ := Prod.mk.inj (Option.some.inj h)
        subst hA
        subst hB
        exact gw_iret dX7_put_64 ⟨rfl, rfl⟩
      · replace h := (if_pos h9).symm.trans h
        refine gw_aload0 dX7_put_46 ?_
        refine gw_ic3 dX7_put_47 ?_
        obtain ⟨v15, M16, hc14, h⟩ := ow_bd_some h
        refine gw_cVI1 dX7_put_48 lkX7_78 mkX7_failed (ow_rm_in rfl rfl) rfl rfl (ctX7_failed l hc14) rfl ?_
        obtain ⟨hA, hB⟩ := Prod.mk.inj (Option.some.inj h)
        subst hA
        subst hB
        exact gw_iret dX7_put_51 ⟨rfl, rfl⟩
    · replace h := (if_pos h5).symm.trans h
      refine gw_aload0 dX7_put_26 ?_
      refine gw_ic1 dX7_put_27 ?_
      obtain ⟨v18, M19, hc17, h⟩ := ow_bd_some h
      refine gw_cVI1 dX7_put_28 lkX7_78 mkX7_failed (ow_rm_in rfl rfl) rfl rfl (ctX7_failed l hc17) rfl ?_
      obtain ⟨hA, hB⟩ := Prod.mk.inj (Option.some.inj h)
      subst hA
      subst hB
      exact gw_iret dX7_put_31 ⟨rfl, rfl⟩
  · replace h := (if_pos h3).symm.trans h
    refine gw_icm1 dX7_put_12 ?_
    obtain ⟨hA, hB⟩ := Prod.mk.inj (Option.some.inj h)
    subst hA
    subst hB
    exact gw_iret dX7_put_13 ⟨rfl, rfl⟩

def fX7_cell (x1 : Int32) (x2 : Int32) (x3 : Int32) (M : ow_M) : Option (Int64 × ow_M) := Option.bind (fX7_isSheet x1) (fun v2 => (if v2 = 0 then some ((-9223372036854775808), (ow_up M 0 8 0)) else Option.bind (fX7_isLane x3) (fun v5 => (if v5 = 0 then some ((-9223372036854775808), (ow_up M 0 8 0)) else if ow_inn x1 4 then Option.bind (fX4_faultOfCells (26 + 2 * x1.toNatClampNeg) x3 x2 1 (ow_up M 0 8 0)) (fun v9 => (if v9 = 0 then if ow_inn x1 4 then if ow_inn x2 50 then some ((((ow_up M 0 8 0).1 ((26 + 2 * x1.toNatClampNeg) + 1) x2.toNatClampNeg)).toInt64, (ow_up M 0 8 0)) else none else none else some ((-9223372036854775808), (ow_up (ow_up M 0 8 0) 0 8 v9)))) else none))))
set_option maxRecDepth 100000 in
set_option maxHeartbeats 4000000 in
theorem ctX7_cell (l : Launch) {x1 : Int32} {x2 : Int32} {x3 : Int32} {M : ow_M} {r : Int64} {M9 : ow_M}  (h : fX7_cell x1 x2 x3 M = some (r, M9)) : ow_F l 2 yX7_cell cX7_cell 5 (some .long) [.ref 0, .int x1, .int x2, .int x3] M (some (.long r)) M9 := by
  unfold fX7_cell at h
  refine ow_enterO (own := RX7) rfl (by decide +kernel) rfl (ls := [some (.ref 0), some (.int x1), some (.int x2), some (.int x3), none]) rfl ?_
  refine gw_aload0 dX7_cell_0 ?_
  refine gw_ic0 dX7_cell_1 ?_
  refine gw_putI dX7_cell_2 fkX7_63 fp7_8 rfl rfl ?_
  refine gw_iload1 dX7_cell_5 ?_
  obtain ⟨v2, hc1, h⟩ := ow_b_some h
  refine gw_cSI1 dX7_cell_6 lkX7_67 mkX7_isSheet (ow_rm_in rfl rfl) (ctX7_isSheet l hc1) rfl ?_
  refine gw_if_eq (tgt := 19) dX7_cell_9 rfl (fun h3 => ?_) (fun h3 => ?_)
  · replace h := (if_pos h3).symm.trans h
    refine gw_ldc2 klX7_175 dX7_cell_19 ?_
    obtain ⟨hA, hB⟩ := Prod.mk.inj (Option.some.inj h)
    subst hA
    subst hB
    exact gw_lret dX7_cell_22 ⟨rfl, rfl⟩
  · replace h := (if_neg h3).symm.trans h
    refine gw_iload3 dX7_cell_12 ?_
    obtain ⟨v5, hc4, h⟩ := ow_b_some h
    refine gw_cSI1 dX7_cell_13 lkX7_71 mkX7_isLane (ow_rm_in rfl rfl) (ctX7_isLane l hc4) rfl ?_
    refine gw_if_ne (tgt := 23) dX7_cell_16 rfl (fun h6 => ?_) (fun h6 => ?_)
    · replace h := (if_neg h6).symm.trans h
      refine gw_aload0 dX7_cell_23 ?_
      refine gw_getR dX7_cell_24 fkX7_13 rfl rfl ?_
      refine gw_iload1 dX7_cell_27 ?_
      by_cases h7 : ow_inn x1 4
      rotate_left
      · replace h := (if_neg h7).symm.trans h
        cases h
      replace h := (if_pos h7).symm.trans h
      refine gw_aald dX7_cell_28 h7 ?_
      refine gw_iload3 dX7_cell_29 ?_
      refine gw_iload2 dX7_cell_30 ?_
      refine gw_ic1 dX7_cell_31 ?_
      obtain ⟨v9, hc8, h⟩ := ow_b_some h
      refine gw_cVI3 dX7_cell_32 lkX7_74 mkX4_faultOfCells (ow_rm_in rfl rfl) (ow_isS_of h7).1 rfl (ctX4_faultOfCells l (ow_isS_of h7) hc8) rfl ?_
      refine gw_istore4 dX7_cell_35 (by decide) rfl ?_
      refine gw_iload4 dX7_cell_37 ?_
      refine gw_if_eq (tgt := 52) dX7_cell_39 rfl (fun h10 => ?_) (fun h10 => ?_)
      · replace h := (if_pos h10).symm.trans h
        refine gw_aload0 dX7_cell_52 ?_
        refine gw_getR dX7_cell_53 fkX7_13 rfl rfl ?_
        refine gw_iload1 dX7_cell_56 ?_
        by_cases h11 : ow_inn x1 4
        rotate_left
        · replace h := (if_neg h11).symm.trans h
          cases h
        replace h := (if_pos h11).symm.trans h
        refine gw_aald dX7_cell_57 h11 ?_
        refine gw_getR dX7_cell_58 fkX7_214 (ow_isS_of h11).1 rfl ?_
        refine gw_iload2 dX7_cell_61 ?_
        by_cases h12 : ow_inn x2 50
        rotate_left
        · replace h := (if_neg h12).symm.trans h
          cases h
        replace h := (if_pos h12).symm.trans h
        refine gw_iald dX7_cell_62 (ow_isS_of h11).2 h12 ?_
        refine gw_i2l dX7_cell_63 ?_
        obtain ⟨hA, hB⟩ := Prod.mk.inj (Option.some.inj h)
        subst hA
        subst hB
        exact gw_lret dX7_cell_64 ⟨rfl, rfl⟩
      · replace h := (if_neg h10).symm.trans h
        refine gw_aload0 dX7_cell_42 ?_
        refine gw_iload4 dX7_cell_43 ?_
        refine gw_putI dX7_cell_45 fkX7_63 fp7_8 rfl rfl ?_
        refine gw_ldc2 klX7_175 dX7_cell_48 ?_
        obtain ⟨hA, hB⟩ := Prod.mk.inj (Option.some.inj h)
        subst hA
        subst hB
        exact gw_lret dX7_cell_51 ⟨rfl, rfl⟩
    · replace h := (if_pos h6).symm.trans h
      refine gw_ldc2 klX7_175 dX7_cell_19 ?_
      obtain ⟨hA, hB⟩ := Prod.mk.inj (Option.some.inj h)
      subst hA
      subst hB
      exact gw_lret dX7_cell_22 ⟨rfl, rfl⟩

def fX7_copy (x1 : Int32) (x2 : Int32) (x3 : Int32) (x4 : Int32) (x5 : Int32) (M : ow_M) : Option (Int32 × ow_M) := Option.bind (fX7_isSheet x1) (fun v2 => (if v2 = 0 then some ((-1), (ow_up M 0 8 0)) else Option.bind (fX7_isSheet x3) (fun v5 => (if v5 = 0 then some ((-1), (ow_up M 0 8 0)) else if ow_inn x1 4 then if ow_inn x3 4 then (if ((ow_up M 0 8 0).1 (26 + 2 * x1.toNatClampNeg) 0) = 0 then ow_bd (fX7_failed 1 (ow_up M 0 8 0)) (fun v11 M12 => some (v11, M12)) else (if ((ow_up M 0 8 0).1 (26 + 2 * x3.toNatClampNeg) 0) = 0 then ow_bd (fX7_failed 1 (ow_up M 0 8 0)) (fun v32 M33 => some (v32, M33)) else (if ((ow_up M 0 8 0).1 (26 + 2 * x1.toNatClampNeg) 1) = ((ow_up M 0 8 0).1 (26 + 2 * x3.toNatClampNeg) 1) then Option.bind (fX4_hasCells (26 + 2 * x1.toNatClampNeg) x2 x5 (ow_up M 0 8 0)) (fun v16 => (if v16 = 0 then ow_bd (fX7_failed 3 (ow_up M 0 8 0)) (fun v19 M20 => some (v19, M20)) else Option.bind (fX4_hasCells (26 + 2 * x3.toNatClampNeg) x4 x5 (ow_up M 0 8 0)) (fun v22 => (if v22 = 0 then ow_bd (fX7_failed 3 (ow_up M 0 8 0)) (fun v26 M27 => some (v26, M27)) else if ¬ x2 < 0 ∧ ¬ x4 < 0 ∧ ¬ x5 < 0 ∧ x2.toNatClampNeg + x5.toNatClampNeg ≤ 50 ∧ x4.toNatClampNeg + x5.toNatClampNeg ≤ 50 then some (x5, (ow_cp (ow_up M 0 8 0) ((26 + 2 * x1.toNatClampNeg) + 1) x2 ((26 + 2 * x3.toNatClampNeg) + 1) x4 x5)) else none)))) else ow_bd (fX7_failed 2 (ow_up M 0 8 0)) (fun v29 M30 => some (v29, M30))))) else none else none))))
set_option maxRecDepth 100000 in
set_option maxHeartbeats 4000000 in
theorem ctX7_copy (l : Launch) {x1 : Int32} {x2 : Int32} {x3 : Int32} {x4 : Int32} {x5 : Int32} {M : ow_M} {r : Int32} {M9 : ow_M}  (h : fX7_copy x1 x2 x3 x4 x5 M = some (r, M9)) : ow_F l 1 yX7_copy cX7_copy 8 (some .int) [.ref 0, .int x1, .int x2, .int x3, .int x4, .int x5] M (some (.int r)) M9 := by
  unfold fX7_copy at h
  refine ow_enterO (own := RX7) rfl (by decide +kernel) rfl (ls := [some (.ref 0), some (.int x1), some (.int x2), some (.int x3), some (.int x4), some (.int x5), none, none]) rfl ?_
  refine gw_aload0 dX7_copy_0 ?_
  refine gw_ic0 dX7_copy_1 ?_
  refine gw_putI dX7_copy_2 fkX7_63 fp7_8 rfl rfl ?_
  refine gw_iload1 dX7_copy_5 ?_
  obtain ⟨v2, hc1, h⟩ := ow_b_some h
  refine gw_cSI1 dX7_copy_6 lkX7_67 mkX7_isSheet (ow_rm_in rfl rfl) (ctX7_isSheet l hc1) rfl ?_
  refine gw_if_eq (tgt := 19) dX7_copy_9 rfl (fun h3 => ?_) (fun h3 => ?_)
  · replace h := (if_pos h3).symm.trans h
    refine gw_icm1 dX7_copy_19 ?_
    obtain ⟨hA, hB⟩ := Prod.mk.inj (Option.some.inj h)
    subst hA
    subst hB
    exact gw_iret dX7_copy_20 ⟨rfl, rfl⟩
  · replace h := (if_neg h3).symm.trans h
    refine gw_iload3 dX7_copy_12 ?_
    obtain ⟨v5, hc4, h⟩ := ow_b_some h
    refine gw_cSI1 dX7_copy_13 lkX7_67 mkX7_isSheet (ow_rm_in rfl rfl) (ctX7_isSheet l hc4) rfl ?_
    refine gw_if_ne (tgt := 21) dX7_copy_16 rfl (fun h6 => ?_) (fun h6 => ?_)
    · replace h := (if_neg h6).symm.trans h
      refine gw_aload0 dX7_copy_21 ?_
      refine gw_getR dX7_copy_22 fkX7_13 rfl rfl ?_
      refine gw_iload1 dX7_copy_25 ?_
      by_cases h7 : ow_inn x1 4
      rotate_left
      · replace h := (if_neg h7).symm.trans h
        cases h
      replace h := (if_pos h7).symm.trans h
      refine gw_aald dX7_copy_26 h7 ?_
      refine gw_astore6 dX7_copy_27 (by decide) rfl ?_
      refine gw_aload0 dX7_copy_29 ?_
      refine gw_getR dX7_copy_30 fkX7_13 rfl rfl ?_
      refine gw_iload3 dX7_copy_33 ?_
      by_cases h8 : ow_inn x3 4
      rotate_left
      · replace h := (if_neg h8).symm.trans h
        cases h
      replace h := (if_pos h8).symm.trans h
      refine gw_aald dX7_copy_34 h8 ?_
      refine gw_astore7 dX7_copy_35 (by decide) rfl ?_
      refine gw_aload6 dX7_copy_37 ?_
      refine gw_getI dX7_copy_39 fkX7_204 (ow_isS_of h7).1 rfl ?_
      refine gw_if_eq (tgt := 53) dX7_copy_42 rfl (fun h9 => ?_) (fun h9 => ?_)
      · replace h := (if_pos h9).symm.trans h
        refine gw_aload0 dX7_copy_53 ?_
        refine gw_ic1 dX7_copy_54 ?_
        obtain ⟨v11, M12, hc10, h⟩ := ow_bd_some h
        refine gw_cVI1 dX7_copy_55 lkX7_78 mkX7_failed (ow_rm_in rfl rfl) rfl rfl (ctX7_failed l hc10) rfl ?_
        obtain ⟨hA, hB⟩ := Prod.mk.inj (Option.some.inj h)
        subst hA
        subst hB
        exact gw_iret dX7_copy_58 ⟨rfl, rfl⟩
      · replace h := (if_neg h9).symm.trans h
        refine gw_aload7 dX7_copy_45 ?_
        refine gw_getI dX7_copy_47 fkX7_204 (ow_isS_of h8).1 rfl ?_
        refine gw_if_ne (tgt := 59) dX7_copy_50 rfl (fun h13 => ?_) (fun h13 => ?_)
        · replace h := (if_neg h13).symm.trans h
          refine gw_aload6 dX7_copy_59 ?_
          refine gw_getI dX7_copy_61 fkX7_217 (ow_isS_of h7).1 rfl ?_
          refine gw_aload7 dX7_copy_64 ?_
          refine gw_getI dX7_copy_66 fkX7_217 (ow_isS_of h8).1 rfl ?_
          refine gw_icmp_eq (tgt := 78) dX7_copy_69 rfl (fun h14 => ?_) (fun h14 => ?_)
          · replace h := (if_pos h14).symm.trans h
            refine gw_aload6 dX7_copy_78 ?_
            refine gw_iload2 dX7_copy_80 ?_
            refine gw_iload5 dX7_copy_81 ?_
            obtain ⟨v16, hc15, h⟩ := ow_b_some h
            refine gw_cVI2 dX7_copy_83 lkX7_207 mkX4_hasCells (ow_rm_in rfl rfl) (ow_isS_of h7).1 rfl (ctX4_hasCells l (ow_isS_of h7) hc15) rfl ?_
            refine gw_if_eq (tgt := 101) dX7_copy_86 rfl (fun h17 => ?_) (fun h17 => ?_)
            · replace h := (if_pos h17).symm.trans h
              refine gw_aload0 dX7_copy_101 ?_
              refine gw_ic3 dX7_copy_102 ?_
              obtain ⟨v19, M20, hc18, h⟩ := ow_bd_some h
              refine gw_cVI1 dX7_copy_103 lkX7_78 mkX7_failed (ow_rm_in rfl rfl) rfl rfl (ctX7_failed l hc18) rfl ?_
              obtain ⟨hA, hB⟩ := Prod.mk.inj (Option.some.inj h)
              subst hA
              subst hB
              exact gw_iret dX7_copy_106 ⟨rfl, rfl⟩
            · replace h := (if_neg h17).symm.trans h
              refine gw_aload7 dX7_copy_89 ?_
              refine gw_iload4 dX7_copy_91 ?_
              refine gw_iload5 dX7_copy_93 ?_
              obtain ⟨v22, hc21, h⟩ := ow_b_some h
              refine gw_cVI2 dX7_copy_95 lkX7_207 mkX4_hasCells (ow_rm_in rfl rfl) (ow_isS_of h8).1 rfl (ctX4_hasCells l (ow_isS_of h8) hc21) rfl ?_
              refine gw_if_ne (tgt := 107) dX7_copy_98 rfl (fun h23 => ?_) (fun h23 => ?_)
              · replace h := (if_neg h23).symm.trans h
                refine gw_aload6 dX7_copy_107 ?_
                refine gw_getR dX7_copy_109 fkX7_214 (ow_isS_of h7).1 rfl ?_
                refine gw_iload2 dX7_copy_112 ?_
                refine gw_aload7 dX7_copy_113 ?_
                refine gw_getR dX7_copy_115 fkX7_214 (ow_isS_of h8).1 rfl ?_
                refine gw_iload4 dX7_copy_118 ?_
                refine gw_iload5 dX7_copy_120 ?_
                by_cases h24 : ¬ x2 < 0 ∧ ¬ x4 < 0 ∧ ¬ x5 < 0 ∧ x2.toNatClampNeg + x5.toNatClampNeg ≤ 50 ∧ x4.toNatClampNeg + x5.toNatClampNeg ≤ 50
                rotate_left
                · replace h := (if_neg h24).symm.trans h
                  cases h
                replace h := (if_pos h24).symm.trans h
                refine gw_acopy (l0 := l) dX7_copy_122 lkX7_220 mk_acopy (ow_rm_in rfl rfl) (Nat.le_of_ble_eq_true rfl) (ow_isS_of h7).2 (ow_isS_of h8).2 h24 ?_
                refine gw_iload5 dX7_copy_125 ?_
                obtain ⟨hA, hB⟩ := Prod.mk.inj (Option.some.inj h)
                subst hA
                subst hB
                exact gw_iret dX7_copy_127 ⟨rfl, rfl⟩
              · replace h := (if_pos h23).symm.trans h
                refine gw_aload0 dX7_copy_101 ?_
                refine gw_ic3 dX7_copy_102 ?_
                obtain ⟨v26, M27, hc25, h⟩ := ow_bd_some h
                refine gw_cVI1 dX7_copy_103 lkX7_78 mkX7_failed (ow_rm_in rfl rfl) rfl rfl (ctX7_failed l hc25) rfl ?_
                obtain ⟨hA, hB⟩ := Prod.mk.inj (Option.some.inj h)
                subst hA
                subst hB
                exact gw_iret dX7_copy_106 ⟨rfl, rfl⟩
          · replace h := (if_neg h14).symm.trans h
            refine gw_aload0 dX7_copy_72 ?_
            refine gw_ic2 dX7_copy_73 ?_
            obtain ⟨v29, M30, hc28, h⟩ := ow_bd_some h
            refine gw_cVI1 dX7_copy_74 lkX7_78 mkX7_failed (ow_rm_in rfl rfl) rfl rfl (ctX7_failed l hc28) rfl ?_
            obtain ⟨hA, hB⟩ := Prod.mk.inj (Option.some.inj h)
            subst hA
            subst hB
            exact gw_iret dX7_copy_77 ⟨rfl, rfl⟩
        · replace h := (if_pos h13).symm.trans h
          refine gw_aload0 dX7_copy_53 ?_
          refine gw_ic1 dX7_copy_54 ?_
          obtain ⟨v32, M33, hc31, h⟩ := ow_bd_some h
          refine gw_cVI1 dX7_copy_55 lkX7_78 mkX7_failed (ow_rm_in rfl rfl) rfl rfl (ctX7_failed l hc31) rfl ?_
          obtain ⟨hA, hB⟩ := Prod.mk.inj (Option.some.inj h)
          subst hA
          subst hB
          exact gw_iret dX7_copy_58 ⟨rfl, rfl⟩
    · replace h := (if_pos h6).symm.trans h
      refine gw_icm1 dX7_copy_19 ?_
      obtain ⟨hA, hB⟩ := Prod.mk.inj (Option.some.inj h)
      subst hA
      subst hB
      exact gw_iret dX7_copy_20 ⟨rfl, rfl⟩

def fX7_leaveTrace (x1 : Int32) (M : ow_M) : Option ow_M := some (ow_up M 0 7 ((31 * (M.1 0 7)) + x1))
set_option maxRecDepth 100000 in
set_option maxHeartbeats 4000000 in
theorem ctX7_leaveTrace (l : Launch) {x1 : Int32} {M : ow_M} {M9 : ow_M}  (h : fX7_leaveTrace x1 M = some M9) : ow_F l 0 yX7_leaveTrace cX7_leaveTrace 2 none [.ref 0, .int x1] M none M9 := by
  unfold fX7_leaveTrace at h
  refine ow_enterO (own := RX7) rfl (by decide +kernel) rfl (ls := [some (.ref 0), some (.int x1)]) rfl ?_
  refine gw_aload0 dX7_leaveTrace_0 ?_
  refine gw_bipush 31 dX7_leaveTrace_1 (by decide) ?_
  refine gw_aload0 dX7_leaveTrace_3 ?_
  refine gw_getI dX7_leaveTrace_4 fkX7_59 rfl rfl ?_
  refine gw_imul dX7_leaveTrace_7 ?_
  refine gw_iload1 dX7_leaveTrace_8 ?_
  refine gw_iadd dX7_leaveTrace_9 ?_
  refine gw_putI dX7_leaveTrace_10 fkX7_59 fp7_7 rfl rfl ?_
  have hA := Option.some.inj h
  subst hA
  exact gw_vret dX7_leaveTrace_13 ⟨rfl, rfl⟩

def fX7_tellPerson (x1 : Int32) (M : ow_M) : Option (Int32 × ow_M) := Option.bind (fX7_leaveTrace 1 M) (fun M3 => Option.bind (fX0_isPerson x1 M3) (fun v5 => (if v5 = 0 then some (0, M3) else if ow_inn x1 7 then some ((M3.1 4 x1.toNatClampNeg), M3) else none)))
set_option maxRecDepth 100000 in
set_option maxHeartbeats 4000000 in
theorem ctX7_tellPerson (l : Launch) {x1 : Int32} {M : ow_M} {r : Int32} {M9 : ow_M}  (h : fX7_tellPerson x1 M = some (r, M9)) : ow_F l 1 yX7_tellPerson cX7_tellPerson 2 (some .int) [.ref 0, .int x1] M (some (.int r)) M9 := by
  unfold fX7_tellPerson at h
  refine ow_enterO (own := RX7) rfl (by decide +kernel) rfl (ls := [some (.ref 0), some (.int x1)]) rfl ?_
  refine gw_aload0 dX7_tellPerson_0 ?_
  refine gw_ic1 dX7_tellPerson_1 ?_
  obtain ⟨M3, hc1, h⟩ := ow_b_some h
  refine gw_cVV1 dX7_tellPerson_2 lkX7_235 mkX7_leaveTrace (ow_rm_in rfl rfl) rfl rfl (ctX7_leaveTrace l hc1) rfl ?_
  refine gw_aload0 dX7_tellPerson_5 ?_
  refine gw_getR dX7_tellPerson_6 fkX7_20 rfl rfl ?_
  refine gw_iload1 dX7_tellPerson_9 ?_
  obtain ⟨v5, hc4, h⟩ := ow_b_some h
  refine gw_cVI1 dX7_tellPerson_10 lkX7_96 mkX0_isPerson (ow_rm_in rfl rfl) rfl rfl (ctX0_isPerson l hc4) rfl ?_
  refine gw_if_eq (tgt := 28) dX7_tellPerson_13 rfl (fun h6 => ?_) (fun h6 => ?_)
  · replace h := (if_pos h6).symm.trans h
    refine gw_ic0 dX7_tellPerson_28 ?_
    obtain ⟨hA, hB⟩ := Prod.mk.inj (Option.some.inj h)
    subst hA
    subst hB
    exact gw_iret dX7_tellPerson_29 ⟨rfl, rfl⟩
  · replace h := (if_neg h6).symm.trans h
    refine gw_aload0 dX7_tellPerson_16 ?_
    refine gw_getR dX7_tellPerson_17 fkX7_20 rfl rfl ?_
    refine gw_getR dX7_tellPerson_20 fkX7_103 rfl rfl ?_
    refine gw_iload1 dX7_tellPerson_23 ?_
    by_cases h7 : ow_inn x1 7
    rotate_left
    · replace h := (if_neg h7).symm.trans h
      cases h
    replace h := (if_pos h7).symm.trans h
    refine gw_iald dX7_tellPerson_24 rfl h7 ?_
    refine gw_goto (tgt := 29) rfl dX7_tellPerson_25 ?_
    obtain ⟨hA, hB⟩ := Prod.mk.inj (Option.some.inj h)
    subst hA
    subst hB
    exact gw_iret dX7_tellPerson_29 ⟨rfl, rfl⟩

def fX7_tellGrudger (x1 : Int32) (M : ow_M) : Option (Int32 × ow_M) := Option.bind (fX7_leaveTrace 2 M) (fun M3 => ow_bd (fX7_tellPerson x1 M3) (fun v5 M6 => some ((v5 + 100), M6)))
set_option maxRecDepth 100000 in
set_option maxHeartbeats 4000000 in
theorem ctX7_tellGrudger (l : Launch) {x1 : Int32} {M : ow_M} {r : Int32} {M9 : ow_M}  (h : fX7_tellGrudger x1 M = some (r, M9)) : ow_F l 2 yX7_tellGrudger cX7_tellGrudger 2 (some .int) [.ref 0, .int x1] M (some (.int r)) M9 := by
  unfold fX7_tellGrudger at h
  refine ow_enterO (own := RX7) rfl (by decide +kernel) rfl (ls := [some (.ref 0), some (.int x1)]) rfl ?_
  refine gw_aload0 dX7_tellGrudger_0 ?_
  refine gw_ic2 dX7_tellGrudger_1 ?_
  obtain ⟨M3, hc1, h⟩ := ow_b_some h
  refine gw_cVV1 dX7_tellGrudger_2 lkX7_235 mkX7_leaveTrace (ow_rm_in rfl rfl) rfl rfl (ctX7_leaveTrace l hc1) rfl ?_
  refine gw_aload0 dX7_tellGrudger_5 ?_
  refine gw_iload1 dX7_tellGrudger_6 ?_
  obtain ⟨v5, M6, hc4, h⟩ := ow_bd_some h
  refine gw_cVI1 dX7_tellGrudger_7 lkX7_232 mkX7_tellPerson (ow_rm_in rfl rfl) rfl rfl (ctX7_tellPerson l hc4) rfl ?_
  refine gw_bipush 100 dX7_tellGrudger_10 (by decide) ?_
  refine gw_iadd dX7_tellGrudger_12 ?_
  obtain ⟨hA, hB⟩ := Prod.mk.inj (Option.some.inj h)
  subst hA
  subst hB
  exact gw_iret dX7_tellGrudger_13 ⟨rfl, rfl⟩

def fX7_tellTalker (x1 : Int32) (M : ow_M) : Option (Int32 × ow_M) := Option.bind (fX7_leaveTrace 3 M) (fun M3 => ow_bd (fX7_tellGrudger x1 M3) (fun v5 M6 => ow_bd (fX7_tellPerson x1 M6) (fun v8 M9 => some ((v5 + v8), M9))))
set_option maxRecDepth 100000 in
set_option maxHeartbeats 4000000 in
theorem ctX7_tellTalker (l : Launch) {x1 : Int32} {M : ow_M} {r : Int32} {M9 : ow_M}  (h : fX7_tellTalker x1 M = some (r, M9)) : ow_F l 3 yX7_tellTalker cX7_tellTalker 2 (some .int) [.ref 0, .int x1] M (some (.int r)) M9 := by
  unfold fX7_tellTalker at h
  refine ow_enterO (own := RX7) rfl (by decide +kernel) rfl (ls := [some (.ref 0), some (.int x1)]) rfl ?_
  refine gw_aload0 dX7_tellTalker_0 ?_
  refine gw_ic3 dX7_tellTalker_1 ?_
  obtain ⟨M3, hc1, h⟩ := ow_b_some h
  refine gw_cVV1 dX7_tellTalker_2 lkX7_235 mkX7_leaveTrace (ow_rm_in rfl rfl) rfl rfl (ctX7_leaveTrace l hc1) rfl ?_
  refine gw_aload0 dX7_tellTalker_5 ?_
  refine gw_iload1 dX7_tellTalker_6 ?_
  obtain ⟨v5, M6, hc4, h⟩ := ow_bd_some h
  refine gw_cVI1 dX7_tellTalker_7 lkX7_229 mkX7_tellGrudger (ow_rm_in rfl rfl) rfl rfl (ctX7_tellGrudger l hc4) rfl ?_
  refine gw_aload0 dX7_tellTalker_10 ?_
  refine gw_iload1 dX7_tellTalker_11 ?_
  obtain ⟨v8, M9, hc7, h⟩ := ow_bd_some h
  refine gw_cVI1 dX7_tellTalker_12 lkX7_232 mkX7_tellPerson (ow_rm_in rfl rfl) rfl rfl (ctX7_tellPerson l hc7) rfl ?_
  refine gw_iadd dX7_tellTalker_15 ?_
  obtain ⟨hA, hB⟩ := Prod.mk.inj (Option.some.inj h)
  subst hA
  subst hB
  exact gw_iret dX7_tellTalker_16 ⟨rfl, rfl⟩

def fX7_tell (x1 : Int32) (M : ow_M) : Option (Int32 × ow_M) := Option.bind (fX0_isPerson x1 M) (fun v2 => (if v2 = 0 then some ((-1), M) else if ow_inn x1 7 then (if (M.1 3 x1.toNatClampNeg) = 1 then ow_bd (fX7_tellGrudger x1 M) (fun v7 M8 => some (v7, M8)) else (if (M.1 3 x1.toNatClampNeg) = 2 then ow_bd (fX7_tellTalker x1 M) (fun v11 M12 => some (v11, M12)) else (ow_bd (fX7_tellPerson x1 M) (fun v14 M15 => some (v14, M15))))) else none))
set_option maxRecDepth 100000 in
set_option maxHeartbeats 4000000 in
theorem ctX7_tell (l : Launch) {x1 : Int32} {M : ow_M} {r : Int32} {M9 : ow_M}  (h : fX7_tell x1 M = some (r, M9)) : ow_F l 4 yX7_tell cX7_tell 2 (some .int) [.ref 0, .int x1] M (some (.int r)) M9 := by
  unfold fX7_tell at h
  refine ow_enterO (own := RX7) rfl (by decide +kernel) rfl (ls := [some (.ref 0), some (.int x1)]) rfl ?_
  refine gw_aload0 dX7_tell_0 ?_
  refine gw_getR dX7_tell_1 fkX7_20 rfl rfl ?_
  refine gw_iload1 dX7_tell_4 ?_
  obtain ⟨v2, hc1, h⟩ := ow_b_some h
  refine gw_cVI1 dX7_tell_5 lkX7_96 mkX0_isPerson (ow_rm_in rfl rfl) rfl rfl (ctX0_isPerson l hc1) rfl ?_
  refine gw_if_ne (tgt := 13) dX7_tell_8 rfl (fun h3 => ?_) (fun h3 => ?_)
  · replace h := (if_neg h3).symm.trans h
    refine gw_aload0 dX7_tell_13 ?_
    refine gw_getR dX7_tell_14 fkX7_20 rfl rfl ?_
    refine gw_getR dX7_tell_17 fkX7_99 rfl rfl ?_
    refine gw_iload1 dX7_tell_20 ?_
    by_cases h4 : ow_inn x1 7
    rotate_left
    · replace h := (if_neg h4).symm.trans h
      cases h
    replace h := (if_pos h4).symm.trans h
    refine gw_iald dX7_tell_21 rfl h4 ?_
    by_cases h5 : (M.1 3 x1.toNatClampNeg) = 1
    · replace h := (if_pos h5).symm.trans h
      refine gw_lookup (off := 32) (tgt := 54) dX7_tell_22 (by decide) (by rw [h5]; rfl) rfl ?_
      refine gw_aload0 dX7_tell_54 ?_
      refine gw_iload1 dX7_tell_55 ?_
      obtain ⟨v7, M8, hc6, h⟩ := ow_bd_some h
      refine gw_cVI1 dX7_tell_56 lkX7_229 mkX7_tellGrudger (ow_rm_in rfl rfl) rfl rfl (ctX7_tellGrudger l hc6) rfl ?_
      obtain ⟨hA, hB⟩ := Prod.mk.inj (Option.some.inj h)
      subst hA
      subst hB
      exact gw_iret dX7_tell_59 ⟨rfl, rfl⟩
    replace h := (if_neg h5).symm.trans h
    by_cases h9 : (M.1 3 x1.toNatClampNeg) = 2
    · replace h := (if_pos h9).symm.trans h
      refine gw_lookup (off := 26) (tgt := 48) dX7_tell_22 (by decide) (by rw [h9]; rfl) rfl ?_
      refine gw_aload0 dX7_tell_48 ?_
      refine gw_iload1 dX7_tell_49 ?_
      obtain ⟨v11, M12, hc10, h⟩ := ow_bd_some h
      refine gw_cVI1 dX7_tell_50 lkX7_226 mkX7_tellTalker (ow_rm_in rfl rfl) rfl rfl (ctX7_tellTalker l hc10) rfl ?_
      obtain ⟨hA, hB⟩ := Prod.mk.inj (Option.some.inj h)
      subst hA
      subst hB
      exact gw_iret dX7_tell_53 ⟨rfl, rfl⟩
    replace h := (if_neg h9).symm.trans h
    have eh5 := ow_neI 1 1 (by decide) h5
    have eh9 := ow_neI 2 2 (by decide) h9
    refine gw_lookup (off := 38) (tgt := 60) dX7_tell_22 (by decide) (by simp [Op.lookupswitch.offset, eh5, Ne.symm eh5, eh9, Ne.symm eh9]) rfl ?_
    refine gw_aload0 dX7_tell_60 ?_
    refine gw_iload1 dX7_tell_61 ?_
    obtain ⟨v14, M15, hc13, h⟩ := ow_bd_some h
    refine gw_cVI1 dX7_tell_62 lkX7_232 mkX7_tellPerson (ow_rm_in rfl rfl) rfl rfl (ctX7_tellPerson l hc13) rfl ?_
    obtain ⟨hA, hB⟩ := Prod.mk.inj (Option.some.inj h)
    subst hA
    subst hB
    exact gw_iret dX7_tell_65 ⟨rfl, rfl⟩
  · replace h := (if_pos h3).symm.trans h
    refine gw_icm1 dX7_tell_11 ?_
    obtain ⟨hA, hB⟩ := Prod.mk.inj (Option.some.inj h)
    subst hA
    subst hB
    exact gw_iret dX7_tell_12 ⟨rfl, rfl⟩

def fX7_lean (x1 : Int32) (M : ow_M) : Option (Int32 × ow_M) := Option.bind (fX0_isPerson x1 M) (fun v2 => (if v2 = 0 then some ((-1), M) else if ow_inn x1 7 then (if (M.1 3 x1.toNatClampNeg) = 2 then Option.bind (fX7_leaveTrace 5 M) (fun M11 => some (70, M11)) else Option.bind (fX7_leaveTrace 4 M) (fun M8 => some (x1, M8))) else none))
set_option maxRecDepth 100000 in
set_option maxHeartbeats 4000000 in
theorem ctX7_lean (l : Launch) {x1 : Int32} {M : ow_M} {r : Int32} {M9 : ow_M}  (h : fX7_lean x1 M = some (r, M9)) : ow_F l 1 yX7_lean cX7_lean 2 (some .int) [.ref 0, .int x1] M (some (.int r)) M9 := by
  unfold fX7_lean at h
  refine ow_enterO (own := RX7) rfl (by decide +kernel) rfl (ls := [some (.ref 0), some (.int x1)]) rfl ?_
  refine gw_aload0 dX7_lean_0 ?_
  refine gw_getR dX7_lean_1 fkX7_20 rfl rfl ?_
  refine gw_iload1 dX7_lean_4 ?_
  obtain ⟨v2, hc1, h⟩ := ow_b_some h
  refine gw_cVI1 dX7_lean_5 lkX7_96 mkX0_isPerson (ow_rm_in rfl rfl) rfl rfl (ctX0_isPerson l hc1) rfl ?_
  refine gw_if_ne (tgt := 13) dX7_lean_8 rfl (fun h3 => ?_) (fun h3 => ?_)
  · replace h := (if_neg h3).symm.trans h
    refine gw_aload0 dX7_lean_13 ?_
    refine gw_getR dX7_lean_14 fkX7_20 rfl rfl ?_
    refine gw_getR dX7_lean_17 fkX7_99 rfl rfl ?_
    refine gw_iload1 dX7_lean_20 ?_
    by_cases h4 : ow_inn x1 7
    rotate_left
    · replace h := (if_neg h4).symm.trans h
      cases h
    replace h := (if_pos h4).symm.trans h
    refine gw_iald dX7_lean_21 rfl h4 ?_
    refine gw_ic2 dX7_lean_22 ?_
    refine gw_icmp_ne (tgt := 34) dX7_lean_23 rfl (fun h5 => ?_) (fun h5 => ?_)
    · replace h := (if_neg h5).symm.trans h
      refine gw_aload0 dX7_lean_34 ?_
      refine gw_ic4 dX7_lean_35 ?_
      obtain ⟨M8, hc6, h⟩ := ow_b_some h
      refine gw_cVV1 dX7_lean_36 lkX7_235 mkX7_leaveTrace (ow_rm_in rfl rfl) rfl rfl (ctX7_leaveTrace l hc6) rfl ?_
      refine gw_iload1 dX7_lean_39 ?_
      obtain ⟨hA, hB⟩ := Prod.mk.inj (Option.some.inj h)
      subst hA
      subst hB
      exact gw_iret dX7_lean_40 ⟨rfl, rfl⟩
    · replace h := (if_pos h5).symm.trans h
      refine gw_aload0 dX7_lean_26 ?_
      refine gw_ic5 dX7_lean_27 ?_
      obtain ⟨M11, hc9, h⟩ := ow_b_some h
      refine gw_cVV1 dX7_lean_28 lkX7_235 mkX7_leaveTrace (ow_rm_in rfl rfl) rfl rfl (ctX7_leaveTrace l hc9) rfl ?_
      refine gw_bipush 70 dX7_lean_31 (by decide) ?_
      obtain ⟨hA, hB⟩ := Prod.mk.inj (Option.some.inj h)
      subst hA
      subst hB
      exact gw_iret dX7_lean_33 ⟨rfl, rfl⟩
  · replace h := (if_pos h3).symm.trans h
    refine gw_icm1 dX7_lean_11 ?_
    obtain ⟨hA, hB⟩ := Prod.mk.inj (Option.some.inj h)
    subst hA
    subst hB
    exact gw_iret dX7_lean_12 ⟨rfl, rfl⟩

def fX7_as (x1 : Int32) (x2 : Int32) (M : ow_M) : Option (Int32 × ow_M) := Option.bind (fX0_isPerson x1 (ow_up M 0 8 0)) (fun v2 => (if v2 = 0 then some ((-1), (ow_up M 0 8 0)) else (if x2 < 0 then some ((-2), (ow_up M 0 8 0)) else (if x2 < 3 then if ow_inn x1 7 then (if ((ow_up M 0 8 0).1 3 x1.toNatClampNeg) < x2 then ow_bd (fX7_failed 2 (ow_up M 0 8 0)) (fun v9 M10 => some (v9, M10)) else some (1, (ow_up M 0 8 0))) else none else some ((-2), (ow_up M 0 8 0))))))
set_option maxRecDepth 100000 in
set_option maxHeartbeats 4000000 in
theorem ctX7_as (l : Launch) {x1 : Int32} {x2 : Int32} {M : ow_M} {r : Int32} {M9 : ow_M}  (h : fX7_as x1 x2 M = some (r, M9)) : ow_F l 1 yX7_as cX7_as 3 (some .int) [.ref 0, .int x1, .int x2] M (some (.int r)) M9 := by
  unfold fX7_as at h
  refine ow_enterO (own := RX7) rfl (by decide +kernel) rfl (ls := [some (.ref 0), some (.int x1), some (.int x2)]) rfl ?_
  refine gw_aload0 dX7_as_0 ?_
  refine gw_ic0 dX7_as_1 ?_
  refine gw_putI dX7_as_2 fkX7_63 fp7_8 rfl rfl ?_
  refine gw_aload0 dX7_as_5 ?_
  refine gw_getR dX7_as_6 fkX7_20 rfl rfl ?_
  refine gw_iload1 dX7_as_9 ?_
  obtain ⟨v2, hc1, h⟩ := ow_b_some h
  refine gw_cVI1 dX7_as_10 lkX7_96 mkX0_isPerson (ow_rm_in rfl rfl) rfl rfl (ctX0_isPerson l hc1) rfl ?_
  refine gw_if_ne (tgt := 18) dX7_as_13 rfl (fun h3 => ?_) (fun h3 => ?_)
  · replace h := (if_neg h3).symm.trans h
    refine gw_iload2 dX7_as_18 ?_
    refine gw_if_lt (tgt := 27) dX7_as_19 rfl (fun h4 => ?_) (fun h4 => ?_)
    · replace h := (if_pos h4).symm.trans h
      refine gw_bipush (-2) dX7_as_27 (by decide) ?_
      obtain ⟨hA, hB⟩ := Prod.mk.inj (Option.some.inj h)
      subst hA
      subst hB
      exact gw_iret dX7_as_29 ⟨rfl, rfl⟩
    · replace h := (if_neg h4).symm.trans h
      refine gw_iload2 dX7_as_22 ?_
      refine gw_ic3 dX7_as_23 ?_
      refine gw_icmp_lt (tgt := 30) dX7_as_24 rfl (fun h5 => ?_) (fun h5 => ?_)
      · replace h := (if_pos h5).symm.trans h
        refine gw_aload0 dX7_as_30 ?_
        refine gw_getR dX7_as_31 fkX7_20 rfl rfl ?_
        refine gw_getR dX7_as_34 fkX7_99 rfl rfl ?_
        refine gw_iload1 dX7_as_37 ?_
        by_cases h6 : ow_inn x1 7
        rotate_left
        · replace h := (if_neg h6).symm.trans h
          cases h
        replace h := (if_pos h6).symm.trans h
        refine gw_iald dX7_as_38 rfl h6 ?_
        refine gw_iload2 dX7_as_39 ?_
        refine gw_icmp_lt (tgt := 47) dX7_as_40 rfl (fun h7 => ?_) (fun h7 => ?_)
        · replace h := (if_pos h7).symm.trans h
          refine gw_aload0 dX7_as_47 ?_
          refine gw_ic2 dX7_as_48 ?_
          obtain ⟨v9, M10, hc8, h⟩ := ow_bd_some h
          refine gw_cVI1 dX7_as_49 lkX7_78 mkX7_failed (ow_rm_in rfl rfl) rfl rfl (ctX7_failed l hc8) rfl ?_
          obtain ⟨hA, hB⟩ := Prod.mk.inj (Option.some.inj h)
          subst hA
          subst hB
          exact gw_iret dX7_as_52 ⟨rfl, rfl⟩
        · replace h := (if_neg h7).symm.trans h
          refine gw_ic1 dX7_as_43 ?_
          refine gw_goto (tgt := 52) rfl dX7_as_44 ?_
          obtain ⟨hA, hB⟩ := Prod.mk.inj (Option.some.inj h)
          subst hA
          subst hB
          exact gw_iret dX7_as_52 ⟨rfl, rfl⟩
      · replace h := (if_neg h5).symm.trans h
        refine gw_bipush (-2) dX7_as_27 (by decide) ?_
        obtain ⟨hA, hB⟩ := Prod.mk.inj (Option.some.inj h)
        subst hA
        subst hB
        exact gw_iret dX7_as_29 ⟨rfl, rfl⟩
  · replace h := (if_pos h3).symm.trans h
    refine gw_icm1 dX7_as_16 ?_
    obtain ⟨hA, hB⟩ := Prod.mk.inj (Option.some.inj h)
    subst hA
    subst hB
    exact gw_iret dX7_as_17 ⟨rfl, rfl⟩

def fX7_trace  (M : ow_M) : Option Int32 := some (M.1 0 7)
set_option maxRecDepth 100000 in
set_option maxHeartbeats 4000000 in
theorem ctX7_trace (l : Launch)  {M : ow_M} {r : Int32}  (h : fX7_trace M = some r) : ow_F l 0 yX7_trace cX7_trace 1 (some .int) [.ref 0] M (some (.int r)) M := by
  unfold fX7_trace at h
  refine ow_enterO (own := RX7) rfl (by decide +kernel) rfl (ls := [some (.ref 0)]) rfl ?_
  refine gw_aload0 dX7_trace_0 ?_
  refine gw_getI dX7_trace_1 fkX7_59 rfl rfl ?_
  have hA := Option.some.inj h
  subst hA
  exact gw_iret dX7_trace_4 ⟨rfl, rfl⟩

def fX7_fault  (M : ow_M) : Option Int32 := some (M.1 0 8)
set_option maxRecDepth 100000 in
set_option maxHeartbeats 4000000 in
theorem ctX7_fault (l : Launch)  {M : ow_M} {r : Int32}  (h : fX7_fault M = some r) : ow_F l 0 yX7_fault cX7_fault 1 (some .int) [.ref 0] M (some (.int r)) M := by
  unfold fX7_fault at h
  refine ow_enterO (own := RX7) rfl (by decide +kernel) rfl (ls := [some (.ref 0)]) rfl ?_
  refine gw_aload0 dX7_fault_0 ?_
  refine gw_getI dX7_fault_1 fkX7_63 rfl rfl ?_
  have hA := Option.some.inj h
  subst hA
  exact gw_iret dX7_fault_4 ⟨rfl, rfl⟩

def fX7_many (x1 : Int32) (M : ow_M) : Option Int32 := (if x1 = 0 then some (M.1 2 0) else (if x1 = 1 then some (M.1 2 1) else (if x1 = 2 then Option.bind (fX0_howManyWalled M) (fun v5 => some v5) else (if x1 = 3 then some (M.1 21 0) else (if x1 = 4 then (if (M.1 2 2) = 0 then some 0 else some 1) else (some (-2)))))))
set_option maxRecDepth 100000 in
set_option maxHeartbeats 4000000 in
theorem ctX7_many (l : Launch) {x1 : Int32} {M : ow_M} {r : Int32}  (h : fX7_many x1 M = some r) : ow_F l 1 yX7_many cX7_many 2 (some .int) [.ref 0, .int x1] M (some (.int r)) M := by
  unfold fX7_many at h
  refine ow_enterO (own := RX7) rfl (by decide +kernel) rfl (ls := [some (.ref 0), some (.int x1)]) rfl ?_
  refine gw_iload1 dX7_many_0 ?_
  by_cases h1 : x1 = 0
  · replace h := (if_pos h1).symm.trans h
    refine gw_tableIn (tgt := 36) dX7_many_1 (by rw [h1]; decide) (by rw [h1]; decide) (by rw [h1]; rfl) rfl ?_
    refine gw_aload0 dX7_many_36 ?_
    refine gw_getR dX7_many_37 fkX7_20 rfl rfl ?_
    refine gw_getI dX7_many_40 fkX7_93 rfl rfl ?_
    have hA := Option.some.inj h
    subst hA
    exact gw_iret dX7_many_43 ⟨rfl, rfl⟩
  replace h := (if_neg h1).symm.trans h
  by_cases h2 : x1 = 1
  · replace h := (if_pos h2).symm.trans h
    refine gw_tableIn (tgt := 44) dX7_many_1 (by rw [h2]; decide) (by rw [h2]; decide) (by rw [h2]; rfl) rfl ?_
    refine gw_aload0 dX7_many_44 ?_
    refine gw_getR dX7_many_45 fkX7_20 rfl rfl ?_
    refine gw_getI dX7_many_48 fkX7_197 rfl rfl ?_
    have hA := Option.some.inj h
    subst hA
    exact gw_iret dX7_many_51 ⟨rfl, rfl⟩
  replace h := (if_neg h2).symm.trans h
  by_cases h3 : x1 = 2
  · replace h := (if_pos h3).symm.trans h
    refine gw_tableIn (tgt := 52) dX7_many_1 (by rw [h3]; decide) (by rw [h3]; decide) (by rw [h3]; rfl) rfl ?_
    refine gw_aload0 dX7_many_52 ?_
    refine gw_getR dX7_many_53 fkX7_20 rfl rfl ?_
    obtain ⟨v5, hc4, h⟩ := ow_b_some h
    refine gw_cVI0 dX7_many_56 lkX7_238 mkX0_howManyWalled (ow_rm_in rfl rfl) rfl rfl (ctX0_howManyWalled l hc4) rfl ?_
    have hA := Option.some.inj h
    subst hA
    exact gw_iret dX7_many_59 ⟨rfl, rfl⟩
  replace h := (if_neg h3).symm.trans h
  by_cases h6 : x1 = 3
  · replace h := (if_pos h6).symm.trans h
    refine gw_tableIn (tgt := 60) dX7_many_1 (by rw [h6]; decide) (by rw [h6]; decide) (by rw [h6]; rfl) rfl ?_
    refine gw_aload0 dX7_many_60 ?_
    refine gw_getR dX7_many_61 fkX7_55 rfl rfl ?_
    refine gw_getI dX7_many_64 fkX7_90 rfl rfl ?_
    have hA := Option.some.inj h
    subst hA
    exact gw_iret dX7_many_67 ⟨rfl, rfl⟩
  replace h := (if_neg h6).symm.trans h
  by_cases h7 : x1 = 4
  · replace h := (if_pos h7).symm.trans h
    refine gw_tableIn (tgt := 68) dX7_many_1 (by rw [h7]; decide) (by rw [h7]; decide) (by rw [h7]; rfl) rfl ?_
    refine gw_aload0 dX7_many_68 ?_
    refine gw_getR dX7_many_69 fkX7_20 rfl rfl ?_
    refine gw_getI dX7_many_72 fkX7_144 rfl rfl ?_
    refine gw_if_eq (tgt := 82) dX7_many_75 rfl (fun h8 => ?_) (fun h8 => ?_)
    · replace h := (if_pos h8).symm.trans h
      refine gw_ic0 dX7_many_82 ?_
      have hA := Option.some.inj h
      subst hA
      exact gw_iret dX7_many_83 ⟨rfl, rfl⟩
    · replace h := (if_neg h8).symm.trans h
      refine gw_ic1 dX7_many_78 ?_
      refine gw_goto (tgt := 83) rfl dX7_many_79 ?_
      have hA := Option.some.inj h
      subst hA
      exact gw_iret dX7_many_83 ⟨rfl, rfl⟩
  replace h := (if_neg h7).symm.trans h
  have eh1 := ow_neI 0 0 (by decide) h1
  have eh2 := ow_neI 1 1 (by decide) h2
  have eh3 := ow_neI 2 2 (by decide) h3
  have eh6 := ow_neI 3 3 (by decide) h6
  have eh7 := ow_neI 4 4 (by decide) h7
  refine gw_tableOut (tgt := 84) dX7_many_1 (by omega) rfl ?_
  refine gw_bipush (-2) dX7_many_84 (by decide) ?_
  have hA := Option.some.inj h
  subst hA
  exact gw_iret dX7_many_86 ⟨rfl, rfl⟩

