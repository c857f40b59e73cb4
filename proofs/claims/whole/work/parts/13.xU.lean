def lpX6_held_4 (x0 : Nat) (x1 : Int32) (M : ow_M) (k : Int32 → Int32 → Option Int32) : Nat → Int32 → Int32 → Option Int32
  | 0, _, _ => none
  | n + 1, x2, x3 => (if x1 ≤ x3 then k x2 x3 else (if (Int32.ofNat 7) ≤ x3 then k x2 x3 else if ow_inn x3 7 then lpX6_held_4 x0 x1 M k n (x2 ||| ((M.1 x0 x3.toNatClampNeg) <<< ((2 * x3) &&& 31))) (x3 + 1) else none))
set_option maxRecDepth 100000 in
set_option maxHeartbeats 4000000 in
theorem tlpX6_held_4 (l : Launch) {x0 : Nat} {x1 : Int32} {M : ow_M} {k : Int32 → Int32 → Option Int32} {r : Int32}  (hS0 : ow_sh[x0]? = some (.inl (0, 7))) (hk : ∀ (x2 : Int32) (x3 : Int32), k x2 x3 = some r → ow_G (ow_Γ l 0 (some .int) (ow_is (some (.int r)) M)) RX6 cX6_held 4 31 [some (.ref x0), some (.int x1), some (.int x2), some (.int x3)] [] M) : ∀ (n : Nat) (x2 : Int32) (x3 : Int32), lpX6_held_4 x0 x1 M k n x2 x3 = some r → ow_G (ow_Γ l 0 (some .int) (ow_is (some (.int r)) M)) RX6 cX6_held 4 4 [some (.ref x0), some (.int x1), some (.int x2), some (.int x3)] [] M := by
  intro n
  induction n with
  | zero => intro _ _ h; cases h
  | succ n ih =>
    intro x2 x3 h
    unfold lpX6_held_4 at h
    refine gw_iload3 dX6_held_4 ?_
    refine gw_iload1 dX6_held_5 ?_
    refine gw_icmp_ge (tgt := 31) dX6_held_6 rfl (fun h1 => ?_) (fun h1 => ?_)
    · replace h := (if_pos h1).symm.trans h
      exact hk _ _ h
    · replace h := (if_neg h1).symm.trans h
      refine gw_iload3 dX6_held_9 ?_
      refine gw_aload0 dX6_held_10 ?_
      refine gw_alen (Int32.ofNat 7) dX6_held_11 hS0 rfl rfl ?_
      refine gw_icmp_ge (tgt := 31) dX6_held_12 rfl (fun h2 => ?_) (fun h2 => ?_)
      · replace h := (if_pos h2).symm.trans h
        exact hk _ _ h
      · replace h := (if_neg h2).symm.trans h
        refine gw_iload2 dX6_held_15 ?_
        refine gw_aload0 dX6_held_16 ?_
        refine gw_iload3 dX6_held_17 ?_
        by_cases h3 : ow_inn x3 7
        rotate_left
        · replace h := (if_neg h3).symm.trans h
          cases h
        replace h := (if_pos h3).symm.trans h
        refine gw_iald dX6_held_18 hS0 h3 ?_
        refine gw_ic2 dX6_held_19 ?_
        refine gw_iload3 dX6_held_20 ?_
        refine gw_imul dX6_held_21 ?_
        refine gw_ishl dX6_held_22 ?_
        refine gw_ior dX6_held_23 ?_
        refine gw_istore2 dX6_held_24 (by decide) rfl ?_
        refine gw_iinc3 1 dX6_held_25 (by decide) rfl (by decide) ?_
        refine gw_goto (tgt := 4) rfl dX6_held_28 ?_
        exact ih _ _ h

def fX6_held (x0 : Nat) (x1 : Int32) (M : ow_M) : Option Int32 := lpX6_held_4 x0 x1 M (fun u4 u5 => some u4) ow_N 0 0
set_option maxRecDepth 100000 in
set_option maxHeartbeats 4000000 in
theorem ctX6_held (l : Launch) {x0 : Nat} {x1 : Int32} {M : ow_M} {r : Int32}  (hS0 : ow_sh[x0]? = some (.inl (0, 7))) (h : fX6_held x0 x1 M = some r) : ow_F l 0 yX6_held cX6_held 4 (some .int) [.ref x0, .int x1] M (some (.int r)) M := by
  unfold fX6_held at h
  refine ow_enterO (own := RX6) rfl (by decide +kernel) rfl (ls := [some (.ref x0), some (.int x1), none, none]) rfl ?_
  refine gw_ic0 dX6_held_0 ?_
  refine gw_istore2 dX6_held_1 (by decide) rfl ?_
  refine gw_ic0 dX6_held_2 ?_
  refine gw_istore3 dX6_held_3 (by decide) rfl ?_
  refine tlpX6_held_4 l hS0 ?_ _ _ _ h
  intro u4 u5 h
  refine gw_iload2 dX6_held_31 ?_
  have hA := Option.some.inj h
  subst hA
  exact gw_iret dX6_held_32 ⟨rfl, rfl⟩

def lpX6_isOneDay_4 (x1 : Int32) (M : ow_M) (k : Int32 → Int32 → Option Int32) : Nat → Int32 → Int32 → Option Int32
  | 0, _, _ => none
  | n + 1, x2, x3 => (if (M.1 2 1) ≤ x3 then k x2 x3 else (if ((x1 >>> (x3 &&& 31)) &&& 1) = 0 then lpX6_isOneDay_4 x1 M k n x2 (x3 + 1) else Option.bind (fX0_rightEnd x3 M) (fun v4 => Option.bind (fX0_isOpen x3 M) (fun v6 => (if v6 = 0 then some 0 else (if (x2 &&& ((1 <<< (x3 &&& 31)) ||| (1 <<< (v4 &&& 31)))) = 0 then lpX6_isOneDay_4 x1 M k n (x2 ||| ((1 <<< (x3 &&& 31)) ||| (1 <<< (v4 &&& 31)))) (x3 + 1) else some 0))))))
set_option maxRecDepth 100000 in
set_option maxHeartbeats 4000000 in
theorem tlpX6_isOneDay_4 (l : Launch) {x1 : Int32} {M : ow_M} {k : Int32 → Int32 → Option Int32} {r : Int32}  (hk : ∀ (x2 : Int32) (x3 : Int32), k x2 x3 = some r → ow_G (ow_Γ l 2 (some .boolean) (ow_is (some (.int r)) M)) RX6 cX6_isOneDay 5 61 [some (.ref 2), some (.int x1), some (.int x2), some (.int x3), none] [] M) : ∀ (n : Nat) (x2 : Int32) (x3 : Int32), lpX6_isOneDay_4 x1 M k n x2 x3 = some r → ow_G (ow_Γ l 2 (some .boolean) (ow_is (some (.int r)) M)) RX6 cX6_isOneDay 5 4 [some (.ref 2), some (.int x1), some (.int x2), some (.int x3), none] [] M := by
  intro n
  induction n with
  | zero => intro _ _ h; cases h
  | succ n ih =>
    intro x2 x3 h
    unfold lpX6_isOneDay_4 at h
    refine gw_iload3 dX6_isOneDay_4 ?_
    refine gw_aload0 dX6_isOneDay_5 ?_
    refine gw_getI dX6_isOneDay_6 fkX6_65 rfl rfl ?_
    refine gw_icmp_ge (tgt := 61) dX6_isOneDay_9 rfl (fun h1 => ?_) (fun h1 => ?_)
    · replace h := (if_pos h1).symm.trans h
      exact hk _ _ h
    · replace h := (if_neg h1).symm.trans h
      refine gw_iload1 dX6_isOneDay_12 ?_
      refine gw_iload3 dX6_isOneDay_13 ?_
      refine gw_ishr dX6_isOneDay_14 ?_
      refine gw_ic1 dX6_isOneDay_15 ?_
      refine gw_iand dX6_isOneDay_16 ?_
      refine gw_if_eq (tgt := 55) dX6_isOneDay_17 rfl (fun h2 => ?_) (fun h2 => ?_)
      · replace h := (if_pos h2).symm.trans h
        refine gw_iinc3 1 dX6_isOneDay_55 (by decide) rfl (by decide) ?_
        refine gw_goto (tgt := 4) rfl dX6_isOneDay_58 ?_
        exact ih _ _ h
      · replace h := (if_neg h2).symm.trans h
        refine gw_ic1 dX6_isOneDay_20 ?_
        refine gw_iload3 dX6_isOneDay_21 ?_
        refine gw_ishl dX6_isOneDay_22 ?_
        refine gw_ic1 dX6_isOneDay_23 ?_
        refine gw_aload0 dX6_isOneDay_24 ?_
        refine gw_iload3 dX6_isOneDay_25 ?_
        obtain ⟨v4, hc3, h⟩ := ow_b_some h
        refine gw_cVI1 dX6_isOneDay_26 lkX6_72 mkX0_rightEnd (ow_rm_in rfl rfl) rfl rfl (ctX0_rightEnd l hc3) rfl ?_
        refine gw_ishl dX6_isOneDay_29 ?_
        refine gw_ior dX6_isOneDay_30 ?_
        refine gw_istore4 dX6_isOneDay_31 (by decide) rfl ?_
        refine gw_aload0 dX6_isOneDay_33 ?_
        refine gw_iload3 dX6_isOneDay_34 ?_
        obtain ⟨v6, hc5, h⟩ := ow_b_some h
        refine gw_cVI1 dX6_isOneDay_35 lkX6_76 mkX0_isOpen (ow_rm_in rfl rfl) rfl rfl (ctX0_isOpen l hc5) rfl ?_
        refine gw_if_eq (tgt := 48) dX6_isOneDay_38 rfl (fun h7 => ?_) (fun h7 => ?_)
        · replace h := (if_pos h7).symm.trans h
          refine gw_ic0 dX6_isOneDay_48 ?_
          have hA := Option.some.inj h
          subst hA
          exact gw_zret (Or.inl rfl) dX6_isOneDay_49 ⟨rfl, rfl⟩
        · replace h := (if_neg h7).symm.trans h
          refine gw_iload2 dX6_isOneDay_41 ?_
          refine gw_iload4 dX6_isOneDay_42 ?_
          refine gw_iand dX6_isOneDay_44 ?_
          refine gw_if_eq (tgt := 50) dX6_isOneDay_45 rfl (fun h8 => ?_) (fun h8 => ?_)
          · replace h := (if_pos h8).symm.trans h
            refine gw_iload2 dX6_isOneDay_50 ?_
            refine gw_iload4 dX6_isOneDay_51 ?_
            refine gw_ior dX6_isOneDay_53 ?_
            refine gw_istore2 dX6_isOneDay_54 (by decide) rfl ?_
            refine gw_iinc3 1 dX6_isOneDay_55 (by decide) rfl (by decide) ?_
            refine gw_goto (tgt := 4) rfl dX6_isOneDay_58 ?_
            refine gw_drp4 ?_
            exact ih _ _ h
          · replace h := (if_neg h8).symm.trans h
            refine gw_ic0 dX6_isOneDay_48 ?_
            have hA := Option.some.inj h
            subst hA
            exact gw_zret (Or.inl rfl) dX6_isOneDay_49 ⟨rfl, rfl⟩

def fX6_isOneDay (x1 : Int32) (M : ow_M) : Option Int32 := lpX6_isOneDay_4 x1 M (fun u9 u10 => some 1) ow_N 0 0
set_option maxRecDepth 100000 in
set_option maxHeartbeats 4000000 in
theorem ctX6_isOneDay (l : Launch) {x1 : Int32} {M : ow_M} {r : Int32}  (h : fX6_isOneDay x1 M = some r) : ow_F l 2 yX6_isOneDay cX6_isOneDay 5 (some .boolean) [.ref 2, .int x1] M (some (.int r)) M := by
  unfold fX6_isOneDay at h
  refine ow_enterO (own := RX6) rfl (by decide +kernel) rfl (ls := [some (.ref 2), some (.int x1), none, none, none]) rfl ?_
  refine gw_ic0 dX6_isOneDay_0 ?_
  refine gw_istore2 dX6_isOneDay_1 (by decide) rfl ?_
  refine gw_ic0 dX6_isOneDay_2 ?_
  refine gw_istore3 dX6_isOneDay_3 (by decide) rfl ?_
  refine tlpX6_isOneDay_4 l ?_ _ _ _ h
  intro u9 u10 h
  refine gw_ic1 dX6_isOneDay_61 ?_
  have hA := Option.some.inj h
  subst hA
  exact gw_zret (Or.inr rfl) dX6_isOneDay_62 ⟨rfl, rfl⟩

def jX6_gatherSteps_59 (x2 : Int32) (x3 : Int32) (x4 : Int32) (kb : Int32 → ow_M → Option ow_M) (k : Int32 → ow_M → Option ow_M) (M : ow_M) : Option ow_M := Option.bind (fX6_isOneDay x4 M) (fun v6 => (if v6 = 0 then kb (x4 + 1) M else if ow_inn (M.1 11 4) 128 then kb (x4 + 1) (ow_up (ow_up M 14 (M.1 11 4).toNatClampNeg x4) 11 4 (((ow_up M 14 (M.1 11 4).toNatClampNeg x4).1 11 4) + 1)) else none))
set_option maxRecDepth 100000 in
set_option maxHeartbeats 4000000 in
theorem tjX6_gatherSteps_59 (l : Launch) {x2 : Int32} {x3 : Int32} {x4 : Int32} {kb : Int32 → ow_M → Option ow_M} {k : Int32 → ow_M → Option ow_M} {M : ow_M} {M9 : ow_M}  (hkb : ∀ (z4 : Int32) (Mz : ow_M), kb z4 Mz = some M9 → ow_G (ow_Γ l 3 none (ow_is none M9)) RX6 cX6_gatherSteps 6 15 [some (.ref 11), some (.ref 2), some (.int x2), some (.int x3), some (.int z4), none] [] Mz) (hk : ∀ (z4 : Int32) (Mz : ow_M), k z4 Mz = some M9 → ow_G (ow_Γ l 3 none (ow_is none M9)) RX6 cX6_gatherSteps 6 95 [some (.ref 11), some (.ref 2), some (.int x2), some (.int x3), some (.int z4), none] [] Mz) (h : jX6_gatherSteps_59 x2 x3 x4 kb k M = some M9) : ow_G (ow_Γ l 3 none (ow_is none M9)) RX6 cX6_gatherSteps 6 59 [some (.ref 11), some (.ref 2), some (.int x2), some (.int x3), some (.int x4), none] [] M := by
  unfold jX6_gatherSteps_59 at h
  refine gw_aload1 dX6_gatherSteps_59 ?_
  refine gw_iload4 dX6_gatherSteps_60 ?_
  obtain ⟨v6, hc5, h⟩ := ow_b_some h
  refine gw_cSI2 dX6_gatherSteps_62 lkX6_68 mkX6_isOneDay (ow_rm_in rfl rfl) (ctX6_isOneDay l hc5) rfl ?_
  refine gw_if_eq (tgt := 89) dX6_gatherSteps_65 rfl (fun h7 => ?_) (fun h7 => ?_)
  · replace h := (if_pos h7).symm.trans h
    refine gw_iinc4 1 dX6_gatherSteps_89 (by decide) rfl (by decide) ?_
    refine gw_goto (tgt := 15) rfl dX6_gatherSteps_92 ?_
    exact hkb _ _ h
  · replace h := (if_neg h7).symm.trans h
    refine gw_aload0 dX6_gatherSteps_68 ?_
    refine gw_getR dX6_gatherSteps_69 fkX6_23 rfl rfl ?_
    refine gw_aload0 dX6_gatherSteps_72 ?_
    refine gw_getI dX6_gatherSteps_73 fkX6_26 rfl rfl ?_
    refine gw_iload4 dX6_gatherSteps_76 ?_
    by_cases h8 : ow_inn (M.1 11 4) 128
    rotate_left
    · replace h := (if_neg h8).symm.trans h
      cases h
    replace h := (if_pos h8).symm.trans h
    refine gw_iast dX6_gatherSteps_78 rfl h8 ?_
    refine gw_aload0 dX6_gatherSteps_79 ?_
    refine gw_dup rfl dX6_gatherSteps_80 ?_
    refine gw_getI dX6_gatherSteps_81 fkX6_26 rfl rfl ?_
    refine gw_ic1 dX6_gatherSteps_84 ?_
    refine gw_iadd dX6_gatherSteps_85 ?_
    refine gw_putI dX6_gatherSteps_86 fkX6_26 fp6_4 rfl rfl ?_
    refine gw_iinc4 1 dX6_gatherSteps_89 (by decide) rfl (by decide) ?_
    refine gw_goto (tgt := 15) rfl dX6_gatherSteps_92 ?_
    exact hkb _ _ h

def jX6_gatherSteps_48 (x2 : Int32) (x3 : Int32) (x4 : Int32) (s0 : Int32) (kb : Int32 → ow_M → Option ow_M) (k : Int32 → ow_M → Option ow_M) (M : ow_M) : Option ow_M := (if x2 = 0 then (if s0 = 0 then kb (x4 + 1) M else jX6_gatherSteps_59 x2 x3 x4 (kb) k M) else jX6_gatherSteps_59 x2 x3 x4 (kb) k M)
set_option maxRecDepth 100000 in
set_option maxHeartbeats 4000000 in
theorem tjX6_gatherSteps_48 (l : Launch) {x2 : Int32} {x3 : Int32} {x4 : Int32} {s0 : Int32} {kb : Int32 → ow_M → Option ow_M} {k : Int32 → ow_M → Option ow_M} {M : ow_M} {M9 : ow_M}  (hkb : ∀ (z4 : Int32) (Mz : ow_M), kb z4 Mz = some M9 → ow_G (ow_Γ l 3 none (ow_is none M9)) RX6 cX6_gatherSteps 6 15 [some (.ref 11), some (.ref 2), some (.int x2), some (.int x3), some (.int z4), none] [] Mz) (hk : ∀ (z4 : Int32) (Mz : ow_M), k z4 Mz = some M9 → ow_G (ow_Γ l 3 none (ow_is none M9)) RX6 cX6_gatherSteps 6 95 [some (.ref 11), some (.ref 2), some (.int x2), some (.int x3), some (.int z4), none] [] Mz) (h : jX6_gatherSteps_48 x2 x3 x4 s0 kb k M = some M9) : ow_G (ow_Γ l 3 none (ow_is none M9)) RX6 cX6_gatherSteps 6 48 [some (.ref 11), some (.ref 2), some (.int x2), some (.int x3), some (.int x4), none] [.int s0] M := by
  unfold jX6_gatherSteps_48 at h
  refine gw_istore5 dX6_gatherSteps_48 (by decide) rfl ?_
  refine gw_iload2 dX6_gatherSteps_50 ?_
  refine gw_if_ne (tgt := 59) dX6_gatherSteps_51 rfl (fun h4 => ?_) (fun h4 => ?_)
  · replace h := (if_neg h4).symm.trans h
    refine gw_drp5 ?_
    exact tjX6_gatherSteps_59 l hkb hk h
  · replace h := (if_pos h4).symm.trans h
    refine gw_iload5 dX6_gatherSteps_54 ?_
    refine gw_if_eq (tgt := 89) dX6_gatherSteps_56 rfl (fun h9 => ?_) (fun h9 => ?_)
    · replace h := (if_pos h9).symm.trans h
      refine gw_iinc4 1 dX6_gatherSteps_89 (by decide) rfl (by decide) ?_
      refine gw_goto (tgt := 15) rfl dX6_gatherSteps_92 ?_
      refine gw_drp5 ?_
      exact hkb _ _ h
    · replace h := (if_neg h9).symm.trans h
      refine gw_drp5 ?_
      exact tjX6_gatherSteps_59 l hkb hk h

def lpX6_gatherSteps_15 (x2 : Int32) (x3 : Int32) (k : Int32 → ow_M → Option ow_M) : Nat → Int32 → ow_M → Option ow_M
  | 0, _, _ => none
  | n + 1, x4, M => (if x3 ≤ x4 then k x4 M else (if 128 ≤ (M.1 11 4) then k x4 M else (if (x4 &&& (x4 - 1)) = 0 then jX6_gatherSteps_48 x2 x3 x4 1 (lpX6_gatherSteps_15 x2 x3 k n) k M else jX6_gatherSteps_48 x2 x3 x4 0 (lpX6_gatherSteps_15 x2 x3 k n) k M)))
set_option maxRecDepth 100000 in
set_option maxHeartbeats 4000000 in
theorem tlpX6_gatherSteps_15 (l : Launch) {x2 : Int32} {x3 : Int32} {k : Int32 → ow_M → Option ow_M} {M9 : ow_M}  (hk : ∀ (x4 : Int32) (M : ow_M), k x4 M = some M9 → ow_G (ow_Γ l 3 none (ow_is none M9)) RX6 cX6_gatherSteps 6 95 [some (.ref 11), some (.ref 2), some (.int x2), some (.int x3), some (.int x4), none] [] M) : ∀ (n : Nat) (x4 : Int32) (M : ow_M), lpX6_gatherSteps_15 x2 x3 k n x4 M = some M9 → ow_G (ow_Γ l 3 none (ow_is none M9)) RX6 cX6_gatherSteps 6 15 [some (.ref 11), some (.ref 2), some (.int x2), some (.int x3), some (.int x4), none] [] M := by
  intro n
  induction n with
  | zero => intro _ _ h; cases h
  | succ n ih =>
    intro x4 M h
    unfold lpX6_gatherSteps_15 at h
    refine gw_iload4 dX6_gatherSteps_15 ?_
    refine gw_iload3 dX6_gatherSteps_17 ?_
    refine gw_icmp_ge (tgt := 95) dX6_gatherSteps_18 rfl (fun h1 => ?_) (fun h1 => ?_)
    · replace h := (if_pos h1).symm.trans h
      exact hk _ _ h
    · replace h := (if_neg h1).symm.trans h
      refine gw_aload0 dX6_gatherSteps_21 ?_
      refine gw_getI dX6_gatherSteps_22 fkX6_26 rfl rfl ?_
      refine gw_aload0 dX6_gatherSteps_25 ?_
      refine gw_getR dX6_gatherSteps_26 fkX6_23 rfl rfl ?_
      refine gw_alen 128 dX6_gatherSteps_29 rfl rfl (by decide) ?_
      refine gw_icmp_ge (tgt := 95) dX6_gatherSteps_30 rfl (fun h2 => ?_) (fun h2 => ?_)
      · replace h := (if_pos h2).symm.trans h
        exact hk _ _ h
      · replace h := (if_neg h2).symm.trans h
        refine gw_iload4 dX6_gatherSteps_33 ?_
        refine gw_iload4 dX6_gatherSteps_35 ?_
        refine gw_ic1 dX6_gatherSteps_37 ?_
        refine gw_isub dX6_gatherSteps_38 ?_
        refine gw_iand dX6_gatherSteps_39 ?_
        refine gw_if_ne (tgt := 47) dX6_gatherSteps_40 rfl (fun h3 => ?_) (fun h3 => ?_)
        · replace h := (if_neg h3).symm.trans h
          refine gw_ic0 dX6_gatherSteps_47 ?_
          exact tjX6_gatherSteps_48 l ih hk h
        · replace h := (if_pos h3).symm.trans h
          refine gw_ic1 dX6_gatherSteps_43 ?_
          refine gw_goto (tgt := 48) rfl dX6_gatherSteps_44 ?_
          exact tjX6_gatherSteps_48 l ih hk h

def fX6_gatherSteps (x2 : Int32) (M : ow_M) : Option ow_M := lpX6_gatherSteps_15 x2 (1 <<< (((ow_up M 11 4 0).1 2 1) &&& 31)) (fun u10 M11 => some M11) ow_N 1 (ow_up M 11 4 0)
set_option maxRecDepth 100000 in
set_option maxHeartbeats 4000000 in
theorem ctX6_gatherSteps (l : Launch) {x2 : Int32} {M : ow_M} {M9 : ow_M}  (h : fX6_gatherSteps x2 M = some M9) : ow_F l 3 yX6_gatherSteps cX6_gatherSteps 6 none [.ref 11, .ref 2, .int x2] M none M9 := by
  unfold fX6_gatherSteps at h
  refine ow_enterO (own := RX6) rfl (by decide +kernel) rfl (ls := [some (.ref 11), some (.ref 2), some (.int x2), none, none, none]) rfl ?_
  refine gw_aload0 dX6_gatherSteps_0 ?_
  refine gw_ic0 dX6_gatherSteps_1 ?_
  refine gw_putI dX6_gatherSteps_2 fkX6_26 fp6_4 rfl rfl ?_
  refine gw_ic1 dX6_gatherSteps_5 ?_
  refine gw_aload1 dX6_gatherSteps_6 ?_
  refine gw_getI dX6_gatherSteps_7 fkX6_65 rfl rfl ?_
  refine gw_ishl dX6_gatherSteps_10 ?_
  refine gw_istore3 dX6_gatherSteps_11 (by decide) rfl ?_
  refine gw_ic1 dX6_gatherSteps_12 ?_
  refine gw_istore4 dX6_gatherSteps_13 (by decide) rfl ?_
  refine tlpX6_gatherSteps_15 l ?_ _ _ _ h
  intro u10 M11 h
  have hA := Option.some.inj h
  subst hA
  exact gw_vret dX6_gatherSteps_95 ⟨rfl, rfl⟩

def fX6_meet (x1 : Int32) (M : ow_M) : Option ow_M := (if x1 < 0 then some M else (if 256 ≤ (x1 / 64) then some M else (if (M.1 11 2) < 630 then if ow_inn (x1 / 64) 256 then (if (lg_cmp ((M.2 12 (x1 / 64).toNatClampNeg) &&& (1 <<< ((x1 - x1 / 64 * 64).toInt64 &&& 63))) 0) = 0 then if ow_inn (x1 / 64) 256 then if ow_inn (x1 / 64) 256 then if ow_inn ((ow_upL M 12 (x1 / 64).toNatClampNeg ((M.2 12 (x1 / 64).toNatClampNeg) ||| (1 <<< ((x1 - x1 / 64 * 64).toInt64 &&& 63)))).1 11 2) 630 then some (ow_up (ow_up (ow_upL M 12 (x1 / 64).toNatClampNeg ((M.2 12 (x1 / 64).toNatClampNeg) ||| (1 <<< ((x1 - x1 / 64 * 64).toInt64 &&& 63)))) 13 ((ow_upL M 12 (x1 / 64).toNatClampNeg ((M.2 12 (x1 / 64).toNatClampNeg) ||| (1 <<< ((x1 - x1 / 64 * 64).toInt64 &&& 63)))).1 11 2).toNatClampNeg x1) 11 2 (((ow_up (ow_upL M 12 (x1 / 64).toNatClampNeg ((M.2 12 (x1 / 64).toNatClampNeg) ||| (1 <<< ((x1 - x1 / 64 * 64).toInt64 &&& 63)))) 13 ((ow_upL M 12 (x1 / 64).toNatClampNeg ((M.2 12 (x1 / 64).toNatClampNeg) ||| (1 <<< ((x1 - x1 / 64 * 64).toInt64 &&& 63)))).1 11 2).toNatClampNeg x1).1 11 2) + 1)) else none else none else none else some M) else none else some M)))
set_option maxRecDepth 100000 in
set_option maxHeartbeats 4000000 in
theorem ctX6_meet (l : Launch) {x1 : Int32} {M : ow_M} {M9 : ow_M}  (h : fX6_meet x1 M = some M9) : ow_F l 0 yX6_meet cX6_meet 5 none [.ref 11, .int x1] M none M9 := by
  unfold fX6_meet at h
  refine ow_enterO (own := RX6) rfl (by decide +kernel) rfl (ls := [some (.ref 11), some (.int x1), none, none, none]) rfl ?_
  refine gw_iload1 dX6_meet_0 ?_
  refine gw_bipush 64 dX6_meet_1 (by decide) ?_
  refine gw_idiv (by decide) dX6_meet_3 ?_
  refine gw_istore2 dX6_meet_4 (by decide) rfl ?_
  refine gw_iload1 dX6_meet_5 ?_
  refine gw_if_lt (tgt := 30) dX6_meet_6 rfl (fun h1 => ?_) (fun h1 => ?_)
  · replace h := (if_pos h1).symm.trans h
    have hA := Option.some.inj h
    subst hA
    exact gw_vret dX6_meet_30 ⟨rfl, rfl⟩
  · replace h := (if_neg h1).symm.trans h
    refine gw_iload2 dX6_meet_9 ?_
    refine gw_aload0 dX6_meet_10 ?_
    refine gw_getR dX6_meet_11 fkX6_11 rfl rfl ?_
    refine gw_alen 256 dX6_meet_14 rfl rfl (by decide) ?_
    refine gw_icmp_ge (tgt := 30) dX6_meet_15 rfl (fun h2 => ?_) (fun h2 => ?_)
    · replace h := (if_pos h2).symm.trans h
      have hA := Option.some.inj h
      subst hA
      exact gw_vret dX6_meet_30 ⟨rfl, rfl⟩
    · replace h := (if_neg h2).symm.trans h
      refine gw_aload0 dX6_meet_18 ?_
      refine gw_getI dX6_meet_19 fkX6_19 rfl rfl ?_
      refine gw_aload0 dX6_meet_22 ?_
      refine gw_getR dX6_meet_23 fkX6_15 rfl rfl ?_
      refine gw_alen 630 dX6_meet_26 rfl rfl (by decide) ?_
      refine gw_icmp_lt (tgt := 31) dX6_meet_27 rfl (fun h3 => ?_) (fun h3 => ?_)
      · replace h := (if_pos h3).symm.trans h
        refine gw_lconst 1 dX6_meet_31 (by decide) ?_
        refine gw_iload1 dX6_meet_32 ?_
        refine gw_bipush 64 dX6_meet_33 (by decide) ?_
        refine gw_irem (by decide) dX6_meet_35 ?_
        refine gw_lshl dX6_meet_36 ?_
        refine gw_lstore3 dX6_meet_37 (by decide) rfl ?_
        refine gw_aload0 dX6_meet_38 ?_
        refine gw_getR dX6_meet_39 fkX6_11 rfl rfl ?_
        refine gw_iload2 dX6_meet_42 ?_
        by_cases h4 : ow_inn (x1 / 64) 256
        rotate_left
        · replace h := (if_neg h4).symm.trans h
          cases h
        replace h := (if_pos h4).symm.trans h
        refine gw_lald dX6_meet_43 rfl h4 ?_
        refine gw_lload3 dX6_meet_44 ?_
        refine gw_land dX6_meet_45 ?_
        refine gw_lconst 0 dX6_meet_46 (by decide) ?_
        refine gw_lcmp dX6_meet_47 ?_
        refine gw_if_ne (tgt := 81) dX6_meet_48 rfl (fun h5 => ?_) (fun h5 => ?_)
        · replace h := (if_neg h5).symm.trans h
          have hA := Option.some.inj h
          subst hA
          exact gw_vret dX6_meet_81 ⟨rfl, rfl⟩
        · replace h := (if_pos h5).symm.trans h
          refine gw_aload0 dX6_meet_51 ?_
          refine gw_getR dX6_meet_52 fkX6_11 rfl rfl ?_
          refine gw_iload2 dX6_meet_55 ?_
          refine gw_dup2 rfl rfl dX6_meet_56 ?_
          by_cases h6 : ow_inn (x1 / 64) 256
          rotate_left
          · replace h := (if_neg h6).symm.trans h
            cases h
          replace h := (if_pos h6).symm.trans h
          refine gw_lald dX6_meet_57 rfl h6 ?_
          refine gw_lload3 dX6_meet_58 ?_
          refine gw_lor dX6_meet_59 ?_
          by_cases h7 : ow_inn (x1 / 64) 256
          rotate_left
          · replace h := (if_neg h7).symm.trans h
            cases h
          replace h := (if_pos h7).symm.trans h
          refine gw_last dX6_meet_60 rfl h7 ?_
          refine gw_aload0 dX6_meet_61 ?_
          refine gw_getR dX6_meet_62 fkX6_15 rfl rfl ?_
          refine gw_aload0 dX6_meet_65 ?_
          refine gw_getI dX6_meet_66 fkX6_19 rfl rfl ?_
          refine gw_iload1 dX6_meet_69 ?_
          by_cases h8 : ow_inn ((ow_upL M 12 (x1 / 64).toNatClampNeg ((M.2 12 (x1 / 64).toNatClampNeg) ||| (1 <<< ((x1 - x1 / 64 * 64).toInt64 &&& 63)))).1 11 2) 630
          rotate_left
          · replace h := (if_neg h8).symm.trans h
            cases h
          replace h := (if_pos h8).symm.trans h
          refine gw_iast dX6_meet_70 rfl h8 ?_
          refine gw_aload0 dX6_meet_71 ?_
          refine gw_dup rfl dX6_meet_72 ?_
          refine gw_getI dX6_meet_73 fkX6_19 rfl rfl ?_
          refine gw_ic1 dX6_meet_76 ?_
          refine gw_iadd dX6_meet_77 ?_
          refine gw_putI dX6_meet_78 fkX6_19 fp6_2 rfl rfl ?_
          have hA := Option.some.inj h
          subst hA
          exact gw_vret dX6_meet_81 ⟨rfl, rfl⟩
      · replace h := (if_neg h3).symm.trans h
        have hA := Option.some.inj h
        subst hA
        exact gw_vret dX6_meet_30 ⟨rfl, rfl⟩

def fX6_turnedBy (x0 : Int32) (x1 : Int32) (x2 : Int32) : Option Int32 := some (((((x0 >>> ((2 * x1) &&& 31)) ^^^ (x0 >>> ((2 * x2) &&& 31))) &&& 3) <<< ((2 * x1) &&& 31)) ||| ((((x0 >>> ((2 * x1) &&& 31)) ^^^ (x0 >>> ((2 * x2) &&& 31))) &&& 3) <<< ((2 * x2) &&& 31)))
set_option maxRecDepth 100000 in
set_option maxHeartbeats 4000000 in
theorem ctX6_turnedBy (l : Launch) {x0 : Int32} {x1 : Int32} {x2 : Int32} {M : ow_M} {r : Int32}  (h : fX6_turnedBy x0 x1 x2 = some r) : ow_F l 0 yX6_turnedBy cX6_turnedBy 4 (some .int) [.int x0, .int x1, .int x2] M (some (.int r)) M := by
  unfold fX6_turnedBy at h
  refine ow_enterO (own := RX6) rfl (by decide +kernel) rfl (ls := [some (.int x0), some (.int x1), some (.int x2), none]) rfl ?_
  refine gw_iload0 dX6_turnedBy_0 ?_
  refine gw_ic2 dX6_turnedBy_1 ?_
  refine gw_iload1 dX6_turnedBy_2 ?_
  refine gw_imul dX6_turnedBy_3 ?_
  refine gw_ishr dX6_turnedBy_4 ?_
  refine gw_iload0 dX6_turnedBy_5 ?_
  refine gw_ic2 dX6_turnedBy_6 ?_
  refine gw_iload2 dX6_turnedBy_7 ?_
  refine gw_imul dX6_turnedBy_8 ?_
  refine gw_ishr dX6_turnedBy_9 ?_
  refine gw_ixor dX6_turnedBy_10 ?_
  refine gw_ic3 dX6_turnedBy_11 ?_
  refine gw_iand dX6_turnedBy_12 ?_
  refine gw_istore3 dX6_turnedBy_13 (by decide) rfl ?_
  refine gw_iload3 dX6_turnedBy_14 ?_
  refine gw_ic2 dX6_turnedBy_15 ?_
  refine gw_iload1 dX6_turnedBy_16 ?_
  refine gw_imul dX6_turnedBy_17 ?_
  refine gw_ishl dX6_turnedBy_18 ?_
  refine gw_iload3 dX6_turnedBy_19 ?_
  refine gw_ic2 dX6_turnedBy_20 ?_
  refine gw_iload2 dX6_turnedBy_21 ?_
  refine gw_imul dX6_turnedBy_22 ?_
  refine gw_ishl dX6_turnedBy_23 ?_
  refine gw_ior dX6_turnedBy_24 ?_
  have hA := Option.some.inj h
  subst hA
  exact gw_iret dX6_turnedBy_25 ⟨rfl, rfl⟩

def lpX6_goOnFrom_9 (x2 : Int32) (k : Int32 → ow_M → Option ow_M) : Nat → Int32 → ow_M → Option ow_M
  | 0, _, _ => none
  | n + 1, x3, M => (if (M.1 2 1) ≤ x3 then k x3 M else Option.bind (fX0_rightEnd x3 M) (fun v4 => Option.bind (fX6_turnedBy x2 x3 v4) (fun v6 => if ow_inn (1 <<< (x3 &&& 31)) 128 then lpX6_goOnFrom_9 x2 k n (x3 + 1) (ow_up M 15 (1 <<< (x3 &&& 31)).toNatClampNeg v6) else none)))
set_option maxRecDepth 100000 in
set_option maxHeartbeats 4000000 in
theorem tlpX6_goOnFrom_9 (l : Launch) {x2 : Int32} {k : Int32 → ow_M → Option ow_M} {M9 : ow_M}  (hk : ∀ (x3 : Int32) (M : ow_M), k x3 M = some M9 → ow_G (ow_Γ l 1 none (ow_is none M9)) RX6 cX6_goOnFrom 6 41 [some (.ref 11), some (.ref 2), some (.int x2), some (.int x3), none, none] [] M) : ∀ (n : Nat) (x3 : Int32) (M : ow_M), lpX6_goOnFrom_9 x2 k n x3 M = some M9 → ow_G (ow_Γ l 1 none (ow_is none M9)) RX6 cX6_goOnFrom 6 9 [some (.ref 11), some (.ref 2), some (.int x2), some (.int x3), none, none] [] M := by
  intro n
  induction n with
  | zero => intro _ _ h; cases h
  | succ n ih =>
    intro x3 M h
    unfold lpX6_goOnFrom_9 at h
    refine gw_iload3 dX6_goOnFrom_9 ?_
    refine gw_aload1 dX6_goOnFrom_10 ?_
    refine gw_getI dX6_goOnFrom_11 fkX6_65 rfl rfl ?_
    refine gw_icmp_ge (tgt := 41) dX6_goOnFrom_14 rfl (fun h2 => ?_) (fun h2 => ?_)
    · replace h := (if_pos h2).symm.trans h
      exact hk _ _ h
    · replace h := (if_neg h2).symm.trans h
      refine gw_aload0 dX6_goOnFrom_17 ?_
      refine gw_getR dX6_goOnFrom_18 fkX6_29 rfl rfl ?_
      refine gw_ic1 dX6_goOnFrom_21 ?_
      refine gw_iload3 dX6_goOnFrom_22 ?_
      refine gw_ishl dX6_goOnFrom_23 ?_
      refine gw_iload2 dX6_goOnFrom_24 ?_
      refine gw_iload3 dX6_goOnFrom_25 ?_
      refine gw_aload1 dX6_goOnFrom_26 ?_
      refine gw_iload3 dX6_goOnFrom_27 ?_
      obtain ⟨v4, hc3, h⟩ := ow_b_some h
      refine gw_cVI1 dX6_goOnFrom_28 lkX6_72 mkX0_rightEnd (ow_rm_in rfl rfl) rfl rfl (ctX0_rightEnd l hc3) rfl ?_
      obtain ⟨v6, hc5, h⟩ := ow_b_some h
      refine gw_cSI3 dX6_goOnFrom_31 lkX6_80 mkX6_turnedBy (ow_rm_in rfl rfl) (ctX6_turnedBy l hc5) rfl ?_
      by_cases h7 : ow_inn (1 <<< (x3 &&& 31)) 128
      rotate_left
      · replace h := (if_neg h7).symm.trans h
        cases h
      replace h := (if_pos h7).symm.trans h
      refine gw_iast dX6_goOnFrom_34 rfl h7 ?_
      refine gw_iinc3 1 dX6_goOnFrom_35 (by decide) rfl (by decide) ?_
      refine gw_goto (tgt := 9) rfl dX6_goOnFrom_38 ?_
      exact ih _ _ h

def jX6_goOnFrom_107 (x2 : Int32) (x3 : Int32) (x4 : Int32) (kb : Int32 → ow_M → Option ow_M) (k : Int32 → ow_M → Option ow_M) (M : ow_M) : Option ow_M := if ow_inn x4 128 then Option.bind (fX6_meet (x2 ^^^ (M.1 15 x4.toNatClampNeg)) M) (fun M17 => kb (x3 + 1) M17) else none
set_option maxRecDepth 100000 in
set_option maxHeartbeats 4000000 in
theorem tjX6_goOnFrom_107 (l : Launch) {x2 : Int32} {x3 : Int32} {x4 : Int32} {kb : Int32 → ow_M → Option ow_M} {k : Int32 → ow_M → Option ow_M} {M : ow_M} {M9 : ow_M}  (hkb : ∀ (z3 : Int32) (Mz : ow_M), kb z3 Mz = some M9 → ow_G (ow_Γ l 1 none (ow_is none M9)) RX6 cX6_goOnFrom 6 43 [some (.ref 11), none, some (.int x2), some (.int z3), none, none] [] Mz) (hk : ∀ (z3 : Int32) (Mz : ow_M), k z3 Mz = some M9 → ow_G (ow_Γ l 1 none (ow_is none M9)) RX6 cX6_goOnFrom 6 126 [some (.ref 11), none, some (.int x2), some (.int z3), none, none] [] Mz) (h : jX6_goOnFrom_107 x2 x3 x4 kb k M = some M9) : ow_G (ow_Γ l 1 none (ow_is none M9)) RX6 cX6_goOnFrom 6 107 [some (.ref 11), none, some (.int x2), some (.int x3), some (.int x4), none] [] M := by
  unfold jX6_goOnFrom_107 at h
  refine gw_aload0 dX6_goOnFrom_107 ?_
  refine gw_iload2 dX6_goOnFrom_108 ?_
  refine gw_aload0 dX6_goOnFrom_109 ?_
  refine gw_getR dX6_goOnFrom_110 fkX6_29 rfl rfl ?_
  refine gw_iload4 dX6_goOnFrom_113 ?_
  by_cases h14 : ow_inn x4 128
  rotate_left
  · replace h := (if_neg h14).symm.trans h
    cases h
  replace h := (if_pos h14).symm.trans h
  refine gw_iald dX6_goOnFrom_115 rfl h14 ?_
  refine gw_ixor dX6_goOnFrom_116 ?_
  obtain ⟨M17, hc15, h⟩ := ow_b_some h
  refine gw_cVV1 dX6_goOnFrom_117 lkX6_57 mkX6_meet (ow_rm_in rfl rfl) rfl rfl (ctX6_meet l hc15) rfl ?_
  refine gw_iinc3 1 dX6_goOnFrom_120 (by decide) rfl (by decide) ?_
  refine gw_goto (tgt := 43) rfl dX6_goOnFrom_123 ?_
  refine gw_drp4 ?_
  exact hkb _ _ h

def lpX6_goOnFrom_43 (x2 : Int32) (k : Int32 → ow_M → Option ow_M) : Nat → Int32 → ow_M → Option ow_M
  | 0, _, _ => none
  | n + 1, x3, M => (if (M.1 11 4) ≤ x3 then k x3 M else (if 128 ≤ x3 then k x3 M else if ow_inn x3 128 then (if ((M.1 14 x3.toNatClampNeg) &&& ((M.1 14 x3.toNatClampNeg) - 1)) = 0 then jX6_goOnFrom_107 x2 x3 (M.1 14 x3.toNatClampNeg) (lpX6_goOnFrom_43 x2 k n) k M else if ow_inn ((M.1 14 x3.toNatClampNeg) &&& ((M.1 14 x3.toNatClampNeg) - 1)) 128 then if ow_inn ((M.1 14 x3.toNatClampNeg) ^^^ ((M.1 14 x3.toNatClampNeg) &&& ((M.1 14 x3.toNatClampNeg) - 1))) 128 then if ow_inn (M.1 14 x3.toNatClampNeg) 128 then jX6_goOnFrom_107 x2 x3 (M.1 14 x3.toNatClampNeg) (lpX6_goOnFrom_43 x2 k n) k (ow_up M 15 (M.1 14 x3.toNatClampNeg).toNatClampNeg ((M.1 15 ((M.1 14 x3.toNatClampNeg) &&& ((M.1 14 x3.toNatClampNeg) - 1)).toNatClampNeg) ^^^ (M.1 15 ((M.1 14 x3.toNatClampNeg) ^^^ ((M.1 14 x3.toNatClampNeg) &&& ((M.1 14 x3.toNatClampNeg) - 1))).toNatClampNeg))) else none else none else none) else none))
set_option maxRecDepth 100000 in
set_option maxHeartbeats 4000000 in
theorem tlpX6_goOnFrom_43 (l : Launch) {x2 : Int32} {k : Int32 → ow_M → Option ow_M} {M9 : ow_M}  (hk : ∀ (x3 : Int32) (M : ow_M), k x3 M = some M9 → ow_G (ow_Γ l 1 none (ow_is none M9)) RX6 cX6_goOnFrom 6 126 [some (.ref 11), none, some (.int x2), some (.int x3), none, none] [] M) : ∀ (n : Nat) (x3 : Int32) (M : ow_M), lpX6_goOnFrom_43 x2 k n x3 M = some M9 → ow_G (ow_Γ l 1 none (ow_is none M9)) RX6 cX6_goOnFrom 6 43 [some (.ref 11), none, some (.int x2), some (.int x3), none, none] [] M := by
  intro n
  induction n with
  | zero => intro _ _ h; cases h
  | succ n ih =>
    intro x3 M h
    unfold lpX6_goOnFrom_43 at h
    refine gw_iload3 dX6_goOnFrom_43 ?_
    refine gw_aload0 dX6_goOnFrom_44 ?_
    refine gw_getI dX6_goOnFrom_45 fkX6_26 rfl rfl ?_
    refine gw_icmp_ge (tgt := 126) dX6_goOnFrom_48 rfl (fun h10 => ?_) (fun h10 => ?_)
    · replace h := (if_pos h10).symm.trans h
      exact hk _ _ h
    · replace h := (if_neg h10).symm.trans h
      refine gw_iload3 dX6_goOnFrom_51 ?_
      refine gw_aload0 dX6_goOnFrom_52 ?_
      refine gw_getR dX6_goOnFrom_53 fkX6_23 rfl rfl ?_
      refine gw_alen 128 dX6_goOnFrom_56 rfl rfl (by decide) ?_
      refine gw_icmp_ge (tgt := 126) dX6_goOnFrom_57 rfl (fun h11 => ?_) (fun h11 => ?_)
      · replace h := (if_pos h11).symm.trans h
        exact hk _ _ h
      · replace h := (if_neg h11).symm.trans h
        refine gw_aload0 dX6_goOnFrom_60 ?_
        refine gw_getR dX6_goOnFrom_61 fkX6_23 rfl rfl ?_
        refine gw_iload3 dX6_goOnFrom_64 ?_
        by_cases h12 : ow_inn x3 128
        rotate_left
        · replace h := (if_neg h12).symm.trans h
          cases h
        replace h := (if_pos h12).symm.trans h
        refine gw_iald dX6_goOnFrom_65 rfl h12 ?_
        refine gw_istore4 dX6_goOnFrom_66 (by decide) rfl ?_
        refine gw_iload4 dX6_goOnFrom_68 ?_
        refine gw_iload4 dX6_goOnFrom_70 ?_
        refine gw_ic1 dX6_goOnFrom_72 ?_
        refine gw_isub dX6_goOnFrom_73 ?_
        refine gw_iand dX6_goOnFrom_74 ?_
        refine gw_istore5 dX6_goOnFrom_75 (by decide) rfl ?_
        refine gw_iload5 dX6_goOnFrom_77 ?_
        refine gw_if_eq (tgt := 107) dX6_goOnFrom_79 rfl (fun h13 => ?_) (fun h13 => ?_)
        · replace h := (if_pos h13).symm.trans h
          refine gw_drp5 ?_
          exact tjX6_goOnFrom_107 l ih hk h
        · replace h := (if_neg h13).symm.trans h
          refine gw_aload0 dX6_goOnFrom_82 ?_
          refine gw_getR dX6_goOnFrom_83 fkX6_29 rfl rfl ?_
          refine gw_iload4 dX6_goOnFrom_86 ?_
          refine gw_aload0 dX6_goOnFrom_88 ?_
          refine gw_getR dX6_goOnFrom_89 fkX6_29 rfl rfl ?_
          refine gw_iload5 dX6_goOnFrom_92 ?_
          by_cases h18 : ow_inn ((M.1 14 x3.toNatClampNeg) &&& ((M.1 14 x3.toNatClampNeg) - 1)) 128
          rotate_left
          · replace h := (if_neg h18).symm.trans h
            cases h
          replace h := (if_pos h18).symm.trans h
          refine gw_iald dX6_goOnFrom_94 rfl h18 ?_
          refine gw_aload0 dX6_goOnFrom_95 ?_
          refine gw_getR dX6_goOnFrom_96 fkX6_29 rfl rfl ?_
          refine gw_iload4 dX6_goOnFrom_99 ?_
          refine gw_iload5 dX6_goOnFrom_101 ?_
          refine gw_ixor dX6_goOnFrom_103 ?_
          by_cases h19 : ow_inn ((M.1 14 x3.toNatClampNeg) ^^^ ((M.1 14 x3.toNatClampNeg) &&& ((M.1 14 x3.toNatClampNeg) - 1))) 128
          rotate_left
          · replace h := (if_neg h19).symm.trans h
            cases h
          replace h := (if_pos h19).symm.trans h
          refine gw_iald dX6_goOnFrom_104 rfl h19 ?_
          refine gw_ixor dX6_goOnFrom_105 ?_
          by_cases h20 : ow_inn (M.1 14 x3.toNatClampNeg) 128
          rotate_left
          · replace h := (if_neg h20).symm.trans h
            cases h
          replace h := (if_pos h20).symm.trans h
          refine gw_iast dX6_goOnFrom_106 rfl h20 ?_
          refine gw_drp5 ?_
          exact tjX6_goOnFrom_107 l ih hk h

def fX6_goOnFrom (x2 : Int32) (M : ow_M) : Option ow_M := if ow_inn 0 128 then lpX6_goOnFrom_9 x2 (fun u8 M9 => lpX6_goOnFrom_43 x2 (fun u21 M22 => some M22) ow_N 0 M9) ow_N 0 (ow_up M 15 (0 : Int32).toNatClampNeg 0) else none
set_option maxRecDepth 100000 in
set_option maxHeartbeats 4000000 in
theorem ctX6_goOnFrom (l : Launch) {x2 : Int32} {M : ow_M} {M9 : ow_M}  (h : fX6_goOnFrom x2 M = some M9) : ow_F l 1 yX6_goOnFrom cX6_goOnFrom 6 none [.ref 11, .ref 2, .int x2] M none M9 := by
  unfold fX6_goOnFrom at h
  refine ow_enterO (own := RX6) rfl (by decide +kernel) rfl (ls := [some (.ref 11), some (.ref 2), some (.int x2), none, none, none]) rfl ?_
  refine gw_aload0 dX6_goOnFrom_0 ?_
  refine gw_getR dX6_goOnFrom_1 fkX6_29 rfl rfl ?_
  refine gw_ic0 dX6_goOnFrom_4 ?_
  refine gw_ic0 dX6_goOnFrom_5 ?_
  by_cases h1 : ow_inn 0 128
  rotate_left
  · replace h := (if_neg h1).symm.trans h
    cases h
  replace h := (if_pos h1).symm.trans h
  refine gw_iast dX6_goOnFrom_6 rfl h1 ?_
  refine gw_ic0 dX6_goOnFrom_7 ?_
  refine gw_istore3 dX6_goOnFrom_8 (by decide) rfl ?_
  refine tlpX6_goOnFrom_9 l ?_ _ _ _ h
  intro u8 M9 h
  refine gw_ic0 dX6_goOnFrom_41 ?_
  refine gw_istore3 dX6_goOnFrom_42 (by decide) rfl ?_
  refine gw_drp1 ?_
  refine tlpX6_goOnFrom_43 l ?_ _ _ _ h
  intro u21 M22 h
  have hA := Option.some.inj h
  subst hA
  exact gw_vret dX6_goOnFrom_126 ⟨rfl, rfl⟩

def lpX6_leastSteps_75 (x3 : Int32) (x5 : Int32) (x6 : Int32) (k : Int32 → ow_M → Option (Int32 × ow_M)) : Nat → Int32 → ow_M → Option (Int32 × ow_M)
  | 0, _, _ => none
  | n + 1, x4, M => (if x6 ≤ x4 then k x4 M else if ow_inn x4 630 then (if (M.1 13 x4.toNatClampNeg) = x3 then some (x5, M) else if ow_inn x4 630 then Option.bind (fX6_goOnFrom (M.1 13 x4.toNatClampNeg) M) (fun M22 => lpX6_leastSteps_75 x3 x5 x6 k n (x4 + 1) M22) else none) else none)
set_option maxRecDepth 100000 in
set_option maxHeartbeats 4000000 in
theorem tlpX6_leastSteps_75 (l : Launch) {x3 : Int32} {x5 : Int32} {x6 : Int32} {k : Int32 → ow_M → Option (Int32 × ow_M)} {r : Int32} {M9 : ow_M}  (hk : ∀ (x4 : Int32) (M : ow_M), k x4 M = some (r, M9) → ow_G (ow_Γ l 4 (some .int) (ow_is (some (.int r)) M9)) RX6 cX6_leastSteps 7 114 [some (.ref 11), some (.ref 2), none, some (.int x3), some (.int x4), some (.int x5), some (.int x6)] [] M) : ∀ (n : Nat) (x4 : Int32) (M : ow_M), lpX6_leastSteps_75 x3 x5 x6 k n x4 M = some (r, M9) → ow_G (ow_Γ l 4 (some .int) (ow_is (some (.int r)) M9)) RX6 cX6_leastSteps 7 75 [some (.ref 11), some (.ref 2), none, some (.int x3), some (.int x4), some (.int x5), some (.int x6)] [] M := by
  intro n
  induction n with
  | zero => intro _ _ h; cases h
  | succ n ih =>
    intro x4 M h
    unfold lpX6_leastSteps_75 at h
    refine gw_iload4 dX6_leastSteps_75 ?_
    refine gw_iload6 dX6_leastSteps_77 ?_
    refine gw_icmp_ge (tgt := 114) dX6_leastSteps_79 rfl (fun h16 => ?_) (fun h16 => ?_)
    · replace h := (if_pos h16).symm.trans h
      exact hk _ _ h
    · replace h := (if_neg h16).symm.trans h
      refine gw_aload0 dX6_leastSteps_82 ?_
      refine gw_getR dX6_leastSteps_83 fkX6_15 rfl rfl ?_
      refine gw_iload4 dX6_leastSteps_86 ?_
      by_cases h17 : ow_inn x4 630
      rotate_left
      · replace h := (if_neg h17).symm.trans h
        cases h
      replace h := (if_pos h17).symm.trans h
      refine gw_iald dX6_leastSteps_88 rfl h17 ?_
      refine gw_iload3 dX6_leastSteps_89 ?_
      refine gw_icmp_ne (tgt := 96) dX6_leastSteps_90 rfl (fun h18 => ?_) (fun h18 => ?_)
      · replace h := (if_neg h18).symm.trans h
        refine gw_aload0 dX6_leastSteps_96 ?_
        refine gw_aload1 dX6_leastSteps_97 ?_
        refine gw_aload0 dX6_leastSteps_98 ?_
        refine gw_getR dX6_leastSteps_99 fkX6_15 rfl rfl ?_
        refine gw_iload4 dX6_leastSteps_102 ?_
        by_cases h19 : ow_inn x4 630
        rotate_left
        · replace h := (if_neg h19).symm.trans h
          cases h
        replace h := (if_pos h19).symm.trans h
        refine gw_iald dX6_leastSteps_104 rfl h19 ?_
        obtain ⟨M22, hc20, h⟩ := ow_b_some h
        refine gw_cVV2 dX6_leastSteps_105 lkX6_61 mkX6_goOnFrom (ow_rm_in rfl rfl) rfl rfl (ctX6_goOnFrom l hc20) rfl ?_
        refine gw_iinc4 1 dX6_leastSteps_108 (by decide) rfl (by decide) ?_
        refine gw_goto (tgt := 75) rfl dX6_leastSteps_111 ?_
        exact ih _ _ h
      · replace h := (if_pos h18).symm.trans h
        refine gw_iload5 dX6_leastSteps_93 ?_
        obtain ⟨hA, hB⟩ := Prod.mk.inj (Option.some.inj h)
        subst hA
        subst hB
        exact gw_iret dX6_leastSteps_95 ⟨rfl, rfl⟩

def lpX6_leastSteps_52 (x3 : Int32) (k : Int32 → Int32 → ow_M → Option (Int32 × ow_M)) : Nat → Int32 → Int32 → ow_M → Option (Int32 × ow_M)
  | 0, _, _, _ => none
  | n + 1, x4, x5, M => (if 630 ≤ x5 then k x4 x5 M else (if (M.1 11 2) ≤ x4 then k x4 x5 M else lpX6_leastSteps_75 x3 x5 (M.1 11 2) (fun u23 M24 => lpX6_leastSteps_52 x3 k n u23 (x5 + 1) M24) ow_N x4 M))
set_option maxRecDepth 100000 in
set_option maxHeartbeats 4000000 in
theorem tlpX6_leastSteps_52 (l : Launch) {x3 : Int32} {k : Int32 → Int32 → ow_M → Option (Int32 × ow_M)} {r : Int32} {M9 : ow_M}  (hk : ∀ (x4 : Int32) (x5 : Int32) (M : ow_M), k x4 x5 M = some (r, M9) → ow_G (ow_Γ l 4 (some .int) (ow_is (some (.int r)) M9)) RX6 cX6_leastSteps 7 120 [some (.ref 11), some (.ref 2), none, some (.int x3), some (.int x4), some (.int x5), none] [] M) : ∀ (n : Nat) (x4 : Int32) (x5 : Int32) (M : ow_M), lpX6_leastSteps_52 x3 k n x4 x5 M = some (r, M9) → ow_G (ow_Γ l 4 (some .int) (ow_is (some (.int r)) M9)) RX6 cX6_leastSteps 7 52 [some (.ref 11), some (.ref 2), none, some (.int x3), some (.int x4), some (.int x5), none] [] M := by
  intro n
  induction n with
  | zero => intro _ _ _ h; cases h
  | succ n ih =>
    intro x4 x5 M h
    unfold lpX6_leastSteps_52 at h
    refine gw_iload5 dX6_leastSteps_52 ?_
    refine gw_sipush 630 dX6_leastSteps_54 (by decide) ?_
    refine gw_icmp_ge (tgt := 120) dX6_leastSteps_57 rfl (fun h14 => ?_) (fun h14 => ?_)
    · replace h := (if_pos h14).symm.trans h
      exact hk _ _ _ h
    · replace h := (if_neg h14).symm.trans h
      refine gw_iload4 dX6_leastSteps_60 ?_
      refine gw_aload0 dX6_leastSteps_62 ?_
      refine gw_getI dX6_leastSteps_63 fkX6_19 rfl rfl ?_
      refine gw_icmp_ge (tgt := 120) dX6_leastSteps_66 rfl (fun h15 => ?_) (fun h15 => ?_)
      · replace h := (if_pos h15).symm.trans h
        exact hk _ _ _ h
      · replace h := (if_neg h15).symm.trans h
        refine gw_aload0 dX6_leastSteps_69 ?_
        refine gw_getI dX6_leastSteps_70 fkX6_19 rfl rfl ?_
        refine gw_istore6 dX6_leastSteps_73 (by decide) rfl ?_
        refine tlpX6_leastSteps_75 l ?_ _ _ _ h
        intro u23 M24 h
        refine gw_iinc5 1 dX6_leastSteps_114 (by decide) rfl (by decide) ?_
        refine gw_goto (tgt := 52) rfl dX6_leastSteps_117 ?_
        refine gw_drp6 ?_
        exact ih _ _ _ h

def fX6_leastSteps (x2 : Int32) (M : ow_M) : Option (Int32 × ow_M) := Option.bind (fX6_held 6 (M.1 2 0) M) (fun v2 => Option.bind (fX6_gatherSteps x2 M) (fun M5 => Option.bind (fJ7_fill_d0a16 0 M5) (fun M8 => Option.bind (fX6_held 5 ((ow_up M8 11 2 0).1 2 0) (ow_up M8 11 2 0)) (fun v10 => Option.bind (fX6_meet v10 (ow_up M8 11 2 0)) (fun M13 => lpX6_leastSteps_52 v2 (fun u25 u26 M27 => some ((-9), M27)) ow_N 0 0 M13)))))
set_option maxRecDepth 100000 in
set_option maxHeartbeats 4000000 in
theorem ctX6_leastSteps (l : Launch) {x2 : Int32} {M : ow_M} {r : Int32} {M9 : ow_M}  (h : fX6_leastSteps x2 M = some (r, M9)) : ow_F l 4 yX6_leastSteps cX6_leastSteps 7 (some .int) [.ref 11, .ref 2, .int x2] M (some (.int r)) M9 := by
  unfold fX6_leastSteps at h
  refine ow_enterO (own := RX6) rfl (by decide +kernel) rfl (ls := [some (.ref 11), some (.ref 2), some (.int x2), none, none, none, none]) rfl ?_
  refine gw_aload1 dX6_leastSteps_0 ?_
  refine gw_getR dX6_leastSteps_1 fkX6_32 rfl rfl ?_
  refine gw_aload1 dX6_leastSteps_4 ?_
  refine gw_getI dX6_leastSteps_5 fkX6_37 rfl rfl ?_
  obtain ⟨v2, hc1, h⟩ := ow_b_some h
  refine gw_cSI2 dX6_leastSteps_8 lkX6_40 mkX6_held (ow_rm_in rfl rfl) (ctX6_held l rfl hc1) rfl ?_
  refine gw_istore3 dX6_leastSteps_11 (by decide) rfl ?_
  refine gw_aload0 dX6_leastSteps_12 ?_
  refine gw_aload1 dX6_leastSteps_13 ?_
  refine gw_iload2 dX6_leastSteps_14 ?_
  obtain ⟨M5, hc3, h⟩ := ow_b_some h
  refine gw_cVV2 dX6_leastSteps_15 lkX6_44 mkX6_gatherSteps (ow_rm_in rfl rfl) rfl rfl (ctX6_gatherSteps l hc3) rfl ?_
  refine gw_aload0 dX6_leastSteps_18 ?_
  refine gw_getR dX6_leastSteps_19 fkX6_11 rfl rfl ?_
  refine gw_lconst 0 dX6_leastSteps_22 (by decide) ?_
  obtain ⟨M8, hc6, h⟩ := ow_b_some h
  refine gw_cSV2 dX6_leastSteps_23 lkX6_48 mkJ7_fill_d0a16 (ow_rm_in rfl rfl) (ctJ7_fill_d0a16 l hc6) rfl ?_
  refine gw_aload0 dX6_leastSteps_26 ?_
  refine gw_ic0 dX6_leastSteps_27 ?_
  refine gw_putI dX6_leastSteps_28 fkX6_19 fp6_2 rfl rfl ?_
  refine gw_aload0 dX6_leastSteps_31 ?_
  refine gw_aload1 dX6_leastSteps_32 ?_
  refine gw_getR dX6_leastSteps_33 fkX6_54 rfl rfl ?_
  refine gw_aload1 dX6_leastSteps_36 ?_
  refine gw_getI dX6_leastSteps_37 fkX6_37 rfl rfl ?_
  obtain ⟨v10, hc9, h⟩ := ow_b_some h
  refine gw_cSI2 dX6_leastSteps_40 lkX6_40 mkX6_held (ow_rm_in rfl rfl) (ctX6_held l rfl hc9) rfl ?_
  obtain ⟨M13, hc11, h⟩ := ow_b_some h
  refine gw_cVV1 dX6_leastSteps_43 lkX6_57 mkX6_meet (ow_rm_in rfl rfl) rfl rfl (ctX6_meet l hc11) rfl ?_
  refine gw_ic0 dX6_leastSteps_46 ?_
  refine gw_istore4 dX6_leastSteps_47 (by decide) rfl ?_
  refine gw_ic0 dX6_leastSteps_49 ?_
  refine gw_istore5 dX6_leastSteps_50 (by decide) rfl ?_
  refine gw_drp2 ?_
  refine tlpX6_leastSteps_52 l ?_ _ _ _ _ h
  intro u25 u26 M27 h
  refine gw_bipush (-9) dX6_leastSteps_120 (by decide) ?_
  obtain ⟨hA, hB⟩ := Prod.mk.inj (Option.some.inj h)
  subst hA
  subst hB
  exact gw_iret dX6_leastSteps_122 ⟨rfl, rfl⟩

def jX6_mustGoOver_51 (x2 : Int32) (x3 : Int32) (x4 : Int32) (x6 : Int32) (s0 : Int32) (s1 : Int32) (kb : Int32 → Int32 → Option Int32) (k : Int32 → Int32 → Option Int32) (M : ow_M) : Option Int32 := if ow_inn x6 7 then (if (M.1 6 x6.toNatClampNeg) = x4 then kb ((s0 + s1) - 1) (x6 + 1) else kb ((s0 + s1) - 0) (x6 + 1)) else none
set_option maxRecDepth 100000 in
set_option maxHeartbeats 4000000 in
theorem tjX6_mustGoOver_51 (l : Launch) {x2 : Int32} {x3 : Int32} {x4 : Int32} {x6 : Int32} {s0 : Int32} {s1 : Int32} {kb : Int32 → Int32 → Option Int32} {k : Int32 → Int32 → Option Int32} {M : ow_M} {r : Int32}  (hkb : ∀ (z5 : Int32) (z6 : Int32), kb z5 z6 = some r → ow_G (ow_Γ l 1 (some .int) (ow_is (some (.int r)) M)) RX6 cX6_mustGoOver 7 17 [none, some (.ref 2), some (.int x2), some (.int x3), some (.int x4), some (.int z5), some (.int z6)] [] M) (hk : ∀ (z5 : Int32) (z6 : Int32), k z5 z6 = some r → ow_G (ow_Γ l 1 (some .int) (ow_is (some (.int r)) M)) RX6 cX6_mustGoOver 7 82 [none, some (.ref 2), some (.int x2), some (.int x3), some (.int x4), some (.int z5), some (.int z6)] [] M) (h : jX6_mustGoOver_51 x2 x3 x4 x6 s0 s1 kb k M = some r) : ow_G (ow_Γ l 1 (some .int) (ow_is (some (.int r)) M)) RX6 cX6_mustGoOver 7 51 [none, some (.ref 2), some (.int x2), some (.int x3), some (.int x4), none, some (.int x6)] [.int s1, .int s0] M := by
  unfold jX6_mustGoOver_51 at h
  refine gw_iadd dX6_mustGoOver_51 ?_
  refine gw_istore5 dX6_mustGoOver_52 (by decide) rfl ?_
  refine gw_iload5 dX6_mustGoOver_54 ?_
  refine gw_aload1 dX6_mustGoOver_56 ?_
  refine gw_getR dX6_mustGoOver_57 fkX6_32 rfl rfl ?_
  refine gw_iload6 dX6_mustGoOver_60 ?_
  by_cases h6 : ow_inn x6 7
  rotate_left
  · replace h := (if_neg h6).symm.trans h
    cases h
  replace h := (if_pos h6).symm.trans h
  refine gw_iald dX6_mustGoOver_62 rfl h6 ?_
  refine gw_iload4 dX6_mustGoOver_63 ?_
  refine gw_icmp_ne (tgt := 72) dX6_mustGoOver_65 rfl (fun h7 => ?_) (fun h7 => ?_)
  · replace h := (if_neg h7).symm.trans h
    refine gw_ic0 dX6_mustGoOver_72 ?_
    refine gw_isub dX6_mustGoOver_73 ?_
    refine gw_istore5 dX6_mustGoOver_74 (by decide) rfl ?_
    refine gw_iinc6 1 dX6_mustGoOver_76 (by decide) rfl (by decide) ?_
    refine gw_goto (tgt := 17) rfl dX6_mustGoOver_79 ?_
    exact hkb _ _ h
  · replace h := (if_pos h7).symm.trans h
    refine gw_ic1 dX6_mustGoOver_68 ?_
    refine gw_goto (tgt := 73) rfl dX6_mustGoOver_69 ?_
    refine gw_isub dX6_mustGoOver_73 ?_
    refine gw_istore5 dX6_mustGoOver_74 (by decide) rfl ?_
    refine gw_iinc6 1 dX6_mustGoOver_76 (by decide) rfl (by decide) ?_
    refine gw_goto (tgt := 17) rfl dX6_mustGoOver_79 ?_
    exact hkb _ _ h

def lpX6_mustGoOver_17 (x2 : Int32) (x3 : Int32) (x4 : Int32) (M : ow_M) (k : Int32 → Int32 → Option Int32) : Nat → Int32 → Int32 → Option Int32
  | 0, _, _ => none
  | n + 1, x5, x6 => (if x2 < x6 then k x5 x6 else (if (M.1 2 0) ≤ x6 then k x5 x6 else if ow_inn x6 7 then (if (M.1 5 x6.toNatClampNeg) = x4 then jX6_mustGoOver_51 x2 x3 x4 x6 x5 1 (lpX6_mustGoOver_17 x2 x3 x4 M k n) k M else jX6_mustGoOver_51 x2 x3 x4 x6 x5 0 (lpX6_mustGoOver_17 x2 x3 x4 M k n) k M) else none))
set_option maxRecDepth 100000 in
set_option maxHeartbeats 4000000 in
theorem tlpX6_mustGoOver_17 (l : Launch) {x2 : Int32} {x3 : Int32} {x4 : Int32} {M : ow_M} {k : Int32 → Int32 → Option Int32} {r : Int32}  (hk : ∀ (x5 : Int32) (x6 : Int32), k x5 x6 = some r → ow_G (ow_Γ l 1 (some .int) (ow_is (some (.int r)) M)) RX6 cX6_mustGoOver 7 82 [none, some (.ref 2), some (.int x2), some (.int x3), some (.int x4), some (.int x5), some (.int x6)] [] M) : ∀ (n : Nat) (x5 : Int32) (x6 : Int32), lpX6_mustGoOver_17 x2 x3 x4 M k n x5 x6 = some r → ow_G (ow_Γ l 1 (some .int) (ow_is (some (.int r)) M)) RX6 cX6_mustGoOver 7 17 [none, some (.ref 2), some (.int x2), some (.int x3), some (.int x4), some (.int x5), some (.int x6)] [] M := by
  intro n
  induction n with
  | zero => intro _ _ h; cases h
  | succ n ih =>
    intro x5 x6 h
    unfold lpX6_mustGoOver_17 at h
    refine gw_iload6 dX6_mustGoOver_17 ?_
    refine gw_iload2 dX6_mustGoOver_19 ?_
    refine gw_icmp_gt (tgt := 82) dX6_mustGoOver_20 rfl (fun h2 => ?_) (fun h2 => ?_)
    · replace h := (if_pos h2).symm.trans h
      exact hk _ _ h
    · replace h := (if_neg h2).symm.trans h
      refine gw_iload6 dX6_mustGoOver_23 ?_
      refine gw_aload1 dX6_mustGoOver_25 ?_
      refine gw_getI dX6_mustGoOver_26 fkX6_37 rfl rfl ?_
      refine gw_icmp_ge (tgt := 82) dX6_mustGoOver_29 rfl (fun h3 => ?_) (fun h3 => ?_)
      · replace h := (if_pos h3).symm.trans h
        exact hk _ _ h
      · replace h := (if_neg h3).symm.trans h
        refine gw_iload5 dX6_mustGoOver_32 ?_
        refine gw_aload1 dX6_mustGoOver_34 ?_
        refine gw_getR dX6_mustGoOver_35 fkX6_54 rfl rfl ?_
        refine gw_iload6 dX6_mustGoOver_38 ?_
        by_cases h4 : ow_inn x6 7
        rotate_left
        · replace h := (if_neg h4).symm.trans h
          cases h
        replace h := (if_pos h4).symm.trans h
        refine gw_iald dX6_mustGoOver_40 rfl h4 ?_
        refine gw_iload4 dX6_mustGoOver_41 ?_
        refine gw_icmp_ne (tgt := 50) dX6_mustGoOver_43 rfl (fun h5 => ?_) (fun h5 => ?_)
        · replace h := (if_neg h5).symm.trans h
          refine gw_ic0 dX6_mustGoOver_50 ?_
          refine gw_drp5 ?_
          exact tjX6_mustGoOver_51 l ih hk h
        · replace h := (if_pos h5).symm.trans h
          refine gw_ic1 dX6_mustGoOver_46 ?_
          refine gw_goto (tgt := 51) rfl dX6_mustGoOver_47 ?_
          refine gw_drp5 ?_
          exact tjX6_mustGoOver_51 l ih hk h

def lpX6_mustGoOver_5 (x2 : Int32) (M : ow_M) (k : Int32 → Int32 → Option Int32) : Nat → Int32 → Int32 → Option Int32
  | 0, _, _ => none
  | n + 1, x3, x4 => (if 4 ≤ x4 then k x3 x4 else lpX6_mustGoOver_17 x2 x3 x4 M (fun u8 u9 => lpX6_mustGoOver_5 x2 M k n (x3 + (if u8 < 0 then 0 else u8)) (x4 + 1)) ow_N 0 0)
set_option maxRecDepth 100000 in
set_option maxHeartbeats 4000000 in
theorem tlpX6_mustGoOver_5 (l : Launch) {x2 : Int32} {M : ow_M} {k : Int32 → Int32 → Option Int32} {r : Int32}  (hk : ∀ (x3 : Int32) (x4 : Int32), k x3 x4 = some r → ow_G (ow_Γ l 1 (some .int) (ow_is (some (.int r)) M)) RX6 cX6_mustGoOver 7 97 [none, some (.ref 2), some (.int x2), some (.int x3), some (.int x4), none, none] [] M) : ∀ (n : Nat) (x3 : Int32) (x4 : Int32), lpX6_mustGoOver_5 x2 M k n x3 x4 = some r → ow_G (ow_Γ l 1 (some .int) (ow_is (some (.int r)) M)) RX6 cX6_mustGoOver 7 5 [none, some (.ref 2), some (.int x2), some (.int x3), some (.int x4), none, none] [] M := by
  intro n
  induction n with
  | zero => intro _ _ h; cases h
  | succ n ih =>
    intro x3 x4 h
    unfold lpX6_mustGoOver_5 at h
    refine gw_iload4 dX6_mustGoOver_5 ?_
    refine gw_ic4 dX6_mustGoOver_7 ?_
    refine gw_icmp_ge (tgt := 97) dX6_mustGoOver_8 rfl (fun h1 => ?_) (fun h1 => ?_)
    · replace h := (if_pos h1).symm.trans h
      exact hk _ _ h
    · replace h := (if_neg h1).symm.trans h
      refine gw_ic0 dX6_mustGoOver_11 ?_
      refine gw_istore5 dX6_mustGoOver_12 (by decide) rfl ?_
      refine gw_ic0 dX6_mustGoOver_14 ?_
      refine gw_istore6 dX6_mustGoOver_15 (by decide) rfl ?_
      refine tlpX6_mustGoOver_17 l ?_ _ _ _ h
      intro u8 u9 h
      refine gw_iload3 dX6_mustGoOver_82 ?_
      refine gw_iload5 dX6_mustGoOver_83 ?_
      refine gw_ic0 dX6_mustGoOver_85 ?_
      refine gw_mmax (l0 := l) dX6_mustGoOver_86 lkX6_84 mk_max.1 mk_max.2.1 mk_max.2.2 (ow_rm_in rfl rfl) (Nat.le_of_ble_eq_true rfl) ?_
      refine gw_iadd dX6_mustGoOver_89 ?_
      refine gw_istore3 dX6_mustGoOver_90 (by decide) rfl ?_
      refine gw_iinc4 1 dX6_mustGoOver_91 (by decide) rfl (by decide) ?_
      refine gw_goto (tgt := 5) rfl dX6_mustGoOver_94 ?_
      refine gw_drp5 ?_
      refine gw_drp6 ?_
      exact ih _ _ h

def fX6_mustGoOver (x2 : Int32) (M : ow_M) : Option Int32 := lpX6_mustGoOver_5 x2 M (fun u10 u11 => some u10) ow_N 0 0
set_option maxRecDepth 100000 in
set_option maxHeartbeats 4000000 in
theorem ctX6_mustGoOver (l : Launch) {x2 : Int32} {M : ow_M} {r : Int32}  (h : fX6_mustGoOver x2 M = some r) : ow_F l 1 yX6_mustGoOver cX6_mustGoOver 7 (some .int) [.ref 11, .ref 2, .int x2] M (some (.int r)) M := by
  unfold fX6_mustGoOver at h
  refine ow_enterO (own := RX6) rfl (by decide +kernel) rfl (ls := [some (.ref 11), some (.ref 2), some (.int x2), none, none, none, none]) rfl ?_
  refine gw_ic0 dX6_mustGoOver_0 ?_
  refine gw_istore3 dX6_mustGoOver_1 (by decide) rfl ?_
  refine gw_ic0 dX6_mustGoOver_2 ?_
  refine gw_istore4 dX6_mustGoOver_3 (by decide) rfl ?_
  refine gw_drp0 ?_
  refine tlpX6_mustGoOver_5 l ?_ _ _ _ h
  intro u10 u11 h
  refine gw_iload3 dX6_mustGoOver_97 ?_
  have hA := Option.some.inj h
  subst hA
  exact gw_iret dX6_mustGoOver_98 ⟨rfl, rfl⟩

