def lpX1_leastOf_2 (x0 : Int32) (k : Int32 → Option Int32) : Nat → Int32 → Option Int32
  | 0, _ => none
  | n + 1, x1 => (if 6 ≤ x1 then k x1 else (if ((x0 >>> (x1 &&& 31)) &&& 1) = 0 then lpX1_leastOf_2 x0 k n (x1 + 1) else k x1))
set_option maxRecDepth 100000 in
set_option maxHeartbeats 4000000 in
theorem tlpX1_leastOf_2 (l : Launch) {x0 : Int32} {M : ow_M} {k : Int32 → Option Int32} {r : Int32}  (hk : ∀ (x1 : Int32), k x1 = some r → ow_G (ow_Γ l 0 (some .int) (ow_is (some (.int r)) M)) RX1 cX1_leastOf 2 22 [some (.int x0), some (.int x1)] [] M) : ∀ (n : Nat) (x1 : Int32), lpX1_leastOf_2 x0 k n x1 = some r → ow_G (ow_Γ l 0 (some .int) (ow_is (some (.int r)) M)) RX1 cX1_leastOf 2 2 [some (.int x0), some (.int x1)] [] M := by
  intro n
  induction n with
  | zero => intro _ h; cases h
  | succ n ih =>
    intro x1 h
    unfold lpX1_leastOf_2 at h
    refine gw_iload1 dX1_leastOf_2 ?_
    refine gw_bipush 6 dX1_leastOf_3 (by decide) ?_
    refine gw_icmp_ge (tgt := 22) dX1_leastOf_5 rfl (fun h1 => ?_) (fun h1 => ?_)
    · replace h := (if_pos h1).symm.trans h
      exact hk _ h
    · replace h := (if_neg h1).symm.trans h
      refine gw_iload0 dX1_leastOf_8 ?_
      refine gw_iload1 dX1_leastOf_9 ?_
      refine gw_ishr dX1_leastOf_10 ?_
      refine gw_ic1 dX1_leastOf_11 ?_
      refine gw_iand dX1_leastOf_12 ?_
      refine gw_if_ne (tgt := 22) dX1_leastOf_13 rfl (fun h2 => ?_) (fun h2 => ?_)
      · replace h := (if_neg h2).symm.trans h
        exact hk _ h
      · replace h := (if_pos h2).symm.trans h
        refine gw_iinc1 1 dX1_leastOf_16 (by decide) rfl (by decide) ?_
        refine gw_goto (tgt := 2) rfl dX1_leastOf_19 ?_
        exact ih _ h

def fX1_leastOf (x0 : Int32) : Option Int32 := lpX1_leastOf_2 x0 (fun u3 => some u3) ow_N 0
set_option maxRecDepth 100000 in
set_option maxHeartbeats 4000000 in
theorem ctX1_leastOf (l : Launch) {x0 : Int32} {M : ow_M} {r : Int32}  (h : fX1_leastOf x0 = some r) : ow_F l 0 yX1_leastOf cX1_leastOf 2 (some .int) [.int x0] M (some (.int r)) M := by
  unfold fX1_leastOf at h
  refine ow_enterO (own := RX1) rfl (by decide +kernel) rfl (ls := [some (.int x0), none]) rfl ?_
  refine gw_ic0 dX1_leastOf_0 ?_
  refine gw_istore1 dX1_leastOf_1 (by decide) rfl ?_
  refine tlpX1_leastOf_2 l ?_ _ _ h
  intro u3 h
  refine gw_iload1 dX1_leastOf_22 ?_
  have hA := Option.some.inj h
  subst hA
  exact gw_iret dX1_leastOf_23 ⟨rfl, rfl⟩

def fX1_between (x1 : Int32) (x2 : Int32) (M : ow_M) : Option Int32 := (if (M.1 2 2) = 0 then some ((x2 - x1) - 1) else some (if (((M.1 2 0) - 2) - ((x2 - x1) - 1)) < ((x2 - x1) - 1) then (((M.1 2 0) - 2) - ((x2 - x1) - 1)) else ((x2 - x1) - 1)))
set_option maxRecDepth 100000 in
set_option maxHeartbeats 4000000 in
theorem ctX1_between (l : Launch) {x1 : Int32} {x2 : Int32} {M : ow_M} {r : Int32}  (h : fX1_between x1 x2 M = some r) : ow_F l 1 yX1_between cX1_between 4 (some .int) [.ref 2, .int x1, .int x2] M (some (.int r)) M := by
  unfold fX1_between at h
  refine ow_enterO (own := RX1) rfl (by decide +kernel) rfl (ls := [some (.ref 2), some (.int x1), some (.int x2), none]) rfl ?_
  refine gw_iload2 dX1_between_0 ?_
  refine gw_iload1 dX1_between_1 ?_
  refine gw_isub dX1_between_2 ?_
  refine gw_ic1 dX1_between_3 ?_
  refine gw_isub dX1_between_4 ?_
  refine gw_istore3 dX1_between_5 (by decide) rfl ?_
  refine gw_aload0 dX1_between_6 ?_
  refine gw_getI dX1_between_7 fkX1_36 rfl rfl ?_
  refine gw_if_eq (tgt := 28) dX1_between_10 rfl (fun h1 => ?_) (fun h1 => ?_)
  · replace h := (if_pos h1).symm.trans h
    refine gw_iload3 dX1_between_28 ?_
    have hA := Option.some.inj h
    subst hA
    exact gw_iret dX1_between_29 ⟨rfl, rfl⟩
  · replace h := (if_neg h1).symm.trans h
    refine gw_iload3 dX1_between_13 ?_
    refine gw_aload0 dX1_between_14 ?_
    refine gw_getI dX1_between_15 fkX1_15 rfl rfl ?_
    refine gw_ic2 dX1_between_18 ?_
    refine gw_isub dX1_between_19 ?_
    refine gw_iload3 dX1_between_20 ?_
    refine gw_isub dX1_between_21 ?_
    refine gw_mmin (l0 := l) dX1_between_22 lkX1_40 mk_min.1 mk_min.2.1 mk_min.2.2 (ow_rm_in rfl rfl) (Nat.le_of_ble_eq_true rfl) ?_
    refine gw_goto (tgt := 29) rfl dX1_between_25 ?_
    have hA := Option.some.inj h
    subst hA
    exact gw_iret dX1_between_29 ⟨rfl, rfl⟩

def jX1_readersWith_30 (x2 : Int32) (x3 : Int32) (x4 : Int32) (s0 : Int32) (M : ow_M) : Option Int32 := (if s0 = 0 then some (-9) else if ow_inn ((x2 ^^^ (1 <<< (x3 &&& 31))) ^^^ (1 <<< (x4 &&& 31))) 128 then (if (M.1 20 ((x2 ^^^ (1 <<< (x3 &&& 31))) ^^^ (1 <<< (x4 &&& 31))).toNatClampNeg) = (-9) then some (-9) else Option.bind (fX1_between x3 x4 M) (fun v6 => some ((M.1 20 ((x2 ^^^ (1 <<< (x3 &&& 31))) ^^^ (1 <<< (x4 &&& 31))).toNatClampNeg) + v6))) else none)
set_option maxRecDepth 100000 in
set_option maxHeartbeats 4000000 in
theorem tjX1_readersWith_30 (l : Launch) {x2 : Int32} {x3 : Int32} {x4 : Int32} {s0 : Int32} {M : ow_M} {r : Int32}  (h : jX1_readersWith_30 x2 x3 x4 s0 M = some r) : ow_G (ow_Γ l 2 (some .int) (ow_is (some (.int r)) M)) RX1 cX1_readersWith 7 30 [some (.ref 19), some (.ref 2), some (.int x2), some (.int x3), some (.int x4), none, none] [.int s0] M := by
  unfold jX1_readersWith_30 at h
  refine gw_istore5 dX1_readersWith_30 (by decide) rfl ?_
  refine gw_iload5 dX1_readersWith_32 ?_
  refine gw_if_ne (tgt := 40) dX1_readersWith_34 rfl (fun h2 => ?_) (fun h2 => ?_)
  · replace h := (if_neg h2).symm.trans h
    refine gw_aload0 dX1_readersWith_40 ?_
    refine gw_getR dX1_readersWith_41 fkX1_9 rfl rfl ?_
    refine gw_iload2 dX1_readersWith_44 ?_
    refine gw_ic1 dX1_readersWith_45 ?_
    refine gw_iload3 dX1_readersWith_46 ?_
    refine gw_ishl dX1_readersWith_47 ?_
    refine gw_ixor dX1_readersWith_48 ?_
    refine gw_ic1 dX1_readersWith_49 ?_
    refine gw_iload4 dX1_readersWith_50 ?_
    refine gw_ishl dX1_readersWith_52 ?_
    refine gw_ixor dX1_readersWith_53 ?_
    by_cases h3 : ow_inn ((x2 ^^^ (1 <<< (x3 &&& 31))) ^^^ (1 <<< (x4 &&& 31))) 128
    rotate_left
    · replace h := (if_neg h3).symm.trans h
      cases h
    replace h := (if_pos h3).symm.trans h
    refine gw_iald dX1_readersWith_54 rfl h3 ?_
    refine gw_istore6 dX1_readersWith_55 (by decide) rfl ?_
    refine gw_iload6 dX1_readersWith_57 ?_
    refine gw_bipush (-9) dX1_readersWith_59 (by decide) ?_
    refine gw_icmp_ne (tgt := 69) dX1_readersWith_61 rfl (fun h4 => ?_) (fun h4 => ?_)
    · replace h := (if_neg h4).symm.trans h
      refine gw_iload6 dX1_readersWith_69 ?_
      refine gw_aload1 dX1_readersWith_71 ?_
      refine gw_iload3 dX1_readersWith_72 ?_
      refine gw_iload4 dX1_readersWith_73 ?_
      obtain ⟨v6, hc5, h⟩ := ow_b_some h
      refine gw_cSI3 dX1_readersWith_75 lkX1_32 mkX1_between (ow_rm_in rfl rfl) (ctX1_between l hc5) rfl ?_
      refine gw_iadd dX1_readersWith_78 ?_
      have hA := Option.some.inj h
      subst hA
      exact gw_iret dX1_readersWith_79 ⟨rfl, rfl⟩
    · replace h := (if_pos h4).symm.trans h
      refine gw_bipush (-9) dX1_readersWith_64 (by decide) ?_
      refine gw_goto (tgt := 79) rfl dX1_readersWith_66 ?_
      have hA := Option.some.inj h
      subst hA
      exact gw_iret dX1_readersWith_79 ⟨rfl, rfl⟩
  · replace h := (if_pos h2).symm.trans h
    refine gw_bipush (-9) dX1_readersWith_37 (by decide) ?_
    have hA := Option.some.inj h
    subst hA
    exact gw_iret dX1_readersWith_39 ⟨rfl, rfl⟩

def jX1_readersWith_29 (x2 : Int32) (x3 : Int32) (x4 : Int32) (M : ow_M) : Option Int32 := jX1_readersWith_30 x2 x3 x4 0 M
set_option maxRecDepth 100000 in
set_option maxHeartbeats 4000000 in
theorem tjX1_readersWith_29 (l : Launch) {x2 : Int32} {x3 : Int32} {x4 : Int32} {M : ow_M} {r : Int32}  (h : jX1_readersWith_29 x2 x3 x4 M = some r) : ow_G (ow_Γ l 2 (some .int) (ow_is (some (.int r)) M)) RX1 cX1_readersWith 7 29 [some (.ref 19), some (.ref 2), some (.int x2), some (.int x3), some (.int x4), none, none] [] M := by
  unfold jX1_readersWith_29 at h
  refine gw_ic0 dX1_readersWith_29 ?_
  exact tjX1_readersWith_30 l h

def fX1_readersWith (x2 : Int32) (x3 : Int32) (x4 : Int32) (M : ow_M) : Option Int32 := (if ((x2 >>> (x4 &&& 31)) &&& 1) = 0 then jX1_readersWith_29 x2 x3 x4 M else if ow_inn x3 7 then if ow_inn x4 7 then (if (M.1 6 x3.toNatClampNeg) = (M.1 6 x4.toNatClampNeg) then jX1_readersWith_29 x2 x3 x4 M else jX1_readersWith_30 x2 x3 x4 1 M) else none else none)
set_option maxRecDepth 100000 in
set_option maxHeartbeats 4000000 in
theorem ctX1_readersWith (l : Launch) {x2 : Int32} {x3 : Int32} {x4 : Int32} {M : ow_M} {r : Int32}  (h : fX1_readersWith x2 x3 x4 M = some r) : ow_F l 2 yX1_readersWith cX1_readersWith 7 (some .int) [.ref 19, .ref 2, .int x2, .int x3, .int x4] M (some (.int r)) M := by
  unfold fX1_readersWith at h
  refine ow_enterO (own := RX1) rfl (by decide +kernel) rfl (ls := [some (.ref 19), some (.ref 2), some (.int x2), some (.int x3), some (.int x4), none, none]) rfl ?_
  refine gw_iload2 dX1_readersWith_0 ?_
  refine gw_iload4 dX1_readersWith_1 ?_
  refine gw_ishr dX1_readersWith_3 ?_
  refine gw_ic1 dX1_readersWith_4 ?_
  refine gw_iand dX1_readersWith_5 ?_
  refine gw_if_eq (tgt := 29) dX1_readersWith_6 rfl (fun h1 => ?_) (fun h1 => ?_)
  · replace h := (if_pos h1).symm.trans h
    exact tjX1_readersWith_29 l h
  · replace h := (if_neg h1).symm.trans h
    refine gw_aload1 dX1_readersWith_9 ?_
    refine gw_getR dX1_readersWith_10 fkX1_29 rfl rfl ?_
    refine gw_iload3 dX1_readersWith_13 ?_
    by_cases h7 : ow_inn x3 7
    rotate_left
    · replace h := (if_neg h7).symm.trans h
      cases h
    replace h := (if_pos h7).symm.trans h
    refine gw_iald dX1_readersWith_14 rfl h7 ?_
    refine gw_aload1 dX1_readersWith_15 ?_
    refine gw_getR dX1_readersWith_16 fkX1_29 rfl rfl ?_
    refine gw_iload4 dX1_readersWith_19 ?_
    by_cases h8 : ow_inn x4 7
    rotate_left
    · replace h := (if_neg h8).symm.trans h
      cases h
    replace h := (if_pos h8).symm.trans h
    refine gw_iald dX1_readersWith_21 rfl h8 ?_
    refine gw_icmp_eq (tgt := 29) dX1_readersWith_22 rfl (fun h9 => ?_) (fun h9 => ?_)
    · replace h := (if_pos h9).symm.trans h
      exact tjX1_readersWith_29 l h
    · replace h := (if_neg h9).symm.trans h
      refine gw_ic1 dX1_readersWith_25 ?_
      refine gw_goto (tgt := 30) rfl dX1_readersWith_26 ?_
      exact tjX1_readersWith_30 l h

def lpX1_leastReaders_50 (x2 : Int32) (x3 : Int32) (x4 : Int32) (k : Int32 → ow_M → Option (Int32 × ow_M)) : Nat → Int32 → ow_M → Option (Int32 × ow_M)
  | 0, _, _ => none
  | n + 1, x5, M => (if (M.1 2 0) ≤ x5 then k x5 M else Option.bind (fX1_readersWith x3 x4 x5 M) (fun v9 => (if v9 = (-9) then lpX1_leastReaders_50 x2 x3 x4 k n (x5 + 1) M else if ow_inn x3 128 then (if (M.1 20 x3.toNatClampNeg) = (-9) then if ow_inn x3 128 then lpX1_leastReaders_50 x2 x3 x4 k n (x5 + 1) (ow_up M 20 x3.toNatClampNeg v9) else none else if ow_inn x3 128 then (if (M.1 20 x3.toNatClampNeg) ≤ v9 then lpX1_leastReaders_50 x2 x3 x4 k n (x5 + 1) M else if ow_inn x3 128 then lpX1_leastReaders_50 x2 x3 x4 k n (x5 + 1) (ow_up M 20 x3.toNatClampNeg v9) else none) else none) else none)))
set_option maxRecDepth 100000 in
set_option maxHeartbeats 4000000 in
theorem tlpX1_leastReaders_50 (l : Launch) {x2 : Int32} {x3 : Int32} {x4 : Int32} {k : Int32 → ow_M → Option (Int32 × ow_M)} {r : Int32} {M9 : ow_M}  (hk : ∀ (x5 : Int32) (M : ow_M), k x5 M = some (r, M9) → ow_G (ow_Γ l 3 (some .int) (ow_is (some (.int r)) M9)) RX1 cX1_leastReaders 7 114 [some (.ref 19), some (.ref 2), some (.int x2), some (.int x3), some (.int x4), some (.int x5), none] [] M) : ∀ (n : Nat) (x5 : Int32) (M : ow_M), lpX1_leastReaders_50 x2 x3 x4 k n x5 M = some (r, M9) → ow_G (ow_Γ l 3 (some .int) (ow_is (some (.int r)) M9)) RX1 cX1_leastReaders 7 50 [some (.ref 19), some (.ref 2), some (.int x2), some (.int x3), some (.int x4), some (.int x5), none] [] M := by
  intro n
  induction n with
  | zero => intro _ _ h; cases h
  | succ n ih =>
    intro x5 M h
    unfold lpX1_leastReaders_50 at h
    refine gw_iload5 dX1_leastReaders_50 ?_
    refine gw_aload1 dX1_leastReaders_52 ?_
    refine gw_getI dX1_leastReaders_53 fkX1_15 rfl rfl ?_
    refine gw_icmp_ge (tgt := 114) dX1_leastReaders_56 rfl (fun h7 => ?_) (fun h7 => ?_)
    · replace h := (if_pos h7).symm.trans h
      exact hk _ _ h
    · replace h := (if_neg h7).symm.trans h
      refine gw_aload0 dX1_leastReaders_59 ?_
      refine gw_aload1 dX1_leastReaders_60 ?_
      refine gw_iload3 dX1_leastReaders_61 ?_
      refine gw_iload4 dX1_leastReaders_62 ?_
      refine gw_iload5 dX1_leastReaders_64 ?_
      obtain ⟨v9, hc8, h⟩ := ow_b_some h
      refine gw_cVI4 dX1_leastReaders_66 lkX1_25 mkX1_readersWith (ow_rm_in rfl rfl) rfl rfl (ctX1_readersWith l hc8) rfl ?_
      refine gw_istore6 dX1_leastReaders_69 (by decide) rfl ?_
      refine gw_iload6 dX1_leastReaders_71 ?_
      refine gw_bipush (-9) dX1_leastReaders_73 (by decide) ?_
      refine gw_icmp_eq (tgt := 108) dX1_leastReaders_75 rfl (fun h10 => ?_) (fun h10 => ?_)
      · replace h := (if_pos h10).symm.trans h
        refine gw_iinc5 1 dX1_leastReaders_108 (by decide) rfl (by decide) ?_
        refine gw_goto (tgt := 50) rfl dX1_leastReaders_111 ?_
        refine gw_drp6 ?_
        exact ih _ _ h
      · replace h := (if_neg h10).symm.trans h
        refine gw_aload0 dX1_leastReaders_78 ?_
        refine gw_getR dX1_leastReaders_79 fkX1_9 rfl rfl ?_
        refine gw_iload3 dX1_leastReaders_82 ?_
        by_cases h11 : ow_inn x3 128
        rotate_left
        · replace h := (if_neg h11).symm.trans h
          cases h
        replace h := (if_pos h11).symm.trans h
        refine gw_iald dX1_leastReaders_83 rfl h11 ?_
        refine gw_bipush (-9) dX1_leastReaders_84 (by decide) ?_
        refine gw_icmp_eq (tgt := 100) dX1_leastReaders_86 rfl (fun h12 => ?_) (fun h12 => ?_)
        · replace h := (if_pos h12).symm.trans h
          refine gw_aload0 dX1_leastReaders_100 ?_
          refine gw_getR dX1_leastReaders_101 fkX1_9 rfl rfl ?_
          refine gw_iload3 dX1_leastReaders_104 ?_
          refine gw_iload6 dX1_leastReaders_105 ?_
          by_cases h13 : ow_inn x3 128
          rotate_left
          · replace h := (if_neg h13).symm.trans h
            cases h
          replace h := (if_pos h13).symm.trans h
          refine gw_iast dX1_leastReaders_107 rfl h13 ?_
          refine gw_iinc5 1 dX1_leastReaders_108 (by decide) rfl (by decide) ?_
          refine gw_goto (tgt := 50) rfl dX1_leastReaders_111 ?_
          refine gw_drp6 ?_
          exact ih _ _ h
        · replace h := (if_neg h12).symm.trans h
          refine gw_iload6 dX1_leastReaders_89 ?_
          refine gw_aload0 dX1_leastReaders_91 ?_
          refine gw_getR dX1_leastReaders_92 fkX1_9 rfl rfl ?_
          refine gw_iload3 dX1_leastReaders_95 ?_
          by_cases h14 : ow_inn x3 128
          rotate_left
          · replace h := (if_neg h14).symm.trans h
            cases h
          replace h := (if_pos h14).symm.trans h
          refine gw_iald dX1_leastReaders_96 rfl h14 ?_
          refine gw_icmp_ge (tgt := 108) dX1_leastReaders_97 rfl (fun h15 => ?_) (fun h15 => ?_)
          · replace h := (if_pos h15).symm.trans h
            refine gw_iinc5 1 dX1_leastReaders_108 (by decide) rfl (by decide) ?_
            refine gw_goto (tgt := 50) rfl dX1_leastReaders_111 ?_
            refine gw_drp6 ?_
            exact ih _ _ h
          · replace h := (if_neg h15).symm.trans h
            refine gw_aload0 dX1_leastReaders_100 ?_
            refine gw_getR dX1_leastReaders_101 fkX1_9 rfl rfl ?_
            refine gw_iload3 dX1_leastReaders_104 ?_
            refine gw_iload6 dX1_leastReaders_105 ?_
            by_cases h16 : ow_inn x3 128
            rotate_left
            · replace h := (if_neg h16).symm.trans h
              cases h
            replace h := (if_pos h16).symm.trans h
            refine gw_iast dX1_leastReaders_107 rfl h16 ?_
            refine gw_iinc5 1 dX1_leastReaders_108 (by decide) rfl (by decide) ?_
            refine gw_goto (tgt := 50) rfl dX1_leastReaders_111 ?_
            refine gw_drp6 ?_
            exact ih _ _ h

def lpX1_leastReaders_16 (x2 : Int32) (k : Int32 → ow_M → Option (Int32 × ow_M)) : Nat → Int32 → ow_M → Option (Int32 × ow_M)
  | 0, _, _ => none
  | n + 1, x3, M => (if x2 ≤ x3 then k x3 M else (if 128 ≤ x3 then k x3 M else if ow_inn x3 128 then Option.bind (fX1_leastOf x3) (fun v6 => lpX1_leastReaders_50 x2 x3 v6 (fun u17 M18 => lpX1_leastReaders_16 x2 k n (x3 + 1) M18) ow_N (v6 + 1) (ow_up M 20 x3.toNatClampNeg (-9))) else none))
set_option maxRecDepth 100000 in
set_option maxHeartbeats 4000000 in
theorem tlpX1_leastReaders_16 (l : Launch) {x2 : Int32} {k : Int32 → ow_M → Option (Int32 × ow_M)} {r : Int32} {M9 : ow_M}  (hk : ∀ (x3 : Int32) (M : ow_M), k x3 M = some (r, M9) → ow_G (ow_Γ l 3 (some .int) (ow_is (some (.int r)) M9)) RX1 cX1_leastReaders 7 120 [some (.ref 19), some (.ref 2), some (.int x2), some (.int x3), none, none, none] [] M) : ∀ (n : Nat) (x3 : Int32) (M : ow_M), lpX1_leastReaders_16 x2 k n x3 M = some (r, M9) → ow_G (ow_Γ l 3 (some .int) (ow_is (some (.int r)) M9)) RX1 cX1_leastReaders 7 16 [some (.ref 19), some (.ref 2), some (.int x2), some (.int x3), none, none, none] [] M := by
  intro n
  induction n with
  | zero => intro _ _ h; cases h
  | succ n ih =>
    intro x3 M h
    unfold lpX1_leastReaders_16 at h
    refine gw_iload3 dX1_leastReaders_16 ?_
    refine gw_iload2 dX1_leastReaders_17 ?_
    refine gw_icmp_ge (tgt := 120) dX1_leastReaders_18 rfl (fun h2 => ?_) (fun h2 => ?_)
    · replace h := (if_pos h2).symm.trans h
      exact hk _ _ h
    · replace h := (if_neg h2).symm.trans h
      refine gw_iload3 dX1_leastReaders_21 ?_
      refine gw_aload0 dX1_leastReaders_22 ?_
      refine gw_getR dX1_leastReaders_23 fkX1_9 rfl rfl ?_
      refine gw_alen 128 dX1_leastReaders_26 rfl rfl (by decide) ?_
      refine gw_icmp_ge (tgt := 120) dX1_leastReaders_27 rfl (fun h3 => ?_) (fun h3 => ?_)
      · replace h := (if_pos h3).symm.trans h
        exact hk _ _ h
      · replace h := (if_neg h3).symm.trans h
        refine gw_aload0 dX1_leastReaders_30 ?_
        refine gw_getR dX1_leastReaders_31 fkX1_9 rfl rfl ?_
        refine gw_iload3 dX1_leastReaders_34 ?_
        refine gw_bipush (-9) dX1_leastReaders_35 (by decide) ?_
        by_cases h4 : ow_inn x3 128
        rotate_left
        · replace h := (if_neg h4).symm.trans h
          cases h
        replace h := (if_pos h4).symm.trans h
        refine gw_iast dX1_leastReaders_37 rfl h4 ?_
        refine gw_iload3 dX1_leastReaders_38 ?_
        obtain ⟨v6, hc5, h⟩ := ow_b_some h
        refine gw_cSI1 dX1_leastReaders_39 lkX1_21 mkX1_leastOf (ow_rm_in rfl rfl) (ctX1_leastOf l hc5) rfl ?_
        refine gw_istore4 dX1_leastReaders_42 (by decide) rfl ?_
        refine gw_iload4 dX1_leastReaders_44 ?_
        refine gw_ic1 dX1_leastReaders_46 ?_
        refine gw_iadd dX1_leastReaders_47 ?_
        refine gw_istore5 dX1_leastReaders_48 (by decide) rfl ?_
        refine tlpX1_leastReaders_50 l ?_ _ _ _ h
        intro u17 M18 h
        refine gw_iinc3 1 dX1_leastReaders_114 (by decide) rfl (by decide) ?_
        refine gw_goto (tgt := 16) rfl dX1_leastReaders_117 ?_
        refine gw_drp4 ?_
        refine gw_drp5 ?_
        exact ih _ _ h

def fX1_leastReaders  (M : ow_M) : Option (Int32 × ow_M) := if ow_inn 0 128 then lpX1_leastReaders_16 (1 <<< ((M.1 2 0) &&& 31)) (fun u19 M20 => if ow_inn ((1 <<< ((M.1 2 0) &&& 31)) - 1) 128 then some ((M20.1 20 ((1 <<< ((M.1 2 0) &&& 31)) - 1).toNatClampNeg), M20) else none) ow_N 1 (ow_up M 20 (0 : Int32).toNatClampNeg 0) else none
set_option maxRecDepth 100000 in
set_option maxHeartbeats 4000000 in
theorem ctX1_leastReaders (l : Launch)  {M : ow_M} {r : Int32} {M9 : ow_M}  (h : fX1_leastReaders M = some (r, M9)) : ow_F l 3 yX1_leastReaders cX1_leastReaders 7 (some .int) [.ref 19, .ref 2] M (some (.int r)) M9 := by
  unfold fX1_leastReaders at h
  refine ow_enterO (own := RX1) rfl (by decide +kernel) rfl (ls := [some (.ref 19), some (.ref 2), none, none, none, none, none]) rfl ?_
  refine gw_ic1 dX1_leastReaders_0 ?_
  refine gw_aload1 dX1_leastReaders_1 ?_
  refine gw_getI dX1_leastReaders_2 fkX1_15 rfl rfl ?_
  refine gw_ishl dX1_leastReaders_5 ?_
  refine gw_istore2 dX1_leastReaders_6 (by decide) rfl ?_
  refine gw_aload0 dX1_leastReaders_7 ?_
  refine gw_getR dX1_leastReaders_8 fkX1_9 rfl rfl ?_
  refine gw_ic0 dX1_leastReaders_11 ?_
  refine gw_ic0 dX1_leastReaders_12 ?_
  by_cases h1 : ow_inn 0 128
  rotate_left
  · replace h := (if_neg h1).symm.trans h
    cases h
  replace h := (if_pos h1).symm.trans h
  refine gw_iast dX1_leastReaders_13 rfl h1 ?_
  refine gw_ic1 dX1_leastReaders_14 ?_
  refine gw_istore3 dX1_leastReaders_15 (by decide) rfl ?_
  refine tlpX1_leastReaders_16 l ?_ _ _ _ h
  intro u19 M20 h
  refine gw_aload0 dX1_leastReaders_120 ?_
  refine gw_getR dX1_leastReaders_121 fkX1_9 rfl rfl ?_
  refine gw_iload2 dX1_leastReaders_124 ?_
  refine gw_ic1 dX1_leastReaders_125 ?_
  refine gw_isub dX1_leastReaders_126 ?_
  by_cases h21 : ow_inn ((1 <<< ((M.1 2 0) &&& 31)) - 1) 128
  rotate_left
  · replace h := (if_neg h21).symm.trans h
    cases h
  replace h := (if_pos h21).symm.trans h
  refine gw_iald dX1_leastReaders_127 rfl h21 ?_
  obtain ⟨hA, hB⟩ := Prod.mk.inj (Option.some.inj h)
  subst hA
  subst hB
  exact gw_iret dX1_leastReaders_128 ⟨rfl, rfl⟩

def lpX1_mateOf_37 (x2 : Int32) (x3 : Int32) (x4 : Int32) (x5 : Int32) (M : ow_M) (k : Int32 → Option Int32) : Nat → Int32 → Option Int32
  | 0, _ => none
  | n + 1, x6 => (if ((M.1 2 0) - 1) ≤ x6 then k x6 else Option.bind (fX1_readersWith x3 x5 x6 M) (fun v7 => if ow_inn x3 128 then (if v7 = (M.1 20 x3.toNatClampNeg) then k x6 else lpX1_mateOf_37 x2 x3 x4 x5 M k n (x6 + 1)) else none))
set_option maxRecDepth 100000 in
set_option maxHeartbeats 4000000 in
theorem tlpX1_mateOf_37 (l : Launch) {x2 : Int32} {x3 : Int32} {x4 : Int32} {x5 : Int32} {M : ow_M} {k : Int32 → Option Int32} {r : Int32}  (hk : ∀ (x6 : Int32), k x6 = some r → ow_G (ow_Γ l 3 (some .int) (ow_is (some (.int r)) M)) RX1 cX1_mateOf 7 73 [some (.ref 19), some (.ref 2), some (.int x2), some (.int x3), some (.int x4), some (.int x5), some (.int x6)] [] M) : ∀ (n : Nat) (x6 : Int32), lpX1_mateOf_37 x2 x3 x4 x5 M k n x6 = some r → ow_G (ow_Γ l 3 (some .int) (ow_is (some (.int r)) M)) RX1 cX1_mateOf 7 37 [some (.ref 19), some (.ref 2), some (.int x2), some (.int x3), some (.int x4), some (.int x5), some (.int x6)] [] M := by
  intro n
  induction n with
  | zero => intro _ h; cases h
  | succ n ih =>
    intro x6 h
    unfold lpX1_mateOf_37 at h
    refine gw_iload6 dX1_mateOf_37 ?_
    refine gw_aload1 dX1_mateOf_39 ?_
    refine gw_getI dX1_mateOf_40 fkX1_15 rfl rfl ?_
    refine gw_ic1 dX1_mateOf_43 ?_
    refine gw_isub dX1_mateOf_44 ?_
    refine gw_icmp_ge (tgt := 73) dX1_mateOf_45 rfl (fun h5 => ?_) (fun h5 => ?_)
    · replace h := (if_pos h5).symm.trans h
      exact hk _ h
    · replace h := (if_neg h5).symm.trans h
      refine gw_aload0 dX1_mateOf_48 ?_
      refine gw_aload1 dX1_mateOf_49 ?_
      refine gw_iload3 dX1_mateOf_50 ?_
      refine gw_iload5 dX1_mateOf_51 ?_
      refine gw_iload6 dX1_mateOf_53 ?_
      obtain ⟨v7, hc6, h⟩ := ow_b_some h
      refine gw_cVI4 dX1_mateOf_55 lkX1_25 mkX1_readersWith (ow_rm_in rfl rfl) rfl rfl (ctX1_readersWith l hc6) rfl ?_
      refine gw_aload0 dX1_mateOf_58 ?_
      refine gw_getR dX1_mateOf_59 fkX1_9 rfl rfl ?_
      refine gw_iload3 dX1_mateOf_62 ?_
      by_cases h8 : ow_inn x3 128
      rotate_left
      · replace h := (if_neg h8).symm.trans h
        cases h
      replace h := (if_pos h8).symm.trans h
      refine gw_iald dX1_mateOf_63 rfl h8 ?_
      refine gw_icmp_eq (tgt := 73) dX1_mateOf_64 rfl (fun h9 => ?_) (fun h9 => ?_)
      · replace h := (if_pos h9).symm.trans h
        exact hk _ h
      · replace h := (if_neg h9).symm.trans h
        refine gw_iinc6 1 dX1_mateOf_67 (by decide) rfl (by decide) ?_
        refine gw_goto (tgt := 37) rfl dX1_mateOf_70 ?_
        exact ih _ h

def jX1_mateOf_85 (x2 : Int32) (x5 : Int32) (x6 : Int32) (M : ow_M) : Option Int32 := (if x2 = x5 then some x6 else some x5)
set_option maxRecDepth 100000 in
set_option maxHeartbeats 4000000 in
theorem tjX1_mateOf_85 (l : Launch) {x2 : Int32} {x5 : Int32} {x6 : Int32} {M : ow_M} {r : Int32}  (h : jX1_mateOf_85 x2 x5 x6 M = some r) : ow_G (ow_Γ l 3 (some .int) (ow_is (some (.int r)) M)) RX1 cX1_mateOf 7 85 [none, none, some (.int x2), none, none, some (.int x5), some (.int x6)] [] M := by
  unfold jX1_mateOf_85 at h
  refine gw_iload2 dX1_mateOf_85 ?_
  refine gw_iload5 dX1_mateOf_86 ?_
  refine gw_icmp_ne (tgt := 96) dX1_mateOf_88 rfl (fun h12 => ?_) (fun h12 => ?_)
  · replace h := (if_neg h12).symm.trans h
    refine gw_iload5 dX1_mateOf_96 ?_
    have hA := Option.some.inj h
    subst hA
    exact gw_iret dX1_mateOf_98 ⟨rfl, rfl⟩
  · replace h := (if_pos h12).symm.trans h
    refine gw_iload6 dX1_mateOf_91 ?_
    refine gw_goto (tgt := 98) rfl dX1_mateOf_93 ?_
    have hA := Option.some.inj h
    subst hA
    exact gw_iret dX1_mateOf_98 ⟨rfl, rfl⟩

def jX1_mateOf_73 (x2 : Int32) (x3 : Int32) (x4 : Int32) (x5 : Int32) (x6 : Int32) (kb : Int32 → Int32 → Option Int32) (k : Int32 → Int32 → Option Int32) (M : ow_M) : Option Int32 := (if x2 = x5 then jX1_mateOf_85 x2 x5 x6 M else (if x2 = x6 then jX1_mateOf_85 x2 x5 x6 M else kb (x3 &&& (((1 <<< (x5 &&& 31)) ||| (1 <<< (x6 &&& 31))) ^^^ (-1))) (x4 + 1)))
set_option maxRecDepth 100000 in
set_option maxHeartbeats 4000000 in
theorem tjX1_mateOf_73 (l : Launch) {x2 : Int32} {x3 : Int32} {x4 : Int32} {x5 : Int32} {x6 : Int32} {kb : Int32 → Int32 → Option Int32} {k : Int32 → Int32 → Option Int32} {M : ow_M} {r : Int32}  (hkb : ∀ (z3 : Int32) (z4 : Int32), kb z3 z4 = some r → ow_G (ow_Γ l 3 (some .int) (ow_is (some (.int r)) M)) RX1 cX1_mateOf 7 12 [some (.ref 19), some (.ref 2), some (.int x2), some (.int z3), some (.int z4), none, none] [] M) (hk : ∀ (z3 : Int32) (z4 : Int32), k z3 z4 = some r → ow_G (ow_Γ l 3 (some .int) (ow_is (some (.int r)) M)) RX1 cX1_mateOf 7 119 [some (.ref 19), some (.ref 2), some (.int x2), some (.int z3), some (.int z4), none, none] [] M) (h : jX1_mateOf_73 x2 x3 x4 x5 x6 kb k M = some r) : ow_G (ow_Γ l 3 (some .int) (ow_is (some (.int r)) M)) RX1 cX1_mateOf 7 73 [some (.ref 19), some (.ref 2), some (.int x2), some (.int x3), some (.int x4), some (.int x5), some (.int x6)] [] M := by
  unfold jX1_mateOf_73 at h
  refine gw_iload2 dX1_mateOf_73 ?_
  refine gw_iload5 dX1_mateOf_74 ?_
  refine gw_icmp_eq (tgt := 85) dX1_mateOf_76 rfl (fun h11 => ?_) (fun h11 => ?_)
  · replace h := (if_pos h11).symm.trans h
    refine gw_drp0 ?_
    refine gw_drp1 ?_
    refine gw_drp3 ?_
    refine gw_drp4 ?_
    exact tjX1_mateOf_85 l h
  · replace h := (if_neg h11).symm.trans h
    refine gw_iload2 dX1_mateOf_79 ?_
    refine gw_iload6 dX1_mateOf_80 ?_
    refine gw_icmp_ne (tgt := 99) dX1_mateOf_82 rfl (fun h13 => ?_) (fun h13 => ?_)
    · replace h := (if_neg h13).symm.trans h
      refine gw_iload3 dX1_mateOf_99 ?_
      refine gw_ic1 dX1_mateOf_100 ?_
      refine gw_iload5 dX1_mateOf_101 ?_
      refine gw_ishl dX1_mateOf_103 ?_
      refine gw_ic1 dX1_mateOf_104 ?_
      refine gw_iload6 dX1_mateOf_105 ?_
      refine gw_ishl dX1_mateOf_107 ?_
      refine gw_ior dX1_mateOf_108 ?_
      refine gw_icm1 dX1_mateOf_109 ?_
      refine gw_ixor dX1_mateOf_110 ?_
      refine gw_iand dX1_mateOf_111 ?_
      refine gw_istore3 dX1_mateOf_112 (by decide) rfl ?_
      refine gw_iinc4 1 dX1_mateOf_113 (by decide) rfl (by decide) ?_
      refine gw_goto (tgt := 12) rfl dX1_mateOf_116 ?_
      refine gw_drp5 ?_
      refine gw_drp6 ?_
      exact hkb _ _ h
    · replace h := (if_pos h13).symm.trans h
      refine gw_drp0 ?_
      refine gw_drp1 ?_
      refine gw_drp3 ?_
      refine gw_drp4 ?_
      exact tjX1_mateOf_85 l h

def lpX1_mateOf_12 (x2 : Int32) (M : ow_M) (k : Int32 → Int32 → Option Int32) : Nat → Int32 → Int32 → Option Int32
  | 0, _, _ => none
  | n + 1, x3, x4 => (if (M.1 2 0) ≤ x4 then k x3 x4 else (if x3 = 0 then k x3 x4 else Option.bind (fX1_leastOf x3) (fun v4 => lpX1_mateOf_37 x2 x3 x4 v4 M (fun u10 => jX1_mateOf_73 x2 x3 x4 v4 u10 (lpX1_mateOf_12 x2 M k n) k M) ow_N (v4 + 1))))
set_option maxRecDepth 100000 in
set_option maxHeartbeats 4000000 in
theorem tlpX1_mateOf_12 (l : Launch) {x2 : Int32} {M : ow_M} {k : Int32 → Int32 → Option Int32} {r : Int32}  (hk : ∀ (x3 : Int32) (x4 : Int32), k x3 x4 = some r → ow_G (ow_Γ l 3 (some .int) (ow_is (some (.int r)) M)) RX1 cX1_mateOf 7 119 [some (.ref 19), some (.ref 2), some (.int x2), some (.int x3), some (.int x4), none, none] [] M) : ∀ (n : Nat) (x3 : Int32) (x4 : Int32), lpX1_mateOf_12 x2 M k n x3 x4 = some r → ow_G (ow_Γ l 3 (some .int) (ow_is (some (.int r)) M)) RX1 cX1_mateOf 7 12 [some (.ref 19), some (.ref 2), some (.int x2), some (.int x3), some (.int x4), none, none] [] M := by
  intro n
  induction n with
  | zero => intro _ _ h; cases h
  | succ n ih =>
    intro x3 x4 h
    unfold lpX1_mateOf_12 at h
    refine gw_iload4 dX1_mateOf_12 ?_
    refine gw_aload1 dX1_mateOf_14 ?_
    refine gw_getI dX1_mateOf_15 fkX1_15 rfl rfl ?_
    refine gw_icmp_ge (tgt := 119) dX1_mateOf_18 rfl (fun h1 => ?_) (fun h1 => ?_)
    · replace h := (if_pos h1).symm.trans h
      exact hk _ _ h
    · replace h := (if_neg h1).symm.trans h
      refine gw_iload3 dX1_mateOf_21 ?_
      refine gw_if_eq (tgt := 119) dX1_mateOf_22 rfl (fun h2 => ?_) (fun h2 => ?_)
      · replace h := (if_pos h2).symm.trans h
        exact hk _ _ h
      · replace h := (if_neg h2).symm.trans h
        refine gw_iload3 dX1_mateOf_25 ?_
        obtain ⟨v4, hc3, h⟩ := ow_b_some h
        refine gw_cSI1 dX1_mateOf_26 lkX1_21 mkX1_leastOf (ow_rm_in rfl rfl) (ctX1_leastOf l hc3) rfl ?_
        refine gw_istore5 dX1_mateOf_29 (by decide) rfl ?_
        refine gw_iload5 dX1_mateOf_31 ?_
        refine gw_ic1 dX1_mateOf_33 ?_
        refine gw_iadd dX1_mateOf_34 ?_
        refine gw_istore6 dX1_mateOf_35 (by decide) rfl ?_
        refine tlpX1_mateOf_37 l ?_ _ _ h
        intro u10 h
        exact tjX1_mateOf_73 l ih hk h

def fX1_mateOf (x2 : Int32) (M : ow_M) : Option Int32 := lpX1_mateOf_12 x2 M (fun u14 u15 => some (-9)) ow_N ((1 <<< ((M.1 2 0) &&& 31)) - 1) 0
set_option maxRecDepth 100000 in
set_option maxHeartbeats 4000000 in
theorem ctX1_mateOf (l : Launch) {x2 : Int32} {M : ow_M} {r : Int32}  (h : fX1_mateOf x2 M = some r) : ow_F l 3 yX1_mateOf cX1_mateOf 7 (some .int) [.ref 19, .ref 2, .int x2] M (some (.int r)) M := by
  unfold fX1_mateOf at h
  refine ow_enterO (own := RX1) rfl (by decide +kernel) rfl (ls := [some (.ref 19), some (.ref 2), some (.int x2), none, none, none, none]) rfl ?_
  refine gw_ic1 dX1_mateOf_0 ?_
  refine gw_aload1 dX1_mateOf_1 ?_
  refine gw_getI dX1_mateOf_2 fkX1_15 rfl rfl ?_
  refine gw_ishl dX1_mateOf_5 ?_
  refine gw_ic1 dX1_mateOf_6 ?_
  refine gw_isub dX1_mateOf_7 ?_
  refine gw_istore3 dX1_mateOf_8 (by decide) rfl ?_
  refine gw_ic0 dX1_mateOf_9 ?_
  refine gw_istore4 dX1_mateOf_10 (by decide) rfl ?_
  refine tlpX1_mateOf_12 l ?_ _ _ _ h
  intro u14 u15 h
  refine gw_bipush (-9) dX1_mateOf_119 (by decide) ?_
  have hA := Option.some.inj h
  subst hA
  exact gw_iret dX1_mateOf_121 ⟨rfl, rfl⟩

def lpX2_readPlaces_12 (x2 : Nat) (x3 : Int32) (k : Int32 → ow_M → Option (Int32 × ow_M)) : Nat → Int32 → ow_M → Option (Int32 × ow_M)
  | 0, _, _ => none
  | n + 1, x4, M => (if (M.1 2 0) ≤ x4 then k x4 M else Option.bind (fX4_load x2 (x3 + x4) M) (fun v6 => Option.bind (fX0_isPerson v6 M) (fun v8 => (if v8 = 0 then some (0, M) else if ow_inn v6 7 then (if (M.1 17 v6.toNatClampNeg) = (-9) then if ow_inn v6 7 then lpX2_readPlaces_12 x2 x3 k n (x4 + 1) (ow_up M 17 v6.toNatClampNeg x4) else none else some (0, M)) else none))))
set_option maxRecDepth 100000 in
set_option maxHeartbeats 4000000 in
theorem tlpX2_readPlaces_12 (l : Launch) {x2 : Nat} {x3 : Int32} {k : Int32 → ow_M → Option (Int32 × ow_M)} {r : Int32} {M9 : ow_M}  (hS2 : ow_isS x2) (hk : ∀ (x4 : Int32) (M : ow_M), k x4 M = some (r, M9) → ow_G (ow_Γ l 1 (some .boolean) (ow_is (some (.int r)) M9)) RX2 cX2_readPlaces 6 69 [some (.ref 16), some (.ref 2), some (.ref x2), some (.int x3), some (.int x4), none] [] M) : ∀ (n : Nat) (x4 : Int32) (M : ow_M), lpX2_readPlaces_12 x2 x3 k n x4 M = some (r, M9) → ow_G (ow_Γ l 1 (some .boolean) (ow_is (some (.int r)) M9)) RX2 cX2_readPlaces 6 12 [some (.ref 16), some (.ref 2), some (.ref x2), some (.int x3), some (.int x4), none] [] M := by
  intro n
  induction n with
  | zero => intro _ _ h; cases h
  | succ n ih =>
    intro x4 M h
    unfold lpX2_readPlaces_12 at h
    refine gw_iload4 dX2_readPlaces_12 ?_
    refine gw_aload1 dX2_readPlaces_14 ?_
    refine gw_getI dX2_readPlaces_15 fkX2_24 rfl rfl ?_
    refine gw_icmp_ge (tgt := 69) dX2_readPlaces_18 rfl (fun h4 => ?_) (fun h4 => ?_)
    · replace h := (if_pos h4).symm.trans h
      exact hk _ _ h
    · replace h := (if_neg h4).symm.trans h
      refine gw_aload2 dX2_readPlaces_21 ?_
      refine gw_iload3 dX2_readPlaces_22 ?_
      refine gw_iload4 dX2_readPlaces_23 ?_
      refine gw_iadd dX2_readPlaces_25 ?_
      obtain ⟨v6, hc5, h⟩ := ow_b_some h
      refine gw_cVI1 dX2_readPlaces_26 lkX2_30 mkX4_load (ow_rm_in rfl rfl) hS2.1 rfl (ctX4_load l hS2 hc5) rfl ?_
      refine gw_istore5 dX2_readPlaces_29 (by decide) rfl ?_
      refine gw_aload1 dX2_readPlaces_31 ?_
      refine gw_iload5 dX2_readPlaces_32 ?_
      obtain ⟨v8, hc7, h⟩ := ow_b_some h
      refine gw_cVI1 dX2_readPlaces_34 lkX2_36 mkX0_isPerson (ow_rm_in rfl rfl) rfl rfl (ctX0_isPerson l hc7) rfl ?_
      refine gw_if_eq (tgt := 52) dX2_readPlaces_37 rfl (fun h9 => ?_) (fun h9 => ?_)
      · replace h := (if_pos h9).symm.trans h
        refine gw_ic0 dX2_readPlaces_52 ?_
        obtain ⟨hA, hB⟩ := Prod.mk.inj (Option.some.inj h)
        subst hA
        subst hB
        exact gw_zret (Or.inl rfl) dX2_readPlaces_53 ⟨rfl, rfl⟩
      · replace h := (if_neg h9).symm.trans h
        refine gw_aload0 dX2_readPlaces_40 ?_
        refine gw_getR dX2_readPlaces_41 fkX2_9 rfl rfl ?_
        refine gw_iload5 dX2_readPlaces_44 ?_
        by_cases h10 : ow_inn v6 7
        rotate_left
        · replace h := (if_neg h10).symm.trans h
          cases h
        replace h := (if_pos h10).symm.trans h
        refine gw_iald dX2_readPlaces_46 rfl h10 ?_
        refine gw_bipush (-9) dX2_readPlaces_47 (by decide) ?_
        refine gw_icmp_eq (tgt := 54) dX2_readPlaces_49 rfl (fun h11 => ?_) (fun h11 => ?_)
        · replace h := (if_pos h11).symm.trans h
          refine gw_aload0 dX2_readPlaces_54 ?_
          refine gw_getR dX2_readPlaces_55 fkX2_9 rfl rfl ?_
          refine gw_iload5 dX2_readPlaces_58 ?_
          refine gw_iload4 dX2_readPlaces_60 ?_
          by_cases h12 : ow_inn v6 7
          rotate_left
          · replace h := (if_neg h12).symm.trans h
            cases h
          replace h := (if_pos h12).symm.trans h
          refine gw_iast dX2_readPlaces_62 rfl h12 ?_
          refine gw_iinc4 1 dX2_readPlaces_63 (by decide) rfl (by decide) ?_
          refine gw_goto (tgt := 12) rfl dX2_readPlaces_66 ?_
          refine gw_drp5 ?_
          exact ih _ _ h
        · replace h := (if_neg h11).symm.trans h
          refine gw_ic0 dX2_readPlaces_52 ?_
          obtain ⟨hA, hB⟩ := Prod.mk.inj (Option.some.inj h)
          subst hA
          subst hB
          exact gw_zret (Or.inl rfl) dX2_readPlaces_53 ⟨rfl, rfl⟩

def fX2_readPlaces (x2 : Nat) (x3 : Int32) (M : ow_M) : Option (Int32 × ow_M) := Option.bind (fJ7_fill_53178 17 7 (-9) M) (fun M3 => lpX2_readPlaces_12 x2 x3 (fun u13 M14 => some (1, M14)) ow_N 0 M3)
set_option maxRecDepth 100000 in
set_option maxHeartbeats 4000000 in
theorem ctX2_readPlaces (l : Launch) {x2 : Nat} {x3 : Int32} {M : ow_M} {r : Int32} {M9 : ow_M}  (hS2 : ow_isS x2) (h : fX2_readPlaces x2 x3 M = some (r, M9)) : ow_F l 1 yX2_readPlaces cX2_readPlaces 6 (some .boolean) [.ref 16, .ref 2, .ref x2, .int x3] M (some (.int r)) M9 := by
  unfold fX2_readPlaces at h
  refine ow_enterO (own := RX2) rfl (by decide +kernel) rfl (ls := [some (.ref 16), some (.ref 2), some (.ref x2), some (.int x3), none, none]) rfl ?_
  refine gw_aload0 dX2_readPlaces_0 ?_
  refine gw_getR dX2_readPlaces_1 fkX2_9 rfl rfl ?_
  refine gw_bipush (-9) dX2_readPlaces_4 (by decide) ?_
  obtain ⟨M3, hc1, h⟩ := ow_b_some h
  refine gw_cSV2 dX2_readPlaces_6 lkX2_18 mkJ7_fill_53178 (ow_rm_in rfl rfl) (ctJ7_fill_53178 l rfl hc1) rfl ?_
  refine gw_ic0 dX2_readPlaces_9 ?_
  refine gw_istore4 dX2_readPlaces_10 (by decide) rfl ?_
  refine tlpX2_readPlaces_12 l hS2 ?_ _ _ _ h
  intro u13 M14 h
  refine gw_ic1 dX2_readPlaces_69 ?_
  obtain ⟨hA, hB⟩ := Prod.mk.inj (Option.some.inj h)
  subst hA
  subst hB
  exact gw_zret (Or.inr rfl) dX2_readPlaces_70 ⟨rfl, rfl⟩

def fX2_mayChange (x1 : Int32) (x2 : Int32) (M : ow_M) : Option Int32 := if ow_inn x2 7 then if ow_inn x1 7 then (if (M.1 4 x2.toNatClampNeg) < (M.1 4 x1.toNatClampNeg) then some 0 else some 1) else none else none
set_option maxRecDepth 100000 in
set_option maxHeartbeats 4000000 in
theorem ctX2_mayChange (l : Launch) {x1 : Int32} {x2 : Int32} {M : ow_M} {r : Int32}  (h : fX2_mayChange x1 x2 M = some r) : ow_F l 0 yX2_mayChange cX2_mayChange 3 (some .boolean) [.ref 2, .int x1, .int x2] M (some (.int r)) M := by
  unfold fX2_mayChange at h
  refine ow_enterO (own := RX2) rfl (by decide +kernel) rfl (ls := [some (.ref 2), some (.int x1), some (.int x2)]) rfl ?_
  refine gw_aload0 dX2_mayChange_0 ?_
  refine gw_getR dX2_mayChange_1 fkX2_40 rfl rfl ?_
  refine gw_iload2 dX2_mayChange_4 ?_
  by_cases h1 : ow_inn x2 7
  rotate_left
  · replace h := (if_neg h1).symm.trans h
    cases h
  replace h := (if_pos h1).symm.trans h
  refine gw_iald dX2_mayChange_5 rfl h1 ?_
  refine gw_aload0 dX2_mayChange_6 ?_
  refine gw_getR dX2_mayChange_7 fkX2_40 rfl rfl ?_
  refine gw_iload1 dX2_mayChange_10 ?_
  by_cases h2 : ow_inn x1 7
  rotate_left
  · replace h := (if_neg h2).symm.trans h
    cases h
  replace h := (if_pos h2).symm.trans h
  refine gw_iald dX2_mayChange_11 rfl h2 ?_
  refine gw_icmp_lt (tgt := 19) dX2_mayChange_12 rfl (fun h3 => ?_) (fun h3 => ?_)
  · replace h := (if_pos h3).symm.trans h
    refine gw_ic0 dX2_mayChange_19 ?_
    have hA := Option.some.inj h
    subst hA
    exact gw_zret (Or.inl rfl) dX2_mayChange_20 ⟨rfl, rfl⟩
  · replace h := (if_neg h3).symm.trans h
    refine gw_ic1 dX2_mayChange_15 ?_
    refine gw_goto (tgt := 20) rfl dX2_mayChange_16 ?_
    have hA := Option.some.inj h
    subst hA
    exact gw_zret (Or.inr rfl) dX2_mayChange_20 ⟨rfl, rfl⟩

def lpX2_firstBar_14 (x2 : Int32) (M : ow_M) (k : Int32 → Option Int32) : Nat → Int32 → Option Int32
  | 0, _ => none
  | n + 1, x3 => (if (M.1 2 0) ≤ x3 then k x3 else if ow_inn x3 7 then if ow_inn x2 7 then (if (M.1 17 x2.toNatClampNeg) ≤ (M.1 17 x3.toNatClampNeg) then lpX2_firstBar_14 x2 M k n (x3 + 1) else Option.bind (fX2_mayChange x2 x3 M) (fun v7 => (if v7 = 0 then some ((10 * x2) + x3) else lpX2_firstBar_14 x2 M k n (x3 + 1)))) else none else none)
set_option maxRecDepth 100000 in
set_option maxHeartbeats 4000000 in
theorem tlpX2_firstBar_14 (l : Launch) {x2 : Int32} {M : ow_M} {k : Int32 → Option Int32} {r : Int32}  (hk : ∀ (x3 : Int32), k x3 = some r → ow_G (ow_Γ l 1 (some .int) (ow_is (some (.int r)) M)) RX2 cX2_firstBar 4 59 [some (.ref 16), some (.ref 2), some (.int x2), some (.int x3)] [] M) : ∀ (n : Nat) (x3 : Int32), lpX2_firstBar_14 x2 M k n x3 = some r → ow_G (ow_Γ l 1 (some .int) (ow_is (some (.int r)) M)) RX2 cX2_firstBar 4 14 [some (.ref 16), some (.ref 2), some (.int x2), some (.int x3)] [] M := by
  intro n
  induction n with
  | zero => intro _ h; cases h
  | succ n ih =>
    intro x3 h
    unfold lpX2_firstBar_14 at h
    refine gw_iload3 dX2_firstBar_14 ?_
    refine gw_aload1 dX2_firstBar_15 ?_
    refine gw_getI dX2_firstBar_16 fkX2_24 rfl rfl ?_
    refine gw_icmp_ge (tgt := 59) dX2_firstBar_19 rfl (fun h2 => ?_) (fun h2 => ?_)
    · replace h := (if_pos h2).symm.trans h
      exact hk _ h
    · replace h := (if_neg h2).symm.trans h
      refine gw_aload0 dX2_firstBar_22 ?_
      refine gw_getR dX2_firstBar_23 fkX2_9 rfl rfl ?_
      refine gw_iload3 dX2_firstBar_26 ?_
      by_cases h3 : ow_inn x3 7
      rotate_left
      · replace h := (if_neg h3).symm.trans h
        cases h
      replace h := (if_pos h3).symm.trans h
      refine gw_iald dX2_firstBar_27 rfl h3 ?_
      refine gw_aload0 dX2_firstBar_28 ?_
      refine gw_getR dX2_firstBar_29 fkX2_9 rfl rfl ?_
      refine gw_iload2 dX2_firstBar_32 ?_
      by_cases h4 : ow_inn x2 7
      rotate_left
      · replace h := (if_neg h4).symm.trans h
        cases h
      replace h := (if_pos h4).symm.trans h
      refine gw_iald dX2_firstBar_33 rfl h4 ?_
      refine gw_icmp_ge (tgt := 53) dX2_firstBar_34 rfl (fun h5 => ?_) (fun h5 => ?_)
      · replace h := (if_pos h5).symm.trans h
        refine gw_iinc3 1 dX2_firstBar_53 (by decide) rfl (by decide) ?_
        refine gw_goto (tgt := 14) rfl dX2_firstBar_56 ?_
        exact ih _ h
      · replace h := (if_neg h5).symm.trans h
        refine gw_aload1 dX2_firstBar_37 ?_
        refine gw_iload2 dX2_firstBar_38 ?_
        refine gw_iload3 dX2_firstBar_39 ?_
        obtain ⟨v7, hc6, h⟩ := ow_b_some h
        refine gw_cSI3 dX2_firstBar_40 lkX2_43 mkX2_mayChange (ow_rm_in rfl rfl) (ctX2_mayChange l hc6) rfl ?_
        refine gw_if_ne (tgt := 53) dX2_firstBar_43 rfl (fun h8 => ?_) (fun h8 => ?_)
        · replace h := (if_neg h8).symm.trans h
          refine gw_iinc3 1 dX2_firstBar_53 (by decide) rfl (by decide) ?_
          refine gw_goto (tgt := 14) rfl dX2_firstBar_56 ?_
          exact ih _ h
        · replace h := (if_pos h8).symm.trans h
          refine gw_bipush 10 dX2_firstBar_46 (by decide) ?_
          refine gw_iload2 dX2_firstBar_48 ?_
          refine gw_imul dX2_firstBar_49 ?_
          refine gw_iload3 dX2_firstBar_50 ?_
          refine gw_iadd dX2_firstBar_51 ?_
          have hA := Option.some.inj h
          subst hA
          exact gw_iret dX2_firstBar_52 ⟨rfl, rfl⟩

def lpX2_firstBar_2  (M : ow_M) (k : Int32 → Option Int32) : Nat → Int32 → Option Int32
  | 0, _ => none
  | n + 1, x2 => (if (M.1 2 0) ≤ x2 then k x2 else lpX2_firstBar_14 x2 M (fun u9 => lpX2_firstBar_2 M k n (x2 + 1)) ow_N (x2 + 1))
set_option maxRecDepth 100000 in
set_option maxHeartbeats 4000000 in
theorem tlpX2_firstBar_2 (l : Launch)  {M : ow_M} {k : Int32 → Option Int32} {r : Int32}  (hk : ∀ (x2 : Int32), k x2 = some r → ow_G (ow_Γ l 1 (some .int) (ow_is (some (.int r)) M)) RX2 cX2_firstBar 4 65 [some (.ref 16), some (.ref 2), some (.int x2), none] [] M) : ∀ (n : Nat) (x2 : Int32), lpX2_firstBar_2  M k n x2 = some r → ow_G (ow_Γ l 1 (some .int) (ow_is (some (.int r)) M)) RX2 cX2_firstBar 4 2 [some (.ref 16), some (.ref 2), some (.int x2), none] [] M := by
  intro n
  induction n with
  | zero => intro _ h; cases h
  | succ n ih =>
    intro x2 h
    unfold lpX2_firstBar_2 at h
    refine gw_iload2 dX2_firstBar_2 ?_
    refine gw_aload1 dX2_firstBar_3 ?_
    refine gw_getI dX2_firstBar_4 fkX2_24 rfl rfl ?_
    refine gw_icmp_ge (tgt := 65) dX2_firstBar_7 rfl (fun h1 => ?_) (fun h1 => ?_)
    · replace h := (if_pos h1).symm.trans h
      exact hk _ h
    · replace h := (if_neg h1).symm.trans h
      refine gw_iload2 dX2_firstBar_10 ?_
      refine gw_ic1 dX2_firstBar_11 ?_
      refine gw_iadd dX2_firstBar_12 ?_
      refine gw_istore3 dX2_firstBar_13 (by decide) rfl ?_
      refine tlpX2_firstBar_14 l ?_ _ _ h
      intro u9 h
      refine gw_iinc2 1 dX2_firstBar_59 (by decide) rfl (by decide) ?_
      refine gw_goto (tgt := 2) rfl dX2_firstBar_62 ?_
      refine gw_drp3 ?_
      exact ih _ h

def fX2_firstBar  (M : ow_M) : Option Int32 := lpX2_firstBar_2 M (fun u10 => some (-9)) ow_N 0
set_option maxRecDepth 100000 in
set_option maxHeartbeats 4000000 in
theorem ctX2_firstBar (l : Launch)  {M : ow_M} {r : Int32}  (h : fX2_firstBar M = some r) : ow_F l 1 yX2_firstBar cX2_firstBar 4 (some .int) [.ref 16, .ref 2] M (some (.int r)) M := by
  unfold fX2_firstBar at h
  refine ow_enterO (own := RX2) rfl (by decide +kernel) rfl (ls := [some (.ref 16), some (.ref 2), none, none]) rfl ?_
  refine gw_ic0 dX2_firstBar_0 ?_
  refine gw_istore2 dX2_firstBar_1 (by decide) rfl ?_
  refine tlpX2_firstBar_2 l ?_ _ _ h
  intro u10 h
  refine gw_bipush (-9) dX2_firstBar_65 (by decide) ?_
  have hA := Option.some.inj h
  subst hA
  exact gw_iret dX2_firstBar_67 ⟨rfl, rfl⟩

def lpX2_changes_17 (x3 : Int32) (M : ow_M) (k : Int32 → Int32 → Option Int32) : Nat → Int32 → Int32 → Option Int32
  | 0, _, _ => none
  | n + 1, x2, x4 => (if (M.1 2 0) ≤ x4 then k x2 x4 else if ow_inn x4 7 then if ow_inn x3 7 then (if (M.1 17 x3.toNatClampNeg) ≤ (M.1 17 x4.toNatClampNeg) then lpX2_changes_17 x3 M k n x2 (x4 + 1) else lpX2_changes_17 x3 M k n (x2 + 1) (x4 + 1)) else none else none)
set_option maxRecDepth 100000 in
set_option maxHeartbeats 4000000 in
theorem tlpX2_changes_17 (l : Launch) {x3 : Int32} {M : ow_M} {k : Int32 → Int32 → Option Int32} {r : Int32}  (hk : ∀ (x2 : Int32) (x4 : Int32), k x2 x4 = some r → ow_G (ow_Γ l 0 (some .int) (ow_is (some (.int r)) M)) RX2 cX2_changes 5 51 [some (.ref 16), some (.ref 2), some (.int x2), some (.int x3), some (.int x4)] [] M) : ∀ (n : Nat) (x2 : Int32) (x4 : Int32), lpX2_changes_17 x3 M k n x2 x4 = some r → ow_G (ow_Γ l 0 (some .int) (ow_is (some (.int r)) M)) RX2 cX2_changes 5 17 [some (.ref 16), some (.ref 2), some (.int x2), some (.int x3), some (.int x4)] [] M := by
  intro n
  induction n with
  | zero => intro _ _ h; cases h
  | succ n ih =>
    intro x2 x4 h
    unfold lpX2_changes_17 at h
    refine gw_iload4 dX2_changes_17 ?_
    refine gw_aload1 dX2_changes_19 ?_
    refine gw_getI dX2_changes_20 fkX2_24 rfl rfl ?_
    refine gw_icmp_ge (tgt := 51) dX2_changes_23 rfl (fun h2 => ?_) (fun h2 => ?_)
    · replace h := (if_pos h2).symm.trans h
      exact hk _ _ h
    · replace h := (if_neg h2).symm.trans h
      refine gw_aload0 dX2_changes_26 ?_
      refine gw_getR dX2_changes_27 fkX2_9 rfl rfl ?_
      refine gw_iload4 dX2_changes_30 ?_
      by_cases h3 : ow_inn x4 7
      rotate_left
      · replace h := (if_neg h3).symm.trans h
        cases h
      replace h := (if_pos h3).symm.trans h
      refine gw_iald dX2_changes_32 rfl h3 ?_
      refine gw_aload0 dX2_changes_33 ?_
      refine gw_getR dX2_changes_34 fkX2_9 rfl rfl ?_
      refine gw_iload3 dX2_changes_37 ?_
      by_cases h4 : ow_inn x3 7
      rotate_left
      · replace h := (if_neg h4).symm.trans h
        cases h
      replace h := (if_pos h4).symm.trans h
      refine gw_iald dX2_changes_38 rfl h4 ?_
      refine gw_icmp_ge (tgt := 45) dX2_changes_39 rfl (fun h5 => ?_) (fun h5 => ?_)
      · replace h := (if_pos h5).symm.trans h
        refine gw_iinc4 1 dX2_changes_45 (by decide) rfl (by decide) ?_
        refine gw_goto (tgt := 17) rfl dX2_changes_48 ?_
        exact ih _ _ h
      · replace h := (if_neg h5).symm.trans h
        refine gw_iinc2 1 dX2_changes_42 (by decide) rfl (by decide) ?_
        refine gw_iinc4 1 dX2_changes_45 (by decide) rfl (by decide) ?_
        refine gw_goto (tgt := 17) rfl dX2_changes_48 ?_
        exact ih _ _ h

def lpX2_changes_4  (M : ow_M) (k : Int32 → Int32 → Option Int32) : Nat → Int32 → Int32 → Option Int32
  | 0, _, _ => none
  | n + 1, x2, x3 => (if (M.1 2 0) ≤ x3 then k x2 x3 else lpX2_changes_17 x3 M (fun u6 u7 => lpX2_changes_4 M k n u6 (x3 + 1)) ow_N x2 (x3 + 1))
set_option maxRecDepth 100000 in
set_option maxHeartbeats 4000000 in
theorem tlpX2_changes_4 (l : Launch)  {M : ow_M} {k : Int32 → Int32 → Option Int32} {r : Int32}  (hk : ∀ (x2 : Int32) (x3 : Int32), k x2 x3 = some r → ow_G (ow_Γ l 0 (some .int) (ow_is (some (.int r)) M)) RX2 cX2_changes 5 57 [some (.ref 16), some (.ref 2), some (.int x2), some (.int x3), none] [] M) : ∀ (n : Nat) (x2 : Int32) (x3 : Int32), lpX2_changes_4  M k n x2 x3 = some r → ow_G (ow_Γ l 0 (some .int) (ow_is (some (.int r)) M)) RX2 cX2_changes 5 4 [some (.ref 16), some (.ref 2), some (.int x2), some (.int x3), none] [] M := by
  intro n
  induction n with
  | zero => intro _ _ h; cases h
  | succ n ih =>
    intro x2 x3 h
    unfold lpX2_changes_4 at h
    refine gw_iload3 dX2_changes_4 ?_
    refine gw_aload1 dX2_changes_5 ?_
    refine gw_getI dX2_changes_6 fkX2_24 rfl rfl ?_
    refine gw_icmp_ge (tgt := 57) dX2_changes_9 rfl (fun h1 => ?_) (fun h1 => ?_)
    · replace h := (if_pos h1).symm.trans h
      exact hk _ _ h
    · replace h := (if_neg h1).symm.trans h
      refine gw_iload3 dX2_changes_12 ?_
      refine gw_ic1 dX2_changes_13 ?_
      refine gw_iadd dX2_changes_14 ?_
      refine gw_istore4 dX2_changes_15 (by decide) rfl ?_
      refine tlpX2_changes_17 l ?_ _ _ _ h
      intro u6 u7 h
      refine gw_iinc3 1 dX2_changes_51 (by decide) rfl (by decide) ?_
      refine gw_goto (tgt := 4) rfl dX2_changes_54 ?_
      refine gw_drp4 ?_
      exact ih _ _ h

def fX2_changes  (M : ow_M) : Option Int32 := lpX2_changes_4 M (fun u8 u9 => some u8) ow_N 0 0
set_option maxRecDepth 100000 in
set_option maxHeartbeats 4000000 in
theorem ctX2_changes (l : Launch)  {M : ow_M} {r : Int32}  (h : fX2_changes M = some r) : ow_F l 0 yX2_changes cX2_changes 5 (some .int) [.ref 16, .ref 2] M (some (.int r)) M := by
  unfold fX2_changes at h
  refine ow_enterO (own := RX2) rfl (by decide +kernel) rfl (ls := [some (.ref 16), some (.ref 2), none, none, none]) rfl ?_
  refine gw_ic0 dX2_changes_0 ?_
  refine gw_istore2 dX2_changes_1 (by decide) rfl ?_
  refine gw_ic0 dX2_changes_2 ?_
  refine gw_istore3 dX2_changes_3 (by decide) rfl ?_
  refine tlpX2_changes_4 l ?_ _ _ _ h
  intro u8 u9 h
  refine gw_iload2 dX2_changes_57 ?_
  have hA := Option.some.inj h
  subst hA
  exact gw_iret dX2_changes_58 ⟨rfl, rfl⟩

def lpX2_mustBeAhead_4 (x1 : Int32) (M : ow_M) (k : Int32 → Int32 → Option Int32) : Nat → Int32 → Int32 → Option Int32
  | 0, _, _ => none
  | n + 1, x2, x3 => (if x1 ≤ x3 then k x2 x3 else Option.bind (fX2_mayChange x3 x1 M) (fun v3 => (if v3 = 0 then lpX2_mustBeAhead_4 x1 M k n (x2 ||| (1 <<< (x3 &&& 31))) (x3 + 1) else lpX2_mustBeAhead_4 x1 M k n x2 (x3 + 1))))
set_option maxRecDepth 100000 in
set_option maxHeartbeats 4000000 in
theorem tlpX2_mustBeAhead_4 (l : Launch) {x1 : Int32} {M : ow_M} {k : Int32 → Int32 → Option Int32} {r : Int32}  (hk : ∀ (x2 : Int32) (x3 : Int32), k x2 x3 = some r → ow_G (ow_Γ l 1 (some .int) (ow_is (some (.int r)) M)) RX2 cX2_mustBeAhead 4 30 [some (.ref 2), some (.int x1), some (.int x2), some (.int x3)] [] M) : ∀ (n : Nat) (x2 : Int32) (x3 : Int32), lpX2_mustBeAhead_4 x1 M k n x2 x3 = some r → ow_G (ow_Γ l 1 (some .int) (ow_is (some (.int r)) M)) RX2 cX2_mustBeAhead 4 4 [some (.ref 2), some (.int x1), some (.int x2), some (.int x3)] [] M := by
  intro n
  induction n with
  | zero => intro _ _ h; cases h
  | succ n ih =>
    intro x2 x3 h
    unfold lpX2_mustBeAhead_4 at h
    refine gw_iload3 dX2_mustBeAhead_4 ?_
    refine gw_iload1 dX2_mustBeAhead_5 ?_
    refine gw_icmp_ge (tgt := 30) dX2_mustBeAhead_6 rfl (fun h1 => ?_) (fun h1 => ?_)
    · replace h := (if_pos h1).symm.trans h
      exact hk _ _ h
    · replace h := (if_neg h1).symm.trans h
      refine gw_aload0 dX2_mustBeAhead_9 ?_
      refine gw_iload3 dX2_mustBeAhead_10 ?_
      refine gw_iload1 dX2_mustBeAhead_11 ?_
      obtain ⟨v3, hc2, h⟩ := ow_b_some h
      refine gw_cSI3 dX2_mustBeAhead_12 lkX2_43 mkX2_mayChange (ow_rm_in rfl rfl) (ctX2_mayChange l hc2) rfl ?_
      refine gw_if_ne (tgt := 24) dX2_mustBeAhead_15 rfl (fun h4 => ?_) (fun h4 => ?_)
      · replace h := (if_neg h4).symm.trans h
        refine gw_iinc3 1 dX2_mustBeAhead_24 (by decide) rfl (by decide) ?_
        refine gw_goto (tgt := 4) rfl dX2_mustBeAhead_27 ?_
        exact ih _ _ h
      · replace h := (if_pos h4).symm.trans h
        refine gw_iload2 dX2_mustBeAhead_18 ?_
        refine gw_ic1 dX2_mustBeAhead_19 ?_
        refine gw_iload3 dX2_mustBeAhead_20 ?_
        refine gw_ishl dX2_mustBeAhead_21 ?_
        refine gw_ior dX2_mustBeAhead_22 ?_
        refine gw_istore2 dX2_mustBeAhead_23 (by decide) rfl ?_
        refine gw_iinc3 1 dX2_mustBeAhead_24 (by decide) rfl (by decide) ?_
        refine gw_goto (tgt := 4) rfl dX2_mustBeAhead_27 ?_
        exact ih _ _ h

def fX2_mustBeAhead (x1 : Int32) (M : ow_M) : Option Int32 := lpX2_mustBeAhead_4 x1 M (fun u5 u6 => some u5) ow_N 0 0
set_option maxRecDepth 100000 in
set_option maxHeartbeats 4000000 in
theorem ctX2_mustBeAhead (l : Launch) {x1 : Int32} {M : ow_M} {r : Int32}  (h : fX2_mustBeAhead x1 M = some r) : ow_F l 1 yX2_mustBeAhead cX2_mustBeAhead 4 (some .int) [.ref 2, .int x1] M (some (.int r)) M := by
  unfold fX2_mustBeAhead at h
  refine ow_enterO (own := RX2) rfl (by decide +kernel) rfl (ls := [some (.ref 2), some (.int x1), none, none]) rfl ?_
  refine gw_ic0 dX2_mustBeAhead_0 ?_
  refine gw_istore2 dX2_mustBeAhead_1 (by decide) rfl ?_
  refine gw_ic0 dX2_mustBeAhead_2 ?_
  refine gw_istore3 dX2_mustBeAhead_3 (by decide) rfl ?_
  refine tlpX2_mustBeAhead_4 l ?_ _ _ _ h
  intro u5 u6 h
  refine gw_iload2 dX2_mustBeAhead_30 ?_
  have hA := Option.some.inj h
  subst hA
  exact gw_iret dX2_mustBeAhead_31 ⟨rfl, rfl⟩

def lpX2_howManyCome_40 (x2 : Int32) (x3 : Int32) (k : Int32 → ow_M → Option (Int32 × ow_M)) : Nat → Int32 → ow_M → Option (Int32 × ow_M)
  | 0, _, _ => none
  | n + 1, x4, M => (if (M.1 2 0) ≤ x4 then k x4 M else (if (x3 &&& (1 <<< (x4 &&& 31))) = 0 then lpX2_howManyCome_40 x2 x3 k n (x4 + 1) M else Option.bind (fX2_mustBeAhead x4 M) (fun v8 => (if (v8 &&& (x3 ^^^ (-1))) = 0 then if ow_inn x3 128 then if ow_inn (x3 ^^^ (1 <<< (x4 &&& 31))) 128 then if ow_inn x3 128 then lpX2_howManyCome_40 x2 x3 k n (x4 + 1) (ow_up M 18 x3.toNatClampNeg ((M.1 18 x3.toNatClampNeg) + (M.1 18 (x3 ^^^ (1 <<< (x4 &&& 31))).toNatClampNeg))) else none else none else none else lpX2_howManyCome_40 x2 x3 k n (x4 + 1) M))))
set_option maxRecDepth 100000 in
set_option maxHeartbeats 4000000 in
theorem tlpX2_howManyCome_40 (l : Launch) {x2 : Int32} {x3 : Int32} {k : Int32 → ow_M → Option (Int32 × ow_M)} {r : Int32} {M9 : ow_M}  (hk : ∀ (x4 : Int32) (M : ow_M), k x4 M = some (r, M9) → ow_G (ow_Γ l 2 (some .int) (ow_is (some (.int r)) M9)) RX2 cX2_howManyCome 6 99 [some (.ref 16), some (.ref 2), some (.int x2), some (.int x3), some (.int x4), none] [] M) : ∀ (n : Nat) (x4 : Int32) (M : ow_M), lpX2_howManyCome_40 x2 x3 k n x4 M = some (r, M9) → ow_G (ow_Γ l 2 (some .int) (ow_is (some (.int r)) M9)) RX2 cX2_howManyCome 6 40 [some (.ref 16), some (.ref 2), some (.int x2), some (.int x3), some (.int x4), none] [] M := by
  intro n
  induction n with
  | zero => intro _ _ h; cases h
  | succ n ih =>
    intro x4 M h
    unfold lpX2_howManyCome_40 at h
    refine gw_iload4 dX2_howManyCome_40 ?_
    refine gw_aload1 dX2_howManyCome_42 ?_
    refine gw_getI dX2_howManyCome_43 fkX2_24 rfl rfl ?_
    refine gw_icmp_ge (tgt := 99) dX2_howManyCome_46 rfl (fun h5 => ?_) (fun h5 => ?_)
    · replace h := (if_pos h5).symm.trans h
      exact hk _ _ h
    · replace h := (if_neg h5).symm.trans h
      refine gw_ic1 dX2_howManyCome_49 ?_
      refine gw_iload4 dX2_howManyCome_50 ?_
      refine gw_ishl dX2_howManyCome_52 ?_
      refine gw_istore5 dX2_howManyCome_53 (by decide) rfl ?_
      refine gw_iload3 dX2_howManyCome_55 ?_
      refine gw_iload5 dX2_howManyCome_56 ?_
      refine gw_iand dX2_howManyCome_58 ?_
      refine gw_if_eq (tgt := 93) dX2_howManyCome_59 rfl (fun h6 => ?_) (fun h6 => ?_)
      · replace h := (if_pos h6).symm.trans h
        refine gw_iinc4 1 dX2_howManyCome_93 (by decide) rfl (by decide) ?_
        refine gw_goto (tgt := 40) rfl dX2_howManyCome_96 ?_
        refine gw_drp5 ?_
        exact ih _ _ h
      · replace h := (if_neg h6).symm.trans h
        refine gw_aload1 dX2_howManyCome_62 ?_
        refine gw_iload4 dX2_howManyCome_63 ?_
        obtain ⟨v8, hc7, h⟩ := ow_b_some h
        refine gw_cSI2 dX2_howManyCome_65 lkX2_47 mkX2_mustBeAhead (ow_rm_in rfl rfl) (ctX2_mustBeAhead l hc7) rfl ?_
        refine gw_iload3 dX2_howManyCome_68 ?_
        refine gw_icm1 dX2_howManyCome_69 ?_
        refine gw_ixor dX2_howManyCome_70 ?_
        refine gw_iand dX2_howManyCome_71 ?_
        refine gw_if_ne (tgt := 93) dX2_howManyCome_72 rfl (fun h9 => ?_) (fun h9 => ?_)
        · replace h := (if_neg h9).symm.trans h
          refine gw_iinc4 1 dX2_howManyCome_93 (by decide) rfl (by decide) ?_
          refine gw_goto (tgt := 40) rfl dX2_howManyCome_96 ?_
          refine gw_drp5 ?_
          exact ih _ _ h
        · replace h := (if_pos h9).symm.trans h
          refine gw_aload0 dX2_howManyCome_75 ?_
          refine gw_getR dX2_howManyCome_76 fkX2_15 rfl rfl ?_
          refine gw_iload3 dX2_howManyCome_79 ?_
          refine gw_dup2 rfl rfl dX2_howManyCome_80 ?_
          by_cases h10 : ow_inn x3 128
          rotate_left
          · replace h := (if_neg h10).symm.trans h
            cases h
          replace h := (if_pos h10).symm.trans h
          refine gw_iald dX2_howManyCome_81 rfl h10 ?_
          refine gw_aload0 dX2_howManyCome_82 ?_
          refine gw_getR dX2_howManyCome_83 fkX2_15 rfl rfl ?_
          refine gw_iload3 dX2_howManyCome_86 ?_
          refine gw_iload5 dX2_howManyCome_87 ?_
          refine gw_ixor dX2_howManyCome_89 ?_
          by_cases h11 : ow_inn (x3 ^^^ (1 <<< (x4 &&& 31))) 128
          rotate_left
          · replace h := (if_neg h11).symm.trans h
            cases h
          replace h := (if_pos h11).symm.trans h
          refine gw_iald dX2_howManyCome_90 rfl h11 ?_
          refine gw_iadd dX2_howManyCome_91 ?_
          by_cases h12 : ow_inn x3 128
          rotate_left
          · replace h := (if_neg h12).symm.trans h
            cases h
          replace h := (if_pos h12).symm.trans h
          refine gw_iast dX2_howManyCome_92 rfl h12 ?_
          refine gw_iinc4 1 dX2_howManyCome_93 (by decide) rfl (by decide) ?_
          refine gw_goto (tgt := 40) rfl dX2_howManyCome_96 ?_
          refine gw_drp5 ?_
          exact ih _ _ h

def lpX2_howManyCome_16 (x2 : Int32) (k : Int32 → ow_M → Option (Int32 × ow_M)) : Nat → Int32 → ow_M → Option (Int32 × ow_M)
  | 0, _, _ => none
  | n + 1, x3, M => (if x2 ≤ x3 then k x3 M else (if 128 ≤ x3 then k x3 M else if ow_inn x3 128 then lpX2_howManyCome_40 x2 x3 (fun u13 M14 => lpX2_howManyCome_16 x2 k n (x3 + 1) M14) ow_N 0 (ow_up M 18 x3.toNatClampNeg 0) else none))
set_option maxRecDepth 100000 in
set_option maxHeartbeats 4000000 in
theorem tlpX2_howManyCome_16 (l : Launch) {x2 : Int32} {k : Int32 → ow_M → Option (Int32 × ow_M)} {r : Int32} {M9 : ow_M}  (hk : ∀ (x3 : Int32) (M : ow_M), k x3 M = some (r, M9) → ow_G (ow_Γ l 2 (some .int) (ow_is (some (.int r)) M9)) RX2 cX2_howManyCome 6 105 [some (.ref 16), some (.ref 2), some (.int x2), some (.int x3), none, none] [] M) : ∀ (n : Nat) (x3 : Int32) (M : ow_M), lpX2_howManyCome_16 x2 k n x3 M = some (r, M9) → ow_G (ow_Γ l 2 (some .int) (ow_is (some (.int r)) M9)) RX2 cX2_howManyCome 6 16 [some (.ref 16), some (.ref 2), some (.int x2), some (.int x3), none, none] [] M := by
  intro n
  induction n with
  | zero => intro _ _ h; cases h
  | succ n ih =>
    intro x3 M h
    unfold lpX2_howManyCome_16 at h
    refine gw_iload3 dX2_howManyCome_16 ?_
    refine gw_iload2 dX2_howManyCome_17 ?_
    refine gw_icmp_ge (tgt := 105) dX2_howManyCome_18 rfl (fun h2 => ?_) (fun h2 => ?_)
    · replace h := (if_pos h2).symm.trans h
      exact hk _ _ h
    · replace h := (if_neg h2).symm.trans h
      refine gw_iload3 dX2_howManyCome_21 ?_
      refine gw_aload0 dX2_howManyCome_22 ?_
      refine gw_getR dX2_howManyCome_23 fkX2_15 rfl rfl ?_
      refine gw_alen 128 dX2_howManyCome_26 rfl rfl (by decide) ?_
      refine gw_icmp_ge (tgt := 105) dX2_howManyCome_27 rfl (fun h3 => ?_) (fun h3 => ?_)
      · replace h := (if_pos h3).symm.trans h
        exact hk _ _ h
      · replace h := (if_neg h3).symm.trans h
        refine gw_aload0 dX2_howManyCome_30 ?_
        refine gw_getR dX2_howManyCome_31 fkX2_15 rfl rfl ?_
        refine gw_iload3 dX2_howManyCome_34 ?_
        refine gw_ic0 dX2_howManyCome_35 ?_
        by_cases h4 : ow_inn x3 128
        rotate_left
        · replace h := (if_neg h4).symm.trans h
          cases h
        replace h := (if_pos h4).symm.trans h
        refine gw_iast dX2_howManyCome_36 rfl h4 ?_
        refine gw_ic0 dX2_howManyCome_37 ?_
        refine gw_istore4 dX2_howManyCome_38 (by decide) rfl ?_
        refine tlpX2_howManyCome_40 l ?_ _ _ _ h
        intro u13 M14 h
        refine gw_iinc3 1 dX2_howManyCome_99 (by decide) rfl (by decide) ?_
        refine gw_goto (tgt := 16) rfl dX2_howManyCome_102 ?_
        refine gw_drp4 ?_
        exact ih _ _ h

def fX2_howManyCome  (M : ow_M) : Option (Int32 × ow_M) := if ow_inn 0 128 then lpX2_howManyCome_16 (1 <<< ((M.1 2 0) &&& 31)) (fun u15 M16 => if ow_inn ((1 <<< ((M.1 2 0) &&& 31)) - 1) 128 then some ((M16.1 18 ((1 <<< ((M.1 2 0) &&& 31)) - 1).toNatClampNeg), M16) else none) ow_N 1 (ow_up M 18 (0 : Int32).toNatClampNeg 1) else none
set_option maxRecDepth 100000 in
set_option maxHeartbeats 4000000 in
theorem ctX2_howManyCome (l : Launch)  {M : ow_M} {r : Int32} {M9 : ow_M}  (h : fX2_howManyCome M = some (r, M9)) : ow_F l 2 yX2_howManyCome cX2_howManyCome 6 (some .int) [.ref 16, .ref 2] M (some (.int r)) M9 := by
  unfold fX2_howManyCome at h
  refine ow_enterO (own := RX2) rfl (by decide +kernel) rfl (ls := [some (.ref 16), some (.ref 2), none, none, none, none]) rfl ?_
  refine gw_ic1 dX2_howManyCome_0 ?_
  refine gw_aload1 dX2_howManyCome_1 ?_
  refine gw_getI dX2_howManyCome_2 fkX2_24 rfl rfl ?_
  refine gw_ishl dX2_howManyCome_5 ?_
  refine gw_istore2 dX2_howManyCome_6 (by decide) rfl ?_
  refine gw_aload0 dX2_howManyCome_7 ?_
  refine gw_getR dX2_howManyCome_8 fkX2_15 rfl rfl ?_
  refine gw_ic0 dX2_howManyCome_11 ?_
  refine gw_ic1 dX2_howManyCome_12 ?_
  by_cases h1 : ow_inn 0 128
  rotate_left
  · replace h := (if_neg h1).symm.trans h
    cases h
  replace h := (if_pos h1).symm.trans h
  refine gw_iast dX2_howManyCome_13 rfl h1 ?_
  refine gw_ic1 dX2_howManyCome_14 ?_
  refine gw_istore3 dX2_howManyCome_15 (by decide) rfl ?_
  refine tlpX2_howManyCome_16 l ?_ _ _ _ h
  intro u15 M16 h
  refine gw_aload0 dX2_howManyCome_105 ?_
  refine gw_getR dX2_howManyCome_106 fkX2_15 rfl rfl ?_
  refine gw_iload2 dX2_howManyCome_109 ?_
  refine gw_ic1 dX2_howManyCome_110 ?_
  refine gw_isub dX2_howManyCome_111 ?_
  by_cases h17 : ow_inn ((1 <<< ((M.1 2 0) &&& 31)) - 1) 128
  rotate_left
  · replace h := (if_neg h17).symm.trans h
    cases h
  replace h := (if_pos h17).symm.trans h
  refine gw_iald dX2_howManyCome_112 rfl h17 ?_
  obtain ⟨hA, hB⟩ := Prod.mk.inj (Option.some.inj h)
  subst hA
  subst hB
  exact gw_iret dX2_howManyCome_113 ⟨rfl, rfl⟩

def fX3_takeOne (x1 : Int32) (x2 : Int32) (x3 : Int32) (x4 : Int32) (M : ow_M) : Option (Int32 × ow_M) := (if (M.1 21 0) < 8 then if ow_inn (M.1 21 0) 8 then if ow_inn (M.1 21 0) 8 then if ow_inn (M.1 21 0) 8 then if ow_inn (M.1 21 0) 8 then some ((M.1 21 0), (ow_up (ow_up (ow_up (ow_up (ow_up M 22 (M.1 21 0).toNatClampNeg x1) 23 (M.1 21 0).toNatClampNeg x2) 24 (M.1 21 0).toNatClampNeg x3) 25 (M.1 21 0).toNatClampNeg x4) 21 0 (((ow_up (ow_up (ow_up (ow_up M 22 (M.1 21 0).toNatClampNeg x1) 23 (M.1 21 0).toNatClampNeg x2) 24 (M.1 21 0).toNatClampNeg x3) 25 (M.1 21 0).toNatClampNeg x4).1 21 0) + 1))) else none else none else none else none else some ((-4), M))
set_option maxRecDepth 100000 in
set_option maxHeartbeats 4000000 in
theorem ctX3_takeOne (l : Launch) {x1 : Int32} {x2 : Int32} {x3 : Int32} {x4 : Int32} {M : ow_M} {r : Int32} {M9 : ow_M}  (h : fX3_takeOne x1 x2 x3 x4 M = some (r, M9)) : ow_F l 0 yX3_takeOne cX3_takeOne 6 (some .int) [.ref 21, .int x1, .int x2, .int x3, .int x4] M (some (.int r)) M9 := by
  unfold fX3_takeOne at h
  refine ow_enterO (own := RX3) rfl (by decide +kernel) rfl (ls := [some (.ref 21), some (.int x1), some (.int x2), some (.int x3), some (.int x4), none]) rfl ?_
  refine gw_aload0 dX3_takeOne_0 ?_
  refine gw_getI dX3_takeOne_1 fkX3_9 rfl rfl ?_
  refine gw_bipush 8 dX3_takeOne_4 (by decide) ?_
  refine gw_icmp_lt (tgt := 12) dX3_takeOne_6 rfl (fun h1 => ?_) (fun h1 => ?_)
  · replace h := (if_pos h1).symm.trans h
    refine gw_aload0 dX3_takeOne_12 ?_
    refine gw_getI dX3_takeOne_13 fkX3_9 rfl rfl ?_
    refine gw_istore5 dX3_takeOne_16 (by decide) rfl ?_
    refine gw_aload0 dX3_takeOne_18 ?_
    refine gw_getR dX3_takeOne_19 fkX3_15 rfl rfl ?_
    refine gw_iload5 dX3_takeOne_22 ?_
    refine gw_iload1 dX3_takeOne_24 ?_
    by_cases h2 : ow_inn (M.1 21 0) 8
    rotate_left
    · replace h := (if_neg h2).symm.trans h
      cases h
    replace h := (if_pos h2).symm.trans h
    refine gw_iast dX3_takeOne_25 rfl h2 ?_
    refine gw_aload0 dX3_takeOne_26 ?_
    refine gw_getR dX3_takeOne_27 fkX3_19 rfl rfl ?_
    refine gw_iload5 dX3_takeOne_30 ?_
    refine gw_iload2 dX3_takeOne_32 ?_
    by_cases h3 : ow_inn (M.1 21 0) 8
    rotate_left
    · replace h := (if_neg h3).symm.trans h
      cases h
    replace h := (if_pos h3).symm.trans h
    refine gw_iast dX3_takeOne_33 rfl h3 ?_
    refine gw_aload0 dX3_takeOne_34 ?_
    refine gw_getR dX3_takeOne_35 fkX3_22 rfl rfl ?_
    refine gw_iload5 dX3_takeOne_38 ?_
    refine gw_iload3 dX3_takeOne_40 ?_
    by_cases h4 : ow_inn (M.1 21 0) 8
    rotate_left
    · replace h := (if_neg h4).symm.trans h
      cases h
    replace h := (if_pos h4).symm.trans h
    refine gw_iast dX3_takeOne_41 rfl h4 ?_
    refine gw_aload0 dX3_takeOne_42 ?_
    refine gw_getR dX3_takeOne_43 fkX3_25 rfl rfl ?_
    refine gw_iload5 dX3_takeOne_46 ?_
    refine gw_iload4 dX3_takeOne_48 ?_
    by_cases h5 : ow_inn (M.1 21 0) 8
    rotate_left
    · replace h := (if_neg h5).symm.trans h
      cases h
    replace h := (if_pos h5).symm.trans h
    refine gw_iast dX3_takeOne_50 rfl h5 ?_
    refine gw_aload0 dX3_takeOne_51 ?_
    refine gw_dup rfl dX3_takeOne_52 ?_
    refine gw_getI dX3_takeOne_53 fkX3_9 rfl rfl ?_
    refine gw_ic1 dX3_takeOne_56 ?_
    refine gw_iadd dX3_takeOne_57 ?_
    refine gw_putI dX3_takeOne_58 fkX3_9 fp3_0 rfl rfl ?_
    refine gw_iload5 dX3_takeOne_61 ?_
    obtain ⟨hA, hB⟩ := Prod.mk.inj (Option.some.inj h)
    subst hA
    subst hB
    exact gw_iret dX3_takeOne_63 ⟨rfl, rfl⟩
  · replace h := (if_neg h1).symm.trans h
    refine gw_bipush (-4) dX3_takeOne_9 (by decide) ?_
    obtain ⟨hA, hB⟩ := Prod.mk.inj (Option.some.inj h)
    subst hA
    subst hB
    exact gw_iret dX3_takeOne_11 ⟨rfl, rfl⟩

def fX5_hear (x1 : Int32) (x2 : Int32) (x3 : Int32) (M : ow_M) : Option ow_M := (if x1 < 0 then some M else (if 7 ≤ x1 then some M else if ow_inn x1 7 then (if (M.1 10 x1.toNatClampNeg) = (-9) then if ow_inn x1 7 then if ow_inn x1 7 then some (ow_up (ow_up M 9 x1.toNatClampNeg x2) 10 x1.toNatClampNeg x3) else none else none else some M) else none))
set_option maxRecDepth 100000 in
set_option maxHeartbeats 4000000 in
theorem ctX5_hear (l : Launch) {x1 : Int32} {x2 : Int32} {x3 : Int32} {M : ow_M} {M9 : ow_M}  (h : fX5_hear x1 x2 x3 M = some M9) : ow_F l 0 yX5_hear cX5_hear 4 none [.ref 8, .int x1, .int x2, .int x3] M none M9 := by
  unfold fX5_hear at h
  refine ow_enterO (own := RX5) rfl (by decide +kernel) rfl (ls := [some (.ref 8), some (.int x1), some (.int x2), some (.int x3)]) rfl ?_
  refine gw_iload1 dX5_hear_0 ?_
  refine gw_if_lt (tgt := 38) dX5_hear_1 rfl (fun h1 => ?_) (fun h1 => ?_)
  · replace h := (if_pos h1).symm.trans h
    have hA := Option.some.inj h
    subst hA
    exact gw_vret dX5_hear_38 ⟨rfl, rfl⟩
  · replace h := (if_neg h1).symm.trans h
    refine gw_iload1 dX5_hear_4 ?_
    refine gw_aload0 dX5_hear_5 ?_
    refine gw_getR dX5_hear_6 fkX5_15 rfl rfl ?_
    refine gw_alen 7 dX5_hear_9 rfl rfl (by decide) ?_
    refine gw_icmp_ge (tgt := 38) dX5_hear_10 rfl (fun h2 => ?_) (fun h2 => ?_)
    · replace h := (if_pos h2).symm.trans h
      have hA := Option.some.inj h
      subst hA
      exact gw_vret dX5_hear_38 ⟨rfl, rfl⟩
    · replace h := (if_neg h2).symm.trans h
      refine gw_aload0 dX5_hear_13 ?_
      refine gw_getR dX5_hear_14 fkX5_15 rfl rfl ?_
      refine gw_iload1 dX5_hear_17 ?_
      by_cases h3 : ow_inn x1 7
      rotate_left
      · replace h := (if_neg h3).symm.trans h
        cases h
      replace h := (if_pos h3).symm.trans h
      refine gw_iald dX5_hear_18 rfl h3 ?_
      refine gw_bipush (-9) dX5_hear_19 (by decide) ?_
      refine gw_icmp_ne (tgt := 38) dX5_hear_21 rfl (fun h4 => ?_) (fun h4 => ?_)
      · replace h := (if_neg h4).symm.trans h
        have hA := Option.some.inj h
        subst hA
        exact gw_vret dX5_hear_38 ⟨rfl, rfl⟩
      · replace h := (if_pos h4).symm.trans h
        refine gw_aload0 dX5_hear_24 ?_
        refine gw_getR dX5_hear_25 fkX5_9 rfl rfl ?_
        refine gw_iload1 dX5_hear_28 ?_
        refine gw_iload2 dX5_hear_29 ?_
        by_cases h5 : ow_inn x1 7
        rotate_left
        · replace h := (if_neg h5).symm.trans h
          cases h
        replace h := (if_pos h5).symm.trans h
        refine gw_iast dX5_hear_30 rfl h5 ?_
        refine gw_aload0 dX5_hear_31 ?_
        refine gw_getR dX5_hear_32 fkX5_15 rfl rfl ?_
        refine gw_iload1 dX5_hear_35 ?_
        refine gw_iload3 dX5_hear_36 ?_
        by_cases h6 : ow_inn x1 7
        rotate_left
        · replace h := (if_neg h6).symm.trans h
          cases h
        replace h := (if_pos h6).symm.trans h
        refine gw_iast dX5_hear_37 rfl h6 ?_
        have hA := Option.some.inj h
        subst hA
        exact gw_vret dX5_hear_38 ⟨rfl, rfl⟩

def jX5_passOn_25 (x2 : Int32) (x3 : Int32) (x4 : Int32) (M : ow_M) : Option ow_M := Option.bind (fX0_isOpen x2 M) (fun v7 => (if v7 = 0 then some M else Option.bind (fX0_rightEnd x2 M) (fun v10 => Option.bind (fX5_hear v10 x3 x4 M) (fun M13 => some M13))))
set_option maxRecDepth 100000 in
set_option maxHeartbeats 4000000 in
theorem tjX5_passOn_25 (l : Launch) {x2 : Int32} {x3 : Int32} {x4 : Int32} {M : ow_M} {M9 : ow_M}  (h : jX5_passOn_25 x2 x3 x4 M = some M9) : ow_G (ow_Γ l 2 none (ow_is none M9)) RX5 cX5_passOn 6 25 [some (.ref 8), some (.ref 2), some (.int x2), some (.int x3), some (.int x4), none] [] M := by
  unfold jX5_passOn_25 at h
  refine gw_aload1 dX5_passOn_25 ?_
  refine gw_iload2 dX5_passOn_26 ?_
  obtain ⟨v7, hc6, h⟩ := ow_b_some h
  refine gw_cVI1 dX5_passOn_27 lkX5_46 mkX0_isOpen (ow_rm_in rfl rfl) rfl rfl (ctX0_isOpen l hc6) rfl ?_
  refine gw_if_eq (tgt := 45) dX5_passOn_30 rfl (fun h8 => ?_) (fun h8 => ?_)
  · replace h := (if_pos h8).symm.trans h
    have hA := Option.some.inj h
    subst hA
    exact gw_vret dX5_passOn_45 ⟨rfl, rfl⟩
  · replace h := (if_neg h8).symm.trans h
    refine gw_aload0 dX5_passOn_33 ?_
    refine gw_aload1 dX5_passOn_34 ?_
    refine gw_iload2 dX5_passOn_35 ?_
    obtain ⟨v10, hc9, h⟩ := ow_b_some h
    refine gw_cVI1 dX5_passOn_36 lkX5_53 mkX0_rightEnd (ow_rm_in rfl rfl) rfl rfl (ctX0_rightEnd l hc9) rfl ?_
    refine gw_iload3 dX5_passOn_39 ?_
    refine gw_iload4 dX5_passOn_40 ?_
    obtain ⟨M13, hc11, h⟩ := ow_b_some h
    refine gw_cVV3 dX5_passOn_42 lkX5_49 mkX5_hear (ow_rm_in rfl rfl) rfl rfl (ctX5_hear l hc11) rfl ?_
    have hA := Option.some.inj h
    subst hA
    exact gw_vret dX5_passOn_45 ⟨rfl, rfl⟩

def fX5_passOn (x2 : Int32) (x3 : Int32) (x4 : Int32) (M : ow_M) : Option ow_M := Option.bind (fX0_edgeOnLeft x2 M) (fun v2 => Option.bind (fX0_isOpen v2 M) (fun v4 => (if v4 = 0 then jX5_passOn_25 x2 x3 x4 M else Option.bind (fX5_hear v2 x3 x4 M) (fun M16 => jX5_passOn_25 x2 x3 x4 M16))))
set_option maxRecDepth 100000 in
set_option maxHeartbeats 4000000 in
theorem ctX5_passOn (l : Launch) {x2 : Int32} {x3 : Int32} {x4 : Int32} {M : ow_M} {M9 : ow_M}  (h : fX5_passOn x2 x3 x4 M = some M9) : ow_F l 2 yX5_passOn cX5_passOn 6 none [.ref 8, .ref 2, .int x2, .int x3, .int x4] M none M9 := by
  unfold fX5_passOn at h
  refine ow_enterO (own := RX5) rfl (by decide +kernel) rfl (ls := [some (.ref 8), some (.ref 2), some (.int x2), some (.int x3), some (.int x4), none]) rfl ?_
  refine gw_aload1 dX5_passOn_0 ?_
  refine gw_iload2 dX5_passOn_1 ?_
  obtain ⟨v2, hc1, h⟩ := ow_b_some h
  refine gw_cVI1 dX5_passOn_2 lkX5_42 mkX0_edgeOnLeft (ow_rm_in rfl rfl) rfl rfl (ctX0_edgeOnLeft l hc1) rfl ?_
  refine gw_istore5 dX5_passOn_5 (by decide) rfl ?_
  refine gw_aload1 dX5_passOn_7 ?_
  refine gw_iload5 dX5_passOn_8 ?_
  obtain ⟨v4, hc3, h⟩ := ow_b_some h
  refine gw_cVI1 dX5_passOn_10 lkX5_46 mkX0_isOpen (ow_rm_in rfl rfl) rfl rfl (ctX0_isOpen l hc3) rfl ?_
  refine gw_if_eq (tgt := 25) dX5_passOn_13 rfl (fun h5 => ?_) (fun h5 => ?_)
  · replace h := (if_pos h5).symm.trans h
    refine gw_drp5 ?_
    exact tjX5_passOn_25 l h
  · replace h := (if_neg h5).symm.trans h
    refine gw_aload0 dX5_passOn_16 ?_
    refine gw_iload5 dX5_passOn_17 ?_
    refine gw_iload3 dX5_passOn_19 ?_
    refine gw_iload4 dX5_passOn_20 ?_
    obtain ⟨M16, hc14, h⟩ := ow_b_some h
    refine gw_cVV3 dX5_passOn_22 lkX5_49 mkX5_hear (ow_rm_in rfl rfl) rfl rfl (ctX5_hear l hc14) rfl ?_
    refine gw_drp5 ?_
    exact tjX5_passOn_25 l h

def lpX5_tellFrom_56 (x2 : Int32) (x3 : Int32) (x4 : Int32) (k : Int32 → ow_M → Option ow_M) : Nat → Int32 → ow_M → Option ow_M
  | 0, _, _ => none
  | n + 1, x5, M => (if (M.1 2 0) ≤ x5 then k x5 M else if ow_inn x5 7 then (if (M.1 10 x5.toNatClampNeg) = (x4 - 1) then (if x5 = x2 then Option.bind (fX5_passOn x5 x3 x4 M) (fun M25 => lpX5_tellFrom_56 x2 x3 x4 k n (x5 + 1) M25) else if ow_inn x5 7 then Option.bind (fX0_altered x5 (M.1 9 x5.toNatClampNeg) M) (fun v19 => Option.bind (fX5_passOn x5 v19 x4 M) (fun M22 => lpX5_tellFrom_56 x2 x3 x4 k n (x5 + 1) M22)) else none) else lpX5_tellFrom_56 x2 x3 x4 k n (x5 + 1) M) else none)
set_option maxRecDepth 100000 in
set_option maxHeartbeats 4000000 in
theorem tlpX5_tellFrom_56 (l : Launch) {x2 : Int32} {x3 : Int32} {x4 : Int32} {k : Int32 → ow_M → Option ow_M} {M9 : ow_M}  (hk : ∀ (x5 : Int32) (M : ow_M), k x5 M = some M9 → ow_G (ow_Γ l 3 none (ow_is none M9)) RX5 cX5_tellFrom 6 117 [some (.ref 8), some (.ref 2), some (.int x2), some (.int x3), some (.int x4), some (.int x5)] [] M) : ∀ (n : Nat) (x5 : Int32) (M : ow_M), lpX5_tellFrom_56 x2 x3 x4 k n x5 M = some M9 → ow_G (ow_Γ l 3 none (ow_is none M9)) RX5 cX5_tellFrom 6 56 [some (.ref 8), some (.ref 2), some (.int x2), some (.int x3), some (.int x4), some (.int x5)] [] M := by
  intro n
  induction n with
  | zero => intro _ _ h; cases h
  | succ n ih =>
    intro x5 M h
    unfold lpX5_tellFrom_56 at h
    refine gw_iload5 dX5_tellFrom_56 ?_
    refine gw_aload1 dX5_tellFrom_58 ?_
    refine gw_getI dX5_tellFrom_59 fkX5_30 rfl rfl ?_
    refine gw_icmp_ge (tgt := 117) dX5_tellFrom_62 rfl (fun h13 => ?_) (fun h13 => ?_)
    · replace h := (if_pos h13).symm.trans h
      exact hk _ _ h
    · replace h := (if_neg h13).symm.trans h
      refine gw_aload0 dX5_tellFrom_65 ?_
      refine gw_getR dX5_tellFrom_66 fkX5_15 rfl rfl ?_
      refine gw_iload5 dX5_tellFrom_69 ?_
      by_cases h14 : ow_inn x5 7
      rotate_left
      · replace h := (if_neg h14).symm.trans h
        cases h
      replace h := (if_pos h14).symm.trans h
      refine gw_iald dX5_tellFrom_71 rfl h14 ?_
      refine gw_iload4 dX5_tellFrom_72 ?_
      refine gw_ic1 dX5_tellFrom_74 ?_
      refine gw_isub dX5_tellFrom_75 ?_
      refine gw_icmp_ne (tgt := 111) dX5_tellFrom_76 rfl (fun h15 => ?_) (fun h15 => ?_)
      · replace h := (if_neg h15).symm.trans h
        refine gw_iinc5 1 dX5_tellFrom_111 (by decide) rfl (by decide) ?_
        refine gw_goto (tgt := 56) rfl dX5_tellFrom_114 ?_
        exact ih _ _ h
      · replace h := (if_pos h15).symm.trans h
        refine gw_aload0 dX5_tellFrom_79 ?_
        refine gw_aload1 dX5_tellFrom_80 ?_
        refine gw_iload5 dX5_tellFrom_81 ?_
        refine gw_iload5 dX5_tellFrom_83 ?_
        refine gw_iload2 dX5_tellFrom_85 ?_
        refine gw_icmp_ne (tgt := 93) dX5_tellFrom_86 rfl (fun h16 => ?_) (fun h16 => ?_)
        · replace h := (if_neg h16).symm.trans h
          refine gw_aload1 dX5_tellFrom_93 ?_
          refine gw_iload5 dX5_tellFrom_94 ?_
          refine gw_aload0 dX5_tellFrom_96 ?_
          refine gw_getR dX5_tellFrom_97 fkX5_9 rfl rfl ?_
          refine gw_iload5 dX5_tellFrom_100 ?_
          by_cases h17 : ow_inn x5 7
          rotate_left
          · replace h := (if_neg h17).symm.trans h
            cases h
          replace h := (if_pos h17).symm.trans h
          refine gw_iald dX5_tellFrom_102 rfl h17 ?_
          obtain ⟨v19, hc18, h⟩ := ow_b_some h
          refine gw_cVI2 dX5_tellFrom_103 lkX5_34 mkX0_altered (ow_rm_in rfl rfl) rfl rfl (ctX0_altered l hc18) rfl ?_
          refine gw_iload4 dX5_tellFrom_106 ?_
          obtain ⟨M22, hc20, h⟩ := ow_b_some h
          refine gw_cVV4 dX5_tellFrom_108 lkX5_38 mkX5_passOn (ow_rm_in rfl rfl) rfl rfl (ctX5_passOn l hc20) rfl ?_
          refine gw_iinc5 1 dX5_tellFrom_111 (by decide) rfl (by decide) ?_
          refine gw_goto (tgt := 56) rfl dX5_tellFrom_114 ?_
          exact ih _ _ h
        · replace h := (if_pos h16).symm.trans h
          refine gw_iload3 dX5_tellFrom_89 ?_
          refine gw_goto (tgt := 106) rfl dX5_tellFrom_90 ?_
          refine gw_iload4 dX5_tellFrom_106 ?_
          obtain ⟨M25, hc23, h⟩ := ow_b_some h
          refine gw_cVV4 dX5_tellFrom_108 lkX5_38 mkX5_passOn (ow_rm_in rfl rfl) rfl rfl (ctX5_passOn l hc23) rfl ?_
          refine gw_iinc5 1 dX5_tellFrom_111 (by decide) rfl (by decide) ?_
          refine gw_goto (tgt := 56) rfl dX5_tellFrom_114 ?_
          exact ih _ _ h

def lpX5_tellFrom_44 (x2 : Int32) (x3 : Int32) (k : Int32 → ow_M → Option ow_M) : Nat → Int32 → ow_M → Option ow_M
  | 0, _, _ => none
  | n + 1, x4, M => (if (M.1 2 0) ≤ x4 then k x4 M else lpX5_tellFrom_56 x2 x3 x4 (fun u26 M27 => lpX5_tellFrom_44 x2 x3 k n (x4 + 1) M27) ow_N 0 M)
set_option maxRecDepth 100000 in
set_option maxHeartbeats 4000000 in
theorem tlpX5_tellFrom_44 (l : Launch) {x2 : Int32} {x3 : Int32} {k : Int32 → ow_M → Option ow_M} {M9 : ow_M}  (hk : ∀ (x4 : Int32) (M : ow_M), k x4 M = some M9 → ow_G (ow_Γ l 3 none (ow_is none M9)) RX5 cX5_tellFrom 6 123 [some (.ref 8), some (.ref 2), some (.int x2), some (.int x3), some (.int x4), none] [] M) : ∀ (n : Nat) (x4 : Int32) (M : ow_M), lpX5_tellFrom_44 x2 x3 k n x4 M = some M9 → ow_G (ow_Γ l 3 none (ow_is none M9)) RX5 cX5_tellFrom 6 44 [some (.ref 8), some (.ref 2), some (.int x2), some (.int x3), some (.int x4), none] [] M := by
  intro n
  induction n with
  | zero => intro _ _ h; cases h
  | succ n ih =>
    intro x4 M h
    unfold lpX5_tellFrom_44 at h
    refine gw_iload4 dX5_tellFrom_44 ?_
    refine gw_aload1 dX5_tellFrom_46 ?_
    refine gw_getI dX5_tellFrom_47 fkX5_30 rfl rfl ?_
    refine gw_icmp_ge (tgt := 123) dX5_tellFrom_50 rfl (fun h12 => ?_) (fun h12 => ?_)
    · replace h := (if_pos h12).symm.trans h
      exact hk _ _ h
    · replace h := (if_neg h12).symm.trans h
      refine gw_ic0 dX5_tellFrom_53 ?_
      refine gw_istore5 dX5_tellFrom_54 (by decide) rfl ?_
      refine tlpX5_tellFrom_56 l ?_ _ _ _ h
      intro u26 M27 h
      refine gw_iinc4 1 dX5_tellFrom_117 (by decide) rfl (by decide) ?_
      refine gw_goto (tgt := 44) rfl dX5_tellFrom_120 ?_
      refine gw_drp5 ?_
      exact ih _ _ h

def fX5_tellFrom (x2 : Int32) (x3 : Int32) (M : ow_M) : Option ow_M := Option.bind (fJ7_fill_53178 9 7 (-9) M) (fun M3 => Option.bind (fJ7_fill_53178 10 7 (-9) M3) (fun M6 => Option.bind (fX0_isPerson x2 M6) (fun v8 => (if v8 = 0 then some M6 else if ow_inn x2 7 then if ow_inn x2 7 then lpX5_tellFrom_44 x2 x3 (fun u28 M29 => some M29) ow_N 1 (ow_up (ow_up M6 9 x2.toNatClampNeg x3) 10 x2.toNatClampNeg 0) else none else none))))
set_option maxRecDepth 100000 in
set_option maxHeartbeats 4000000 in
theorem ctX5_tellFrom (l : Launch) {x2 : Int32} {x3 : Int32} {M : ow_M} {M9 : ow_M}  (h : fX5_tellFrom x2 x3 M = some M9) : ow_F l 3 yX5_tellFrom cX5_tellFrom 6 none [.ref 8, .ref 2, .int x2, .int x3] M none M9 := by
  unfold fX5_tellFrom at h
  refine ow_enterO (own := RX5) rfl (by decide +kernel) rfl (ls := [some (.ref 8), some (.ref 2), some (.int x2), some (.int x3), none, none]) rfl ?_
  refine gw_aload0 dX5_tellFrom_0 ?_
  refine gw_getR dX5_tellFrom_1 fkX5_9 rfl rfl ?_
  refine gw_bipush (-9) dX5_tellFrom_4 (by decide) ?_
  obtain ⟨M3, hc1, h⟩ := ow_b_some h
  refine gw_cSV2 dX5_tellFrom_6 lkX5_18 mkJ7_fill_53178 (ow_rm_in rfl rfl) (ctJ7_fill_53178 l rfl hc1) rfl ?_
  refine gw_aload0 dX5_tellFrom_9 ?_
  refine gw_getR dX5_tellFrom_10 fkX5_15 rfl rfl ?_
  refine gw_bipush (-9) dX5_tellFrom_13 (by decide) ?_
  obtain ⟨M6, hc4, h⟩ := ow_b_some h
  refine gw_cSV2 dX5_tellFrom_15 lkX5_18 mkJ7_fill_53178 (ow_rm_in rfl rfl) (ctJ7_fill_53178 l rfl hc4) rfl ?_
  refine gw_aload1 dX5_tellFrom_18 ?_
  refine gw_iload2 dX5_tellFrom_19 ?_
  obtain ⟨v8, hc7, h⟩ := ow_b_some h
  refine gw_cVI1 dX5_tellFrom_20 lkX5_24 mkX0_isPerson (ow_rm_in rfl rfl) rfl rfl (ctX0_isPerson l hc7) rfl ?_
  refine gw_if_ne (tgt := 27) dX5_tellFrom_23 rfl (fun h9 => ?_) (fun h9 => ?_)
  · replace h := (if_neg h9).symm.trans h
    refine gw_aload0 dX5_tellFrom_27 ?_
    refine gw_getR dX5_tellFrom_28 fkX5_9 rfl rfl ?_
    refine gw_iload2 dX5_tellFrom_31 ?_
    refine gw_iload3 dX5_tellFrom_32 ?_
    by_cases h10 : ow_inn x2 7
    rotate_left
    · replace h := (if_neg h10).symm.trans h
      cases h
    replace h := (if_pos h10).symm.trans h
    refine gw_iast dX5_tellFrom_33 rfl h10 ?_
    refine gw_aload0 dX5_tellFrom_34 ?_
    refine gw_getR dX5_tellFrom_35 fkX5_15 rfl rfl ?_
    refine gw_iload2 dX5_tellFrom_38 ?_
    refine gw_ic0 dX5_tellFrom_39 ?_
    by_cases h11 : ow_inn x2 7
    rotate_left
    · replace h := (if_neg h11).symm.trans h
      cases h
    replace h := (if_pos h11).symm.trans h
    refine gw_iast dX5_tellFrom_40 rfl h11 ?_
    refine gw_ic1 dX5_tellFrom_41 ?_
    refine gw_istore4 dX5_tellFrom_42 (by decide) rfl ?_
    refine tlpX5_tellFrom_44 l ?_ _ _ _ h
    intro u28 M29 h
    have hA := Option.some.inj h
    subst hA
    exact gw_vret dX5_tellFrom_123 ⟨rfl, rfl⟩
  · replace h := (if_pos h9).symm.trans h
    have hA := Option.some.inj h
    subst hA
    exact gw_vret dX5_tellFrom_26 ⟨rfl, rfl⟩

def lpX3_areAllSo_2  (k : Int32 → ow_M → Option (Int32 × ow_M)) : Nat → Int32 → ow_M → Option (Int32 × ow_M)
  | 0, _, _ => none
  | n + 1, x3, M => (if (M.1 21 0) ≤ x3 then k x3 M else if ow_inn x3 8 then if ow_inn x3 8 then Option.bind (fX5_tellFrom (M.1 22 x3.toNatClampNeg) (M.1 23 x3.toNatClampNeg) M) (fun M6 => if ow_inn x3 8 then if ow_inn (M6.1 24 x3.toNatClampNeg) 7 then if ow_inn x3 8 then (if (M6.1 9 (M6.1 24 x3.toNatClampNeg).toNatClampNeg) = (M6.1 25 x3.toNatClampNeg) then lpX3_areAllSo_2  k n (x3 + 1) M6 else some (0, M6)) else none else none else none) else none else none)
set_option maxRecDepth 100000 in
set_option maxHeartbeats 4000000 in
theorem tlpX3_areAllSo_2 (l : Launch)  {k : Int32 → ow_M → Option (Int32 × ow_M)} {r : Int32} {M9 : ow_M}  (hk : ∀ (x3 : Int32) (M : ow_M), k x3 M = some (r, M9) → ow_G (ow_Γ l 4 (some .boolean) (ow_is (some (.int r)) M9)) RX3 cX3_areAllSo 4 55 [some (.ref 21), some (.ref 2), some (.ref 8), some (.int x3)] [] M) : ∀ (n : Nat) (x3 : Int32) (M : ow_M), lpX3_areAllSo_2  k n x3 M = some (r, M9) → ow_G (ow_Γ l 4 (some .boolean) (ow_is (some (.int r)) M9)) RX3 cX3_areAllSo 4 2 [some (.ref 21), some (.ref 2), some (.ref 8), some (.int x3)] [] M := by
  intro n
  induction n with
  | zero => intro _ _ h; cases h
  | succ n ih =>
    intro x3 M h
    unfold lpX3_areAllSo_2 at h
    refine gw_iload3 dX3_areAllSo_2 ?_
    refine gw_aload0 dX3_areAllSo_3 ?_
    refine gw_getI dX3_areAllSo_4 fkX3_9 rfl rfl ?_
    refine gw_icmp_ge (tgt := 55) dX3_areAllSo_7 rfl (fun h1 => ?_) (fun h1 => ?_)
    · replace h := (if_pos h1).symm.trans h
      exact hk _ _ h
    · replace h := (if_neg h1).symm.trans h
      refine gw_aload2 dX3_areAllSo_10 ?_
      refine gw_aload1 dX3_areAllSo_11 ?_
      refine gw_aload0 dX3_areAllSo_12 ?_
      refine gw_getR dX3_areAllSo_13 fkX3_15 rfl rfl ?_
      refine gw_iload3 dX3_areAllSo_16 ?_
      by_cases h2 : ow_inn x3 8
      rotate_left
      · replace h := (if_neg h2).symm.trans h
        cases h
      replace h := (if_pos h2).symm.trans h
      refine gw_iald dX3_areAllSo_17 rfl h2 ?_
      refine gw_aload0 dX3_areAllSo_18 ?_
      refine gw_getR dX3_areAllSo_19 fkX3_19 rfl rfl ?_
      refine gw_iload3 dX3_areAllSo_22 ?_
      by_cases h3 : ow_inn x3 8
      rotate_left
      · replace h := (if_neg h3).symm.trans h
        cases h
      replace h := (if_pos h3).symm.trans h
      refine gw_iald dX3_areAllSo_23 rfl h3 ?_
      obtain ⟨M6, hc4, h⟩ := ow_b_some h
      refine gw_cVV3 dX3_areAllSo_24 lkX3_28 mkX5_tellFrom (ow_rm_in rfl rfl) rfl rfl (ctX5_tellFrom l hc4) rfl ?_
      refine gw_aload2 dX3_areAllSo_27 ?_
      refine gw_getR dX3_areAllSo_28 fkX3_34 rfl rfl ?_
      refine gw_aload0 dX3_areAllSo_31 ?_
      refine gw_getR dX3_areAllSo_32 fkX3_22 rfl rfl ?_
      refine gw_iload3 dX3_areAllSo_35 ?_
      by_cases h7 : ow_inn x3 8
      rotate_left
      · replace h := (if_neg h7).symm.trans h
        cases h
      replace h := (if_pos h7).symm.trans h
      refine gw_iald dX3_areAllSo_36 rfl h7 ?_
      by_cases h8 : ow_inn (M6.1 24 x3.toNatClampNeg) 7
      rotate_left
      · replace h := (if_neg h8).symm.trans h
        cases h
      replace h := (if_pos h8).symm.trans h
      refine gw_iald dX3_areAllSo_37 rfl h8 ?_
      refine gw_aload0 dX3_areAllSo_38 ?_
      refine gw_getR dX3_areAllSo_39 fkX3_25 rfl rfl ?_
      refine gw_iload3 dX3_areAllSo_42 ?_
      by_cases h9 : ow_inn x3 8
      rotate_left
      · replace h := (if_neg h9).symm.trans h
        cases h
      replace h := (if_pos h9).symm.trans h
      refine gw_iald dX3_areAllSo_43 rfl h9 ?_
      refine gw_icmp_eq (tgt := 49) dX3_areAllSo_44 rfl (fun h10 => ?_) (fun h10 => ?_)
      · replace h := (if_pos h10).symm.trans h
        refine gw_iinc3 1 dX3_areAllSo_49 (by decide) rfl (by decide) ?_
        refine gw_goto (tgt := 2) rfl dX3_areAllSo_52 ?_
        exact ih _ _ h
      · replace h := (if_neg h10).symm.trans h
        refine gw_ic0 dX3_areAllSo_47 ?_
        obtain ⟨hA, hB⟩ := Prod.mk.inj (Option.some.inj h)
        subst hA
        subst hB
        exact gw_zret (Or.inl rfl) dX3_areAllSo_48 ⟨rfl, rfl⟩

def fX3_areAllSo  (M : ow_M) : Option (Int32 × ow_M) := lpX3_areAllSo_2 (fun u11 M12 => some (1, M12)) ow_N 0 M
set_option maxRecDepth 100000 in
set_option maxHeartbeats 4000000 in
theorem ctX3_areAllSo (l : Launch)  {M : ow_M} {r : Int32} {M9 : ow_M}  (h : fX3_areAllSo M = some (r, M9)) : ow_F l 4 yX3_areAllSo cX3_areAllSo 4 (some .boolean) [.ref 21, .ref 2, .ref 8] M (some (.int r)) M9 := by
  unfold fX3_areAllSo at h
  refine ow_enterO (own := RX3) rfl (by decide +kernel) rfl (ls := [some (.ref 21), some (.ref 2), some (.ref 8), none]) rfl ?_
  refine gw_ic0 dX3_areAllSo_0 ?_
  refine gw_istore3 dX3_areAllSo_1 (by decide) rfl ?_
  refine tlpX3_areAllSo_2 l ?_ _ _ _ h
  intro u11 M12 h
  refine gw_ic1 dX3_areAllSo_55 ?_
  obtain ⟨hA, hB⟩ := Prod.mk.inj (Option.some.inj h)
  subst hA
  subst hB
  exact gw_zret (Or.inr rfl) dX3_areAllSo_56 ⟨rfl, rfl⟩

