def lpJ7_fill_53178_5 (x0 : Nat) (x1 : Int32) (x3 : Int32) (nn : Nat) (k : Int32 → ow_M → Option ow_M) : Nat → Int32 → ow_M → Option ow_M
  | 0, _, _ => none
  | n + 1, x2, M => (if x3 ≤ x2 then k x2 M else if ow_inn x2 nn then lpJ7_fill_53178_5 x0 x1 x3 nn k n (x2 + 1) (ow_up M x0 x2.toNatClampNeg x1) else none)
set_option maxRecDepth 100000 in
set_option maxHeartbeats 4000000 in
theorem tlpJ7_fill_53178_5 (l : Launch) {x0 : Nat} {x1 : Int32} {x3 : Int32} {nn : Nat} {k : Int32 → ow_M → Option ow_M} {M9 : ow_M}  (hS0 : ow_sh[x0]? = some (.inl (0, nn))) (hk : ∀ (x2 : Int32) (M : ow_M), k x2 M = some M9 → ow_G (ow_Γ l 0 none (ow_is none M9)) RJ7 cJ7_fill_53178 4 20 [some (.ref x0), some (.int x1), some (.int x2), some (.int x3)] [] M) : ∀ (n : Nat) (x2 : Int32) (M : ow_M), lpJ7_fill_53178_5 x0 x1 x3 nn k n x2 M = some M9 → ow_G (ow_Γ l 0 none (ow_is none M9)) RJ7 cJ7_fill_53178 4 5 [some (.ref x0), some (.int x1), some (.int x2), some (.int x3)] [] M := by
  intro n
  induction n with
  | zero => intro _ _ h; cases h
  | succ n ih =>
    intro x2 M h
    unfold lpJ7_fill_53178_5 at h
    refine gw_iload2 dJ7_fill_53178_5 ?_
    refine gw_iload3 dJ7_fill_53178_6 ?_
    refine gw_icmp_ge (tgt := 20) dJ7_fill_53178_7 rfl (fun h1 => ?_) (fun h1 => ?_)
    · replace h := (if_pos h1).symm.trans h
      exact hk _ _ h
    · replace h := (if_neg h1).symm.trans h
      refine gw_aload0 dJ7_fill_53178_10 ?_
      refine gw_iload2 dJ7_fill_53178_11 ?_
      refine gw_iload1 dJ7_fill_53178_12 ?_
      by_cases h2 : ow_inn x2 nn
      rotate_left
      · replace h := (if_neg h2).symm.trans h
        cases h
      replace h := (if_pos h2).symm.trans h
      refine gw_iast dJ7_fill_53178_13 hS0 h2 ?_
      refine gw_iinc2 1 dJ7_fill_53178_14 (by decide) rfl (by decide) ?_
      refine gw_goto (tgt := 5) rfl dJ7_fill_53178_17 ?_
      exact ih _ _ h

def fJ7_fill_53178 (x0 : Nat) (nn : Nat) (x1 : Int32) (M : ow_M) : Option ow_M := lpJ7_fill_53178_5 x0 x1 (Int32.ofNat nn) nn (fun u3 M4 => some M4) ow_N 0 M
set_option maxRecDepth 100000 in
set_option maxHeartbeats 4000000 in
theorem ctJ7_fill_53178 (l : Launch) {x0 : Nat} {nn : Nat} {x1 : Int32} {M : ow_M} {M9 : ow_M}  (hS0 : ow_sh[x0]? = some (.inl (0, nn))) (h : fJ7_fill_53178 x0 nn x1 M = some M9) : ow_F l 0 yJ7_fill_53178 cJ7_fill_53178 4 none [.ref x0, .int x1] M none M9 := by
  unfold fJ7_fill_53178 at h
  refine ow_enterO (own := RJ7) rfl (by decide +kernel) rfl (ls := [some (.ref x0), some (.int x1), none, none]) rfl ?_
  refine gw_ic0 dJ7_fill_53178_0 ?_
  refine gw_istore2 dJ7_fill_53178_1 (by decide) rfl ?_
  refine gw_aload0 dJ7_fill_53178_2 ?_
  refine gw_alen (Int32.ofNat nn) dJ7_fill_53178_3 hS0 rfl rfl ?_
  refine gw_istore3 dJ7_fill_53178_4 (by decide) rfl ?_
  refine tlpJ7_fill_53178_5 l hS0 ?_ _ _ _ h
  intro u3 M4 h
  have hA := Option.some.inj h
  subst hA
  exact gw_vret dJ7_fill_53178_20 ⟨rfl, rfl⟩

def lpJ7_fill_d0a16_6 (x1 : Int64) (x4 : Int32) (k : Int32 → ow_M → Option ow_M) : Nat → Int32 → ow_M → Option ow_M
  | 0, _, _ => none
  | n + 1, x3, M => (if x4 ≤ x3 then k x3 M else if ow_inn x3 256 then lpJ7_fill_d0a16_6 x1 x4 k n (x3 + 1) (ow_upL M 12 x3.toNatClampNeg x1) else none)
set_option maxRecDepth 100000 in
set_option maxHeartbeats 4000000 in
theorem tlpJ7_fill_d0a16_6 (l : Launch) {x1 : Int64} {x4 : Int32} {k : Int32 → ow_M → Option ow_M} {M9 : ow_M}  (hk : ∀ (x3 : Int32) (M : ow_M), k x3 M = some M9 → ow_G (ow_Γ l 0 none (ow_is none M9)) RJ7 cJ7_fill_d0a16 5 22 [some (.ref 12), some (.long x1), none, some (.int x3), some (.int x4)] [] M) : ∀ (n : Nat) (x3 : Int32) (M : ow_M), lpJ7_fill_d0a16_6 x1 x4 k n x3 M = some M9 → ow_G (ow_Γ l 0 none (ow_is none M9)) RJ7 cJ7_fill_d0a16 5 6 [some (.ref 12), some (.long x1), none, some (.int x3), some (.int x4)] [] M := by
  intro n
  induction n with
  | zero => intro _ _ h; cases h
  | succ n ih =>
    intro x3 M h
    unfold lpJ7_fill_d0a16_6 at h
    refine gw_iload3 dJ7_fill_d0a16_6 ?_
    refine gw_iload4 dJ7_fill_d0a16_7 ?_
    refine gw_icmp_ge (tgt := 22) dJ7_fill_d0a16_9 rfl (fun h1 => ?_) (fun h1 => ?_)
    · replace h := (if_pos h1).symm.trans h
      exact hk _ _ h
    · replace h := (if_neg h1).symm.trans h
      refine gw_aload0 dJ7_fill_d0a16_12 ?_
      refine gw_iload3 dJ7_fill_d0a16_13 ?_
      refine gw_lload1 dJ7_fill_d0a16_14 ?_
      by_cases h2 : ow_inn x3 256
      rotate_left
      · replace h := (if_neg h2).symm.trans h
        cases h
      replace h := (if_pos h2).symm.trans h
      refine gw_last dJ7_fill_d0a16_15 rfl h2 ?_
      refine gw_iinc3 1 dJ7_fill_d0a16_16 (by decide) rfl (by decide) ?_
      refine gw_goto (tgt := 6) rfl dJ7_fill_d0a16_19 ?_
      exact ih _ _ h

def fJ7_fill_d0a16 (x1 : Int64) (M : ow_M) : Option ow_M := lpJ7_fill_d0a16_6 x1 256 (fun u3 M4 => some M4) ow_N 0 M
set_option maxRecDepth 100000 in
set_option maxHeartbeats 4000000 in
theorem ctJ7_fill_d0a16 (l : Launch) {x1 : Int64} {M : ow_M} {M9 : ow_M}  (h : fJ7_fill_d0a16 x1 M = some M9) : ow_F l 0 yJ7_fill_d0a16 cJ7_fill_d0a16 5 none [.ref 12, .long x1] M none M9 := by
  unfold fJ7_fill_d0a16 at h
  refine ow_enterO (own := RJ7) rfl (by decide +kernel) rfl (ls := [some (.ref 12), some (.long x1), none, none, none]) rfl ?_
  refine gw_ic0 dJ7_fill_d0a16_0 ?_
  refine gw_istore3 dJ7_fill_d0a16_1 (by decide) rfl ?_
  refine gw_aload0 dJ7_fill_d0a16_2 ?_
  refine gw_alen 256 dJ7_fill_d0a16_3 rfl rfl (by decide) ?_
  refine gw_istore4 dJ7_fill_d0a16_4 (by decide) rfl ?_
  refine tlpJ7_fill_d0a16_6 l ?_ _ _ _ h
  intro u3 M4 h
  have hA := Option.some.inj h
  subst hA
  exact gw_vret dJ7_fill_d0a16_22 ⟨rfl, rfl⟩

