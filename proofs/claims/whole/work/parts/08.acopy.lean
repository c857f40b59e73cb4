def ow_cp (M : ow_M) (o1 : Nat) (sp : Int32) (o2 : Nat) (dp n : Int32) : ow_M := (fun a b => if a = o2 then va_cpy (M.1 o1) (M.1 o2) sp.toNatClampNeg dp.toNatClampNeg n.toNatClampNeg b else M.1 a b, M.2)
theorem ow_w_cp {cI : Nat → ClassId} {ad : Nat → Nat} {M : ow_M} {o1 o2 n2 : Nat} {sp dp n : Int32} (h : ow_sh[o2]? = some (.inl (0, n2))) : (ow_w cI ad M).set o2 (ad o2, .inl (cI 0, n2, .inl (va_cpy (M.1 o1) (M.1 o2) sp.toNatClampNeg dp.toNatClampNeg n.toNatClampNeg))) = ow_w cI ad (ow_cp M o1 sp o2 dp n) :=
  ow_w_ext h (by
    have e : (ow_cp M o1 sp o2 dp n).1 o2 = va_cpy (M.1 o1) (M.1 o2) sp.toNatClampNeg dp.toNatClampNeg n.toNatClampNeg := by funext b; show (if o2 = o2 then _ else _) = _; rw [if_pos rfl]
    show Sum.inl (cI 0, n2, Sum.inl _) = Sum.inl (cI 0, n2, Sum.inl ((ow_cp M o1 sp o2 dp n).1 o2))
    rw [e]) (fun k q => by funext b; show (if k = o2 then _ else _) = _; rw [if_neg q]) (fun _ _ => rfl)
theorem gw_acopy {Γ : ow_Cx → Prop} {own : String} {cc : ByteArray} {nL pc : Nat} {ls : List (Option Value)} {st : List Value} {M : ow_M} {l0 : Launch} {idx o1 o2 n1 n2 : Nat} {sp dp n : Int32} (hd : decode cc pc = .ok (.invokestatic idx, 3)) (hlk : Cond.methodLink own idx arraycopyName ∈ ow_base) (hm : Cond.native arraycopyName ∈ ow_base ∧ Cond.static arraycopyName ∈ ow_base ∧ Cond.initialized "java/lang/System" ∈ ow_base) (hR : ow_rmOk Γ l0 0 16) (hr : (st.map fun v => v.category).sum ≤ 8) (h1 : ow_sh[o1]? = some (.inl (0, n1))) (h2 : ow_sh[o2]? = some (.inl (0, n2))) (hc : ¬ sp < 0 ∧ ¬ dp < 0 ∧ ¬ n < 0 ∧ sp.toNatClampNeg + n.toNatClampNeg ≤ n1 ∧ dp.toNatClampNeg + n.toNatClampNeg ≤ n2) (k : ow_G Γ own cc nL (pc + 3) ls st (ow_cp M o1 sp o2 dp n)) : ow_G Γ own cc nL pc ls (.int n :: .int dp :: .ref o2 :: .int sp :: .ref o1 :: st) M := by
  intro p l e R s m args below meth c cells slots Z cI ad D A hΓ X H locs lsA hP hD hS hl
  obtain ⟨rfl, g1, g2, g3, g4⟩ := hR _ _ _ _ _ _ _ _ _ _ _ _ _ _ _ _ _ hΓ
  have hts := X.2.2.2.2.1
  have hr2 := ow_rest (ad := ad) hr
  have hw : nativeFrameWords "java/lang/System" "arraycopy" 5 ≤ 16 := by decide +kernel
  refine va_copyi (ty := .int) X.1 X.2.1 (X.2.2.1.trans hl.1.symm) X.2.2.2.1 (hts _ hlk) (hts _ hm.1) (hts _ hm.2.1) (hts _ hm.2.2) X.2.2.2.2.2.2.1 hP hD hS o1 o2 0 0 (ow_w_get h1) (ow_w_get h2) rfl rfl (by decide +kernel) hc.1 hc.2.1 hc.2.2.1 hc.2.2.2.1 hc.2.2.2.2 (fun _ _ => rfl) (by omega) (by omega) hd (fun H1 locs1 hP1 hD1 hS1 => ?_)
  rw [ow_w_cp h2] at hP1 hD1
  exact k p l e R s m args below meth c cells slots Z cI ad D A hΓ X H1 locs1 lsA hP1 hD1 hS1 hl
theorem mk_acopy : Cond.native arraycopyName ∈ ow_base ∧ Cond.static arraycopyName ∈ ow_base ∧ Cond.initialized "java/lang/System" ∈ ow_base := ⟨ow_mb 607 (by decide +kernel) rfl, ow_mb 606 (by decide +kernel) rfl, ow_mb 85 (by decide +kernel) rfl⟩
theorem lkX7_220 : Cond.methodLink RX7 220 arraycopyName ∈ ow_base := ow_mb 605 (by decide +kernel) rfl
