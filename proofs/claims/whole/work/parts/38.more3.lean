theorem take_eq {M : ow_M} {rc : Nat} (h : M.1 21 0 = nI rc) (hr : rc < 8) (x1 x2 x3 x4 : Int32) : fX3_takeOne x1 x2 x3 x4 M = some (nI rc, ow_up (ow_up (ow_up (ow_up (ow_up M 22 rc x1) 23 rc x2) 24 rc x3) 25 rc x4) 21 0 (nI (rc + 1))) := by
  have hi : ow_inn (nI rc) 8 := (inn_nI (by omega)).mpr (by omega)
  have hc : (nI rc).toNatClampNeg = rc := nI_clamp (by omega)
  have hlt : nI rc < 8 := by rw [l_8, nI_ltI (by omega) (by omega)]; exact hr
  unfold fX3_takeOne
  simp only [h, if_pos hlt, if_pos hi, hc]
  have : (ow_up (ow_up (ow_up (ow_up M 22 rc x1) 23 rc x2) 24 rc x3) 25 rc x4).1 21 0 = nI rc := h
  rw [this, nI_1]
theorem mread_eq {M : ow_M} {rc : Nat} (h : M.1 34 27 = nI rc) (hr : rc < 8) (x1 x2 x3 x4 : Int32) : jX8_reading_43 x1 x2 x3 x4 M = some (nI rc, ow_up (ow_up (ow_up (ow_up (ow_up M 53 rc x1) 54 rc x2) 55 rc x3) 56 rc x4) 34 27 (nI (rc + 1))) := by
  have hi : ow_inn (nI rc) 8 := (inn_nI (by omega)).mpr (by omega)
  have hc : (nI rc).toNatClampNeg = rc := nI_clamp (by omega)
  have hne : ¬ nI rc = 8 := by rw [l_8, nI_eq (by omega) (by omega)]; omega
  unfold jX8_reading_43
  have q1 : (ow_up M 53 rc x1).1 34 27 = nI rc := h
  have q2 : (ow_up (ow_up M 53 rc x1) 54 rc x2).1 34 27 = nI rc := h
  have q3 : (ow_up (ow_up (ow_up M 53 rc x1) 54 rc x2) 55 rc x3).1 34 27 = nI rc := h
  have q4 : (ow_up (ow_up (ow_up (ow_up M 53 rc x1) 54 rc x2) 55 rc x3) 56 rc x4).1 34 27 = nI rc := h
  simp only [h, if_neg hne, if_pos hi, hc, q1, q2, q3, q4, ow_up_s, nI_1]
  rw [l_1, pk_sub (by omega), Nat.add_sub_cancel]
theorem sp_reading {M : ow_M} (hI : ow_I M) (a1 a2 a3 a4 : Int32) : ∃ r M1 M2, fX7_reading a1 a2 a3 a4 M = some (r, M1) ∧ fX8_reading a1 a2 a3 a4 M1 = some (r, M2) ∧ ow_I M2 := by
  obtain ⟨n, lp, g, rc, hA, hB, hR, hS, hT, hF⟩ := id hI
  obtain ⟨h0, h7, hn, he, hl, hg, hw, hv⟩ := id hA
  obtain ⟨b1, b2, b3, b4⟩ := id hB
  obtain ⟨r8, r1, r2, r3⟩ := id hR
  unfold fX7_reading
  rcases g_P hn b1 h7 a1 with ⟨f, hf, rfl, e1, e2⟩ | ⟨e1, e2⟩
  · rcases g_P hn b1 h7 a3 with ⟨t, ht, rfl, f1, f2⟩ | ⟨f1, f2⟩
    · rcases g_N a2 with ⟨v, hv, rfl, n1, n2⟩ | ⟨n1, n2⟩
      · have main : ∀ x : Int32, (x = -9 ∨ ∃ u, u < 100 ∧ x = nI u) → (fX8_reading (nI f) (nI v) (nI t) x = fun N => Option.bind (fX8_isPerson (nI f) N) (fun v2 => (if v2 = 0 then some ((-1), N) else Option.bind (fX8_isPerson (nI t) N) (fun v5 => (if v5 = 0 then some ((-1), N) else jX8_reading_43 (nI f) (nI v) (nI t) x N))))) → ∃ r M1 M2, ow_bd (fX3_takeOne (nI f) (nI v) (nI t) x M) (fun v18 M19 => some (v18, M19)) = some (r, M1) ∧ fX8_reading (nI f) (nI v) (nI t) x M1 = some (r, M2) ∧ ow_I M2 := by
          intro x hx hfun
          rw [hfun]
          by_cases hrc : rc < 8
          · rw [take_eq r1 hrc, ow_bd_eq]
            refine ⟨_, _, _, rfl, ?_, read_I hA hB hR hS hT hF hrc hf hv ht hx⟩
            have e3 : fX8_isPerson (nI f) (ow_up (ow_up (ow_up (ow_up (ow_up M 22 rc (nI f)) 23 rc (nI v)) 24 rc (nI t)) 25 rc x) 21 0 (nI (rc + 1))) = some 1 := e2
            have f3 : fX8_isPerson (nI t) (ow_up (ow_up (ow_up (ow_up (ow_up M 22 rc (nI f)) 23 rc (nI v)) 24 rc (nI t)) 25 rc x) 21 0 (nI (rc + 1))) = some 1 := f2
            simp only [e3, f3, ow_obs, ow_10, reduceIte]
            exact mread_eq (M := ow_up (ow_up (ow_up (ow_up (ow_up M 22 rc (nI f)) 23 rc (nI v)) 24 rc (nI t)) 25 rc x) 21 0 (nI (rc + 1))) r2 hrc _ _ _ _
          · have h8 : rc = 8 := by omega
            subst h8
            have t1 : fX3_takeOne (nI f) (nI v) (nI t) x M = some (-4, M) := by
              unfold fX3_takeOne
              rw [r1, if_neg (by decide)]
            rw [t1, ow_bd_eq]
            refine ⟨_, _, M, rfl, ?_, hI⟩
            simp only [e2, f2, ow_obs, ow_10, reduceIte]
            unfold jX8_reading_43
            rw [r2, if_pos (by decide)]
        rcases g_N a4 with ⟨u, hu, rfl, m1, m2⟩ | ⟨m1, m2⟩
        · simp only [e1, f1, n1, m1, ow_obs, ow_10, reduceIte]
          refine main _ (Or.inr ⟨u, hu, rfl⟩) ?_
          funext N
          unfold fX8_reading
          simp only [n2, m2, ow_obs, ow_10, reduceIte]
        · simp only [e1, f1, n1, m1, ow_obs, ow_10, reduceIte]
          by_cases q : a4 = -9
          · simp only [if_pos q]
            refine main _ (Or.inl q) ?_
            funext N
            unfold fX8_reading
            simp only [n2, m2, ow_obs, ow_10, reduceIte, if_pos q]
          · simp only [if_neg q]
            refine ⟨_, _, M, rfl, ?_, hI⟩
            unfold fX8_reading
            simp only [e2, f2, n2, m2, ow_obs, ow_10, reduceIte, if_neg q]
      · simp only [e1, f1, n1, ow_obs, ow_10, reduceIte]
        refine ⟨_, _, M, rfl, ?_, hI⟩
        unfold fX8_reading
        simp only [e2, f2, n2, ow_obs, ow_10, reduceIte]
    · simp only [e1, f1, ow_obs, ow_10, reduceIte]
      refine ⟨_, _, M, rfl, ?_, hI⟩
      unfold fX8_reading
      simp only [e2, f2, ow_obs, ow_10, reduceIte]
  · rw [e1]
    refine ⟨_, _, M, rfl, ?_, hI⟩
    unfold fX8_reading
    rw [e2]
    rfl
/-! many -/
def cw2 (g : Nat) : Nat → Nat → Nat
  | 0, _ => 0
  | m + 1, i => (if g.testBit i then 1 else 0) + cw2 g m (i + 1)
def cm2 : Nat → Nat → Nat
  | 0, _ => 0
  | m + 1, h => h % 2 + cm2 m (h / 2)
theorem cw_cm : ∀ ed, ed < 8 → ∀ g, g < 128 → g < 2 ^ ed → cw2 g ed 0 = cm2 8 g := by decide +kernel
theorem cm2_0 : ∀ m, cm2 m 0 = 0 := by
  intro m
  induction m with
  | zero => rfl
  | succ m ih => show 0 % 2 + cm2 m (0 / 2) = 0; rw [Nat.zero_mod, Nat.zero_div, ih]
theorem hmw_lp {M : ow_M} {ed g : Nat} (he : M.1 2 1 = nI ed) (h7 : ed ≤ 7) (hw : ∀ i, i < 7 → M.1 7 i = bI (g.testBit i)) (k : Int32 → Int32 → Option Int32) : ∀ (f i c : Nat), i ≤ ed → ed - i < f → lpX0_howManyWalled_4 M k f (nI c) (nI i) = k (nI (c + cw2 g (ed - i) i)) (nI ed) := by
  intro f
  induction f with
  | zero => intro i c _ h; omega
  | succ f ih =>
    intro i c hi hf
    unfold lpX0_howManyWalled_4
    rw [he]
    by_cases h : ed ≤ i
    · have : i = ed := by omega
      subst this
      rw [if_pos ((nI_leI (by omega) (by omega)).mpr h), Nat.sub_self]
      rfl
    · have hin : ow_inn (nI i) 7 := (inn_nI (by omega)).mpr (by omega)
      have hc : (nI i).toNatClampNeg = i := nI_clamp (by omega)
      rw [if_neg (fun q => h ((nI_leI (by omega) (by omega)).mp q))]
      simp only [if_pos hin, hc]
      rw [hw i (by omega), show ed - i = (ed - (i + 1)) + 1 by omega]
      show _ = k (nI (c + ((if g.testBit i then 1 else 0) + cw2 g (ed - (i + 1)) (i + 1)))) (nI ed)
      cases hb : g.testBit i
      · rw [if_pos (by rfl), nI_1, ih (i + 1) c (by omega) (by omega)]
        simp
      · rw [if_neg (by decide), nI_1, nI_1, ih (i + 1) (c + 1) (by omega) (by omega)]
        simp [Nat.add_assoc]
theorem wal_lp {M : ow_M} (k : Int32 → Int32 → Option Int32) : ∀ (m h f c : Nat), h < 2 ^ m → m ≤ 30 → m < f → lpX8_walled_7 M k f (nI c) (nI h) = k (nI (c + cm2 m h)) 0 := by
  intro m
  induction m with
  | zero =>
    intro h f c hh _ hf
    have : h = 0 := by omega
    subst this
    obtain ⟨f, rfl⟩ : ∃ q, f = q + 1 := ⟨f - 1, by omega⟩
    unfold lpX8_walled_7
    rw [if_pos (by decide)]
    rfl
  | succ m ih =>
    intro h f c hh hm hf
    obtain ⟨f, rfl⟩ : ∃ q, f = q + 1 := ⟨f - 1, by omega⟩
    have h31 : h < 2 ^ 31 := Nat.lt_of_lt_of_le hh (Nat.pow_le_pow_right (by decide) (by omega))
    unfold lpX8_walled_7
    by_cases h0 : h = 0
    · subst h0
      rw [if_pos (by decide), cm2_0]
      rfl
    · have e1 : (nI h >>> ((1 : Int32) &&& 31)) = nI (h / 2) := shr_e (e := 1) h31 (by decide)
      rw [if_neg (nI_nle (by omega) h31), and1 (by omega), nI_add, e1, ih (h / 2) f (c + h % 2) (by rw [Nat.pow_succ] at hh; omega) (by omega) (by omega)]
      show _ = k (nI (c + (h % 2 + cm2 m (h / 2)))) 0
      rw [Nat.add_assoc]
theorem sp_many {M : ow_M} (hI : ow_I M) (a1 : Int32) : ∃ r, fX7_many a1 M = some r ∧ fX8_many a1 M = some r := by
  obtain ⟨n, lp, g, rc, hA, hB, hR, hS, hT, hF⟩ := id hI
  obtain ⟨h0, h7, hn, he, hl, hg, hw, hv⟩ := id hA
  obtain ⟨b1, b2, b3, b4⟩ := id hB
  obtain ⟨r8, r1, r2, r3⟩ := id hR
  have hgl := g128 h7 hg
  have hed := oed_le (lp := lp) h7
  have ew : fX0_howManyWalled M = some (nI (cw2 g (oed n lp) 0)) := by
    unfold fX0_howManyWalled
    have := hmw_lp (M := M) he hed hw (fun x1 x2 => some x1) ow_N 0 0 (Nat.zero_le _) (by unfold ow_N; omega)
    rw [Nat.zero_add, Nat.sub_zero] at this
    exact this
  have ex : fX8_walled M = some (nI (cm2 8 g)) := by
    unfold fX8_walled
    rw [b3]
    have := wal_lp (M := M) (fun x1 x2 => some x1) 8 g ow_N 0 (by omega) (by decide) (by unfold ow_N; omega)
    rw [Nat.zero_add] at this
    exact this
  unfold fX7_many fX8_many
  rw [ew, ex, e_edges b1 b2 h7 h0, hn, he, hl, b1, b2, r1, r2, ow_obs, ow_obs, ow_obs, cw_cm _ (by omega) g hgl hg]
  by_cases c0 : a1 = 0
  · simp only [if_pos c0]; exact ⟨_, rfl, rfl⟩
  simp only [if_neg c0]
  by_cases c1 : a1 = 1
  · simp only [if_pos c1]; exact ⟨_, rfl, rfl⟩
  simp only [if_neg c1]
  by_cases c2 : a1 = 2
  · simp only [if_pos c2]; exact ⟨_, rfl, rfl⟩
  simp only [if_neg c2]
  by_cases c3 : a1 = 3
  · simp only [if_pos c3]; exact ⟨_, rfl, rfl⟩
  simp only [if_neg c3]
  by_cases c4 : a1 = 4
  · simp only [if_pos c4]
    by_cases c5 : bI lp = 0
    · simp only [if_pos c5]; exact ⟨_, rfl, rfl⟩
    · simp only [if_neg c5]; exact ⟨_, rfl, rfl⟩
  · simp only [if_neg c4]; exact ⟨_, rfl, rfl⟩
