theorem fi_c {M : ow_M} {o i n a : Nat} {v : Int32} (h : a ≠ o) : (ow_fi M o i n v).1 a = M.1 a := by
  funext b
  show (if a = o ∧ i ≤ b ∧ b < n then v else M.1 a b) = M.1 a b
  rw [if_neg (fun q => h q.1)]
theorem fi_in {M : ow_M} {o i n b : Nat} {v : Int32} (h : i ≤ b ∧ b < n) : (ow_fi M o i n v).1 o b = v := by
  show (if o = o ∧ i ≤ b ∧ b < n then v else M.1 o b) = v
  rw [if_pos ⟨rfl, h⟩]
theorem fi_out {M : ow_M} {o i n b : Nat} {v : Int32} (h : ¬ (i ≤ b ∧ b < n)) : (ow_fi M o i n v).1 o b = M.1 o b := by
  show (if o = o ∧ i ≤ b ∧ b < n then v else M.1 o b) = M.1 o b
  rw [if_neg (fun q => h q.2)]
theorem msh_lp {k : Nat} (hk : k < 4) (K : Int32 → ow_M → Option (Int32 × ow_M)) : ∀ (f i : Nat) (M : ow_M), i ≤ 50 → 50 - i < f → lpX8_sheet_57 (nI k) K f (nI i) M = K (nI 50) (ow_fi M 37 (50 * k + i) (50 * k + 50) 0) := by
  intro f
  induction f with
  | zero => intro i M _ h; omega
  | succ f ih =>
    intro i M hi hf
    unfold lpX8_sheet_57
    by_cases h : 50 ≤ i
    · have : i = 50 := by omega
      subst this
      rw [if_pos (by decide), fi_end]
    · obtain ⟨x1, x2, x3⟩ := ix50 (k := k) (a := i) hk (by omega)
      rw [if_neg (by rw [l_50, nI_leI (by omega) (by omega)]; exact h), if_pos x2, x3, nI_1, ih (i + 1) _ (by omega) (by omega), ← fi_step M 37 (50 * k + i) (50 * k + 50) 0 (by omega)]
      rfl
theorem sp_sheet {M : ow_M} (hI : ow_I M) (a1 a2 a3 : Int32) : ∃ r M1 M2, fX7_sheet a1 a2 a3 M = some (r, M1) ∧ fX8_sheet a1 a2 a3 M1 = some (r, M2) ∧ ow_I M2 := by
  obtain ⟨n, lp, g, rc, hA, hB, hR, hS, hT, hF⟩ := id hI
  unfold fX7_sheet
  rcases g_S a1 with ⟨k, hk, rfl, e1, e2⟩ | ⟨e1, e2⟩
  · have hi : ow_inn (nI k) 4 := (inn_nI (by omega)).mpr hk
    have hc : (nI k).toNatClampNeg = k := nI_clamp (by omega)
    rcases g_L a2 with ⟨la, hla, rfl, l1, l2⟩ | ⟨l1, l2⟩
    · simp only [e1, l1, ow_obs, ow_10, reduceIte, if_pos hi, hc]
      by_cases c5 : a3 ≤ 50
      · rw [if_pos c5]
        by_cases c0 : 0 ≤ a3
        · rw [if_pos c0]
          obtain ⟨v, hv31, rfl⟩ := nI_of (Int32.not_lt.mpr c0)
          have hv : v ≤ 50 := by rw [l_50, nI_leI (by omega) (by omega)] at c5; exact c5
          unfold fX4_becomeNew
          rw [fill_eq _ _ _ (by decide), ow_obs, ow_obs]
          refine ⟨_, _, ow_fi (ow_up (ow_up (ow_up (ow_fi (ow_up (ow_up (ow_up (ow_up M 0 8 0) (26 + 2 * k) 0 1) (26 + 2 * k) 1 (nI la)) (26 + 2 * k) 2 (nI v)) (26 + 2 * k + 1) 0 50 0) 34 0 0) 35 k (nI la)) 36 k (nI v)) 37 (50 * k) (50 * k + 50) 0, rfl, ?_, ?_⟩
          · unfold fX8_sheet
            simp only [e2, l2, ow_obs, ow_10, reduceIte, if_pos hi, hc, if_pos c5, if_pos c0]
            exact msh_lp hk _ ow_N 0 _ (Nat.zero_le _) (by unfold ow_N; omega)
          · have e27 : 26 + 2 * k + 1 = 27 + 2 * k := by omega
            rw [e27]
            refine ow_I_sh hI (fun b hb => ?_) (fun j hj => ?_) ?_ ?_ ?_
            · rw [fi_c (key2_ne hb (by decide)), ow_up_c (key2_ne hb (by decide)), ow_up_c (key2_ne hb (by decide)), ow_up_c (key2_ne hb (by decide)), fi_c (key2_s hb hk).2, ow_up_c (key2_s hb hk).1, ow_up_c (key2_s hb hk).1, ow_up_c (key2_s hb hk).1, ow_up_c (key2_ne hb (by decide))]
            · rw [fi_c (by decide), ow_up_c (by decide), ow_up_c (by decide), j34 (Or.inl rfl) j hj, fi_c (by omega), ow_up_c (by omega), ow_up_c (by omega), ow_up_c (by omega), ow_up_c (by decide)]
            · refine iS_one hS (k := k) (fun q hq hqk => ⟨?_, ?_, ?_, ?_, fun i hi => ?_⟩) (fun _ => ?_)
              · rw [fi_c (by omega), ow_up_c (by omega), ow_up_c (by omega), ow_up_c (by omega), fi_c (by omega), ow_up_c (by omega), ow_up_c (by omega), ow_up_c (by omega), ow_up_c (by omega)]
              · rw [fi_c (by omega), ow_up_c (by omega), ow_up_c (by omega), ow_up_c (by omega), fi_c (by omega), ow_up_c (by omega), ow_up_c (by omega), ow_up_c (by omega), ow_up_c (by omega)]
              · rw [fi_c (by omega), ow_up_c (by omega), ow_up_f (Or.inr hqk), ow_up_c (by omega), fi_c (by omega), ow_up_c (by omega), ow_up_c (by omega), ow_up_c (by omega), ow_up_c (by omega)]
              · rw [fi_c (by omega), ow_up_f (Or.inr hqk), ow_up_c (by omega), ow_up_c (by omega), fi_c (by omega), ow_up_c (by omega), ow_up_c (by omega), ow_up_c (by omega), ow_up_c (by omega)]
              · rw [fi_out (by omega), ow_up_c (by omega), ow_up_c (by omega), ow_up_c (by omega), fi_c (by omega), ow_up_c (by omega), ow_up_c (by omega), ow_up_c (by omega), ow_up_c (by omega)]
              · refine ⟨⟨v, hv, ?_, ?_⟩, Or.inr ⟨?_, la, hla, ?_, ?_⟩, fun i hi => ?_⟩
                · rw [fi_c (by omega), ow_up_c (by omega), ow_up_c (by omega), ow_up_c (by omega), fi_c (by omega), ow_up_s]
                · rw [fi_c (by omega), ow_up_s]
                · rw [fi_c (by omega), ow_up_c (by omega), ow_up_c (by omega), ow_up_c (by omega), fi_c (by omega), ow_up_f (Or.inr (by decide)), ow_up_f (Or.inr (by decide)), ow_up_s]
                · rw [fi_c (by omega), ow_up_c (by omega), ow_up_c (by omega), ow_up_c (by omega), fi_c (by omega), ow_up_f (Or.inr (by decide)), ow_up_s]
                · rw [fi_c (by omega), ow_up_c (by omega), ow_up_s]
                · rw [fi_in (by omega), fi_c (by omega), ow_up_c (by omega), ow_up_c (by omega), ow_up_c (by omega), fi_in (by omega)]
            · rw [fi_c (by decide), ow_up_c (by decide), ow_up_c (by decide), ow_up_f (Or.inr (by decide)), fi_c (by omega), ow_up_c (by omega), ow_up_c (by omega), ow_up_c (by omega), ow_up_c (by decide), fi_c (by decide), ow_up_c (by decide), ow_up_c (by decide), ow_up_c (by decide), fi_c (by omega), ow_up_c (by omega), ow_up_c (by omega), ow_up_c (by omega), ow_up_f (Or.inr (by decide))]
              exact hT
            · rw [fi_c (by decide), ow_up_c (by decide), ow_up_c (by decide), ow_up_s, fi_c (by decide), ow_up_c (by decide), ow_up_c (by decide), ow_up_c (by decide), fi_c (by omega), ow_up_c (by omega), ow_up_c (by omega), ow_up_c (by omega), ow_up_s]
        · rw [if_neg c0]
          refine ⟨_, _, _, rfl, ?_, ow_I_ff2 hI 4 0⟩
          unfold fX8_sheet
          simp only [e2, l2, ow_obs, ow_10, reduceIte, if_pos hi, hc, if_pos c5, if_neg c0]
          rfl
      · rw [if_neg c5]
        refine ⟨_, _, _, rfl, ?_, ow_I_ff hI 0⟩
        unfold fX8_sheet
        simp only [e2, l2, ow_obs, ow_10, reduceIte, if_neg c5]
    · simp only [e1, l1, ow_obs, ow_10, reduceIte]
      refine ⟨_, _, _, rfl, ?_, ow_I_ff hI 0⟩
      unfold fX8_sheet
      simp only [e2, l2, ow_obs, ow_10, reduceIte]
  · rw [e1]
    refine ⟨_, _, _, rfl, ?_, ow_I_ff hI 0⟩
    unfold fX8_sheet
    rw [e2]
    rfl
/-! cut -/
theorem cut_in {M : ow_M} {n e : Nat} (hn : M.1 2 0 = nI n) (h7 : n ≤ 7) (he : e < n) (b4 : ∀ i, i < n → M.1 38 i = M.1 3 i ∧ M.1 39 i = M.1 4 i ∧ M.1 40 i = M.1 5 i ∧ M.1 41 i = M.1 6 i) (x3 x4 : Int32) : ∀ (f p : Nat) (x5 : Int32), p ≤ e + 1 → e + 1 - p < f → ∃ v, (∀ k, lpX6_mustGoOver_17 (nI e) x3 x4 M k f x5 (nI p) = k v (nI (e + 1))) ∧ (∀ k, lpX8_cut_35 (nI e) x3 x4 M k f x5 (nI p) = k v (nI (e + 1))) := by
  intro f
  induction f with
  | zero => intro p x5 _ h; omega
  | succ f ih =>
    intro p x5 hp hf
    unfold lpX6_mustGoOver_17 lpX8_cut_35
    by_cases h : e < p
    · have : p = e + 1 := by omega
      subst this
      have q : nI e < nI (e + 1) := nI_lt (by omega) (by omega)
      simp only [if_pos q]
      exact ⟨x5, fun k => rfl, fun k => rfl⟩
    · have q : ¬ nI e < nI p := fun z => h ((nI_ltI (by omega) (by omega)).mp z)
      have q2 : ¬ M.1 2 0 ≤ nI p := by rw [hn, nI_leI (by omega) (by omega)]; omega
      have hi : ow_inn (nI p) 7 := (inn_nI (by omega)).mpr (by omega)
      have hc : (nI p).toNatClampNeg = p := nI_clamp (by omega)
      obtain ⟨-, -, c40, c41⟩ := b4 p (by omega)
      unfold jX6_mustGoOver_51 jX8_cut_59
      simp only [if_neg q, if_neg q2, if_pos hi, hc, c40, c41, nI_1]
      by_cases z1 : M.1 5 p = x4
      · simp only [if_pos z1]
        by_cases z2 : M.1 6 p = x4
        · simp only [if_pos z2]; exact ih (p + 1) _ (by omega) (by omega)
        · simp only [if_neg z2]; exact ih (p + 1) _ (by omega) (by omega)
      · simp only [if_neg z1]
        by_cases z2 : M.1 6 p = x4
        · simp only [if_pos z2]; exact ih (p + 1) _ (by omega) (by omega)
        · simp only [if_neg z2]; exact ih (p + 1) _ (by omega) (by omega)
theorem cut_out {M : ow_M} {n e : Nat} (hn : M.1 2 0 = nI n) (h7 : n ≤ 7) (he : e < n) (b4 : ∀ i, i < n → M.1 38 i = M.1 3 i ∧ M.1 39 i = M.1 4 i ∧ M.1 40 i = M.1 5 i ∧ M.1 41 i = M.1 6 i) : ∀ (f q : Nat) (x : Int32), q ≤ 4 → 4 - q < f → ∃ v, (∀ k, lpX6_mustGoOver_5 (nI e) M k f x (nI q) = k v (nI 4)) ∧ (∀ k, lpX8_cut_24 (nI e) M k f x (nI q) = k v (nI 4)) := by
  intro f
  induction f with
  | zero => intro q x _ h; omega
  | succ f ih =>
    intro q x hq hf
    unfold lpX6_mustGoOver_5 lpX8_cut_24
    by_cases h : 4 ≤ q
    · have : q = 4 := by omega
      subst this
      have z : (4 : Int32) ≤ nI 4 := by decide
      simp only [if_pos z]
      exact ⟨x, fun k => rfl, fun k => rfl⟩
    · have z : ¬ (4 : Int32) ≤ nI q := by rw [l_4, nI_leI (by omega) (by omega)]; exact h
      simp only [if_neg z]
      obtain ⟨v, c1, c2⟩ := cut_in hn h7 he b4 x (nI q) ow_N 0 0 (by omega) (by unfold ow_N; omega)
      obtain ⟨w, d1, d2⟩ := ih (q + 1) (x + if v < 0 then 0 else v) (by omega) (by omega)
      refine ⟨w, fun k => ?_, fun k => ?_⟩
      · have := c1 (fun u8 _ => lpX6_mustGoOver_5 (nI e) M k f (x + (if u8 < 0 then 0 else u8)) (nI q + 1))
        rw [nI_0] at this
        rw [this, nI_1]
        exact d1 k
      · have := c2 (fun u11 _ => (if u11 ≤ 0 then lpX8_cut_24 (nI e) M k f (x + 0) (nI q + 1) else lpX8_cut_24 (nI e) M k f (x + u11) (nI q + 1)))
        rw [nI_0] at this
        rw [this, nI_1]
        have := d2 k
        by_cases y0 : v < 0
        · rw [if_pos y0] at this
          rw [if_pos (Int32.le_of_lt y0)]
          exact this
        · rw [if_neg y0] at this
          by_cases y1 : v ≤ 0
          · rw [if_pos y1]
            have : v = 0 := Int32.le_antisymm y1 (Int32.not_lt.mp y0)
            subst this
            assumption
          · rw [if_neg y1]
            exact this
theorem sp_cut {M : ow_M} (hI : ow_I M) (a1 : Int32) : ∃ r, fX7_cut a1 M = some r ∧ fX8_cut a1 M = some r := by
  obtain ⟨n, lp, g, rc, hA, hB, hR, hS, hT, hF⟩ := id hI
  obtain ⟨h0, h7, hn, he, hl, hg, hw, hv⟩ := id hA
  obtain ⟨b1, b2, b3, b4⟩ := id hB
  unfold fX7_cut fX8_cut
  rcases g_E (M := M) (N := M) he (e_edges b1 b2 h7 h0) h7 a1 with ⟨e, hk, rfl, e1, e2⟩ | ⟨e1, e2⟩
  · have hen := oed_n hk
    simp only [e1, e2, ow_obs, ow_10, reduceIte, hl, b2]
    by_cases q : bI lp = 0
    · simp only [if_pos q]
      obtain ⟨v, c1, c2⟩ := cut_out hn h7 hen b4 ow_N 0 0 (by omega) (by unfold ow_N; omega)
      unfold fX6_mustGoOver
      rw [← nI_0]
      rw [← nI_0] at c1 c2
      rw [c1, c2]
      exact ⟨_, rfl, rfl⟩
    · simp only [if_neg q]
      exact ⟨_, rfl, rfl⟩
  · rw [e1, e2]
    exact ⟨_, rfl, rfl⟩
