theorem iS_one {M N : ow_M} (hS : iS M) {k : Nat} (ho : ∀ q, q < 4 → q ≠ k → N.1 (26 + 2 * q) = M.1 (26 + 2 * q) ∧ N.1 (27 + 2 * q) = M.1 (27 + 2 * q) ∧ N.1 35 q = M.1 35 q ∧ N.1 36 q = M.1 36 q ∧ ∀ i, i < 50 → N.1 37 (50 * q + i) = M.1 37 (50 * q + i))
    (hn : k < 4 → (∃ len, len ≤ 50 ∧ N.1 (26 + 2 * k) 2 = nI len ∧ N.1 36 k = nI len) ∧ ((N.1 (26 + 2 * k) 0 = 0 ∧ N.1 35 k = -9) ∨ (N.1 (26 + 2 * k) 0 = 1 ∧ ∃ la, la < 3 ∧ N.1 (26 + 2 * k) 1 = nI la ∧ N.1 35 k = nI la)) ∧ ∀ i, i < 50 → N.1 37 (50 * k + i) = N.1 (27 + 2 * k) i) : iS N := by
  intro q hq
  by_cases h : q = k
  · subst h; exact hn hq
  · obtain ⟨c1, c2, c3, c4, c5⟩ := ho q hq h
    obtain ⟨⟨len, h5, hl, hl2⟩, ht, hce⟩ := hS q hq
    rw [c1, c2, c3, c4]
    exact ⟨⟨len, h5, hl, hl2⟩, ht, fun i hi => (c5 i hi).trans (hce i hi)⟩
theorem put_I {M : ow_M} (hI : ow_I M) {k a : Nat} (hk : k < 4) (ha : a < 50) (v : Int32) : ow_I (ow_up (ow_up (ow_up (ow_up M 0 8 0) (26 + 2 * k + 1) a v) 34 0 0) 37 (50 * k + a) v) := by
  obtain ⟨n, lp, g, rc, hA, hB, hR, hS, hT, hF⟩ := id hI
  have e27 : 26 + 2 * k + 1 = 27 + 2 * k := by omega
  rw [e27]
  refine ow_I_sh hI (fun b hb => ?_) (fun j hj => ?_) ?_ ?_ ?_
  · rw [ow_up_c (key2_ne hb (by decide)), ow_up_c (key2_ne hb (by decide)), ow_up_c (key2_s hb hk).2, ow_up_c (key2_ne hb (by decide))]
  · rw [ow_up_f (o := 37) (Or.inl (by decide)), (j34 (Or.inl rfl) j hj), ow_up_f (Or.inl (by omega)), ow_up_f (o := 0) (Or.inl (by decide))]
  · refine iS_one hS (k := k) (fun q hq hqk => ⟨?_, ?_, ?_, ?_, fun i hi => ?_⟩) (fun _ => ?_)
    · rw [ow_up_c (by omega), ow_up_c (by omega), ow_up_c (by omega), ow_up_c (by omega)]
    · rw [ow_up_c (by omega), ow_up_c (by omega), ow_up_c (by omega), ow_up_c (by omega)]
    · rw [ow_up_c (by omega), ow_up_c (by omega), ow_up_c (by omega), ow_up_c (by omega)]
    · rw [ow_up_c (by omega), ow_up_c (by omega), ow_up_c (by omega), ow_up_c (by omega)]
    · rw [ow_up_f (Or.inr (by omega)), ow_up_f (Or.inl (by omega)), ow_up_f (Or.inl (by omega)), ow_up_f (Or.inl (by omega))]
    · obtain ⟨⟨len, h5, hl, hl2⟩, ht, hce⟩ := hS k hk
      refine ⟨⟨len, h5, ?_, ?_⟩, ?_, fun i hi => ?_⟩
      · rw [ow_up_f (Or.inl (by omega)), ow_up_f (Or.inl (by omega)), ow_up_f (Or.inl (by omega)), ow_up_f (Or.inl (by omega))]; exact hl
      · rw [ow_up_f (Or.inl (by omega)), ow_up_f (Or.inl (by omega)), ow_up_f (Or.inl (by omega)), ow_up_f (Or.inl (by omega))]; exact hl2
      · have z1 : (ow_up (ow_up (ow_up (ow_up M 0 8 0) (27 + 2 * k) a v) 34 0 0) 37 (50 * k + a) v).1 (26 + 2 * k) = M.1 (26 + 2 * k) := by
          rw [ow_up_c (by omega), ow_up_c (by omega), ow_up_c (by omega), ow_up_c (by omega)]
        have z2 : (ow_up (ow_up (ow_up (ow_up M 0 8 0) (27 + 2 * k) a v) 34 0 0) 37 (50 * k + a) v).1 35 = M.1 35 := by
          rw [ow_up_c (by omega), ow_up_c (by omega), ow_up_c (by omega), ow_up_c (by omega)]
        rw [z1, z2]
        exact ht
      · by_cases hia : i = a
        · subst hia
          rw [ow_up_s, ow_up_f (a := 27 + 2 * k) (Or.inl (by omega)), ow_up_f (a := 27 + 2 * k) (Or.inl (by omega)), ow_up_s]
        · rw [ow_up_f (a := 37) (Or.inr (by omega)), ow_up_f (a := 37) (Or.inl (by omega)), ow_up_f (a := 37) (Or.inl (by omega)), ow_up_f (a := 37) (Or.inl (by omega)), ow_up_f (a := 27 + 2 * k) (Or.inl (by omega)), ow_up_f (a := 27 + 2 * k) (Or.inl (by omega)), ow_up_f (a := 27 + 2 * k) (Or.inr hia), ow_up_f (a := 27 + 2 * k) (Or.inl (by omega))]
          exact hce i hi
  · rw [ow_up_f (a := 34) (Or.inl (by decide)), ow_up_f (a := 34) (Or.inr (by decide)), ow_up_f (a := 34) (Or.inl (by omega)), ow_up_f (a := 34) (Or.inl (by omega)), ow_up_f (a := 0) (Or.inl (by decide)), ow_up_f (a := 0) (Or.inl (by decide)), ow_up_f (a := 0) (Or.inl (by omega)), ow_up_f (a := 0) (Or.inr (by decide))]
    exact hT
  · rw [ow_up_f (a := 34) (Or.inl (by decide)), ow_up_s, ow_up_f (a := 0) (Or.inl (by decide)), ow_up_f (a := 0) (Or.inl (by decide)), ow_up_f (a := 0) (Or.inl (by omega)), ow_up_s]
theorem sp_put {M : ow_M} (hI : ow_I M) (a1 a2 a3 : Int32) : ∃ r M1 M2, fX7_put a1 a2 a3 M = some (r, M1) ∧ fX8_put a1 a2 a3 M1 = some (r, M2) ∧ ow_I M2 := by
  obtain ⟨n, lp, g, rc, hA, hB, hR, hS, hT, hF⟩ := id hI
  unfold fX7_put
  rcases g_S a1 with ⟨k, hk, rfl, e1, e2⟩ | ⟨e1, e2⟩
  · have hi : ow_inn (nI k) 4 := (inn_nI (by omega)).mpr hk
    have hc : (nI k).toNatClampNeg = k := nI_clamp (by omega)
    obtain ⟨⟨len, h5, hl, hl2⟩, ht, hce⟩ := hS k hk
    have z0 : (ow_up M 0 8 0).1 (26 + 2 * k) = M.1 (26 + 2 * k) := ow_up_c (by omega)
    simp only [e1, ow_obs, ow_10, reduceIte, if_pos hi, hc]
    rw [z0]
    rcases ht with ⟨t1, t2⟩ | ⟨t1, lb, hlb, t2, t3⟩
    · rw [if_pos t1]
      refine ⟨_, _, _, rfl, ?_, ow_I_ff2 hI 1 0⟩
      unfold fX8_put
      have q1 : (ow_up (ow_up (ow_up M 0 8 0) 0 8 1) 34 0 0).1 35 k = -9 := t2
      simp only [e2, ow_obs, ow_10, reduceIte, if_pos hi, hc, if_pos q1]
      rfl
    · rw [t1, if_neg (by decide)]
      have q9 : ¬ nI lb = -9 := fun h => (nI_m9 (by omega)).mp h
      rcases has1 (M := ow_up M 0 8 0) (o := 26 + 2 * k) (by rw [z0]; exact hl) h5 a2 with ⟨a, ha, rfl, h1, h2⟩ | ⟨h1, h2⟩
      · have i5 : ow_inn (nI a) 50 := (inn_nI (by omega)).mpr (by omega)
        have ic : (nI a).toNatClampNeg = a := nI_clamp (by omega)
        obtain ⟨x1, x2, x3⟩ := ix50 (k := k) (a := a) hk (by omega)
        have hst : ∀ v, fX4_store (26 + 2 * k) (nI a) a3 (ow_up M 0 8 0) = some (ow_up (ow_up M 0 8 0) (26 + 2 * k + 1) a v) → ∃ r M1 M2, Option.bind (fX4_store (26 + 2 * k) (nI a) a3 (ow_up M 0 8 0)) (fun M13 => some ((1 : Int32), M13)) = some (r, M1) ∧ (fX8_put (nI k) (nI a) a3 (ow_up (ow_up M 0 8 0) (26 + 2 * k + 1) a v) = some (1, ow_up (ow_up (ow_up (ow_up M 0 8 0) (26 + 2 * k + 1) a v) 34 0 0) 37 (50 * k + a) v) → fX8_put (nI k) (nI a) a3 M1 = some (r, M2) ∧ ow_I M2) := by
          intro v hv
          rw [hv]
          exact ⟨_, _, _, rfl, fun h => ⟨h, put_I hI hk (by omega) v⟩⟩
        have go : ∀ v, fX4_store (26 + 2 * k) (nI a) a3 (ow_up M 0 8 0) = some (ow_up (ow_up M 0 8 0) (26 + 2 * k + 1) a v) → fX8_put (nI k) (nI a) a3 (ow_up (ow_up M 0 8 0) (26 + 2 * k + 1) a v) = some (1, ow_up (ow_up (ow_up (ow_up M 0 8 0) (26 + 2 * k + 1) a v) 34 0 0) 37 (50 * k + a) v) → ∃ r M1 M2, (if fX4_hasCells (26 + 2 * k) (nI a) 1 (ow_up M 0 8 0) = some 1 then Option.bind (fX4_store (26 + 2 * k) (nI a) a3 (ow_up M 0 8 0)) (fun M13 => some ((1 : Int32), M13)) else none) = some (r, M1) ∧ fX8_put (nI k) (nI a) a3 M1 = some (r, M2) ∧ ow_I M2 := by
          intro v h3 h4
          rw [if_pos h1, h3]
          exact ⟨_, _, _, rfl, h4, put_I hI hk (by omega) v⟩
        simp only [h1, ow_obs, ow_10, reduceIte] at go ⊢
        have ge : ¬ nI a < 0 := nI_pos (by omega)
        have lt : ¬ M.1 (26 + 2 * k) 2 ≤ nI a := by rw [hl, nI_leI (by omega) (by omega)]; omega
        have hput : ∀ v, ((lb = 0 ∧ v = a3.toInt8.toInt32) ∨ (lb = 1 ∧ v = a3.toInt16.toInt32) ∨ (lb = 2 ∧ v = a3)) → fX4_store (26 + 2 * k) (nI a) a3 (ow_up M 0 8 0) = some (ow_up (ow_up M 0 8 0) (26 + 2 * k + 1) a v) ∧ fX8_put (nI k) (nI a) a3 (ow_up (ow_up M 0 8 0) (26 + 2 * k + 1) a v) = some (1, ow_up (ow_up (ow_up (ow_up M 0 8 0) (26 + 2 * k + 1) a v) 34 0 0) 37 (50 * k + a) v) := by
          intro v hv
          have y35 : (ow_up (ow_up (ow_up M 0 8 0) (26 + 2 * k + 1) a v) 34 0 0).1 35 k = nI lb := by
            rw [ow_up_f (Or.inl (by decide)), ow_up_f (Or.inl (by omega))]; exact t3
          have y36 : (ow_up (ow_up (ow_up M 0 8 0) (26 + 2 * k + 1) a v) 34 0 0).1 36 k = nI len := by
            rw [ow_up_f (Or.inl (by decide)), ow_up_f (Or.inl (by omega))]; exact hl2
          unfold fX4_store fX8_put
          simp only [e2, ow_obs, ow_10, reduceIte, if_pos hi, hc, y35, y36, if_neg q9, h2, if_neg ge, if_neg lt, z0, t2, if_pos i5, ic, if_pos x2, x3]
          rcases hv with ⟨rfl, rfl⟩ | ⟨rfl, rfl⟩ | ⟨rfl, rfl⟩
          · have u0 : nI 0 = 0 := rfl
            simp only [if_pos u0]; exact ⟨trivial, trivial⟩
          · have u0 : ¬ nI 1 = 0 := by decide
            have u1 : nI 1 = 1 := rfl
            simp only [if_neg u0, if_pos u1]; exact ⟨trivial, trivial⟩
          · have u0 : ¬ nI 2 = 0 := by decide
            have u1 : ¬ nI 2 = 1 := by decide
            simp only [if_neg u0, if_neg u1]; exact ⟨trivial, trivial⟩
        rcases (show lb = 0 ∨ lb = 1 ∨ lb = 2 by omega) with h | h | h
        · obtain ⟨p1, p2⟩ := hput _ (Or.inl ⟨h, rfl⟩); exact go _ p1 p2
        · obtain ⟨p1, p2⟩ := hput _ (Or.inr (Or.inl ⟨h, rfl⟩)); exact go _ p1 p2
        · obtain ⟨p1, p2⟩ := hput _ (Or.inr (Or.inr ⟨h, rfl⟩)); exact go _ p1 p2
      · simp only [h1, ow_obs, reduceIte]
        refine ⟨_, _, _, rfl, ?_, ow_I_ff2 hI 3 0⟩
        unfold fX8_put
        have q8 : ¬ (ow_up (ow_up (ow_up M 0 8 0) 0 8 3) 34 0 0).1 35 k = -9 := fun h => q9 (t3.symm.trans h)
        have y36 : (ow_up (ow_up (ow_up M 0 8 0) 0 8 3) 34 0 0).1 36 k = nI len := hl2
        simp only [e2, ow_obs, ow_10, reduceIte, if_pos hi, hc, if_neg q8, y36, h2]
        rfl
  · rw [e1]
    refine ⟨_, _, _, rfl, ?_, ow_I_ff hI 0⟩
    unfold fX8_put
    rw [e2]
    rfl
/-! filling -/
def ow_fi (M : ow_M) (o i n : Nat) (v : Int32) : ow_M := (fun a b => if a = o ∧ i ≤ b ∧ b < n then v else M.1 a b, M.2)
theorem fi_step (M : ow_M) (o i n : Nat) (v : Int32) (h : i < n) : ow_fi (ow_up M o i v) o (i + 1) n v = ow_fi M o i n v := by
  apply Prod.ext
  · funext a b
    show (if a = o ∧ i + 1 ≤ b ∧ b < n then v else if a = o ∧ b = i then v else M.1 a b) = (if a = o ∧ i ≤ b ∧ b < n then v else M.1 a b)
    by_cases h1 : a = o
    · subst h1
      by_cases h2 : b = i
      · subst h2
        rw [if_neg (by omega), if_pos ⟨rfl, rfl⟩, if_pos ⟨rfl, Nat.le_refl _, h⟩]
      · by_cases h3 : i + 1 ≤ b ∧ b < n
        · rw [if_pos ⟨rfl, h3⟩, if_pos ⟨rfl, by omega, h3.2⟩]
        · rw [if_neg (fun q => h3 q.2), if_neg (fun q => h2 q.2), if_neg (fun q => h3 ⟨by omega, q.2.2⟩)]
    · rw [if_neg (fun q => h1 q.1), if_neg (fun q => h1 q.1), if_neg (fun q => h1 q.1)]
  · rfl
theorem fi_end (M : ow_M) (o n : Nat) (v : Int32) : ow_fi M o n n v = M := by
  apply Prod.ext
  · funext a b
    show (if a = o ∧ n ≤ b ∧ b < n then v else M.1 a b) = M.1 a b
    rw [if_neg (by omega)]
  · rfl
theorem fill_lp (o nn : Nat) (v : Int32) (hn : nn < 2 ^ 31 - 1) (k : Int32 → ow_M → Option ow_M) : ∀ (f i : Nat) (M : ow_M), i ≤ nn → nn - i < f → lpJ7_fill_53178_5 o v (Int32.ofNat nn) nn k f (nI i) M = k (nI nn) (ow_fi M o i nn v) := by
  intro f
  induction f with
  | zero => intro i M _ h; omega
  | succ f ih =>
    intro i M hi hf
    unfold lpJ7_fill_53178_5
    have e : (Int32.ofNat nn ≤ nI i) ↔ nn ≤ i := nI_leI (a := nn) (b := i) (by omega) (by omega)
    by_cases h : nn ≤ i
    · have : i = nn := by omega
      subst this
      rw [if_pos (e.mpr h), fi_end]
    · rw [if_neg (fun q => h (e.mp q)), if_pos ((inn_nI (by omega)).mpr (by omega)), nI_clamp (by omega), nI_1, ih (i + 1) _ (by omega) (by omega), fi_step _ _ _ _ _ (by omega)]
theorem fill_eq (o nn : Nat) (v : Int32) (hn : nn ≤ 1000) (M : ow_M) : fJ7_fill_53178 o nn v M = some (ow_fi M o 0 nn v) := by
  unfold fJ7_fill_53178
  exact fill_lp o nn v (by omega) _ ow_N 0 M (Nat.zero_le _) (by unfold ow_N; omega)
