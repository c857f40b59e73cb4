def ow_x (c : Nat) (M N : ow_M) : Prop := ∀ a, a ≠ c → N.1 a = M.1 a
theorem ow_x_rf {c : Nat} {M : ow_M} : ow_x c M M := fun _ _ => rfl
theorem ow_x_up {c j : Nat} {v : Int32} {M N : ow_M} (h : ow_x c M N) : ow_x c M (ow_up N c j v) := fun a ha => (ow_up_c ha).trans (h a ha)
theorem ow_x_tr {c : Nat} {M N K : ow_M} (h : ow_x c M N) (h2 : ow_x c N K) : ow_x c M K := fun a ha => (h2 a ha).trans (h a ha)
theorem load_eq {M : ow_M} {o len i : Nat} (hl : M.1 o 2 = nI len) (h5 : len ≤ 50) (hi : i < len) : fX4_load o (nI i) M = some (M.1 (o + 1) i) := by
  have hin : ow_inn (nI i) 50 := (inn_nI (by omega)).mpr (by omega)
  have hc : (nI i).toNatClampNeg = i := nI_clamp (by omega)
  unfold fX4_load
  rw [hl, if_neg (nI_pos (by omega))]
  simp only [if_pos hin, hc]
  have : ¬ nI len ≤ nI i := by rw [nI_leI (by omega) (by omega)]; omega
  simp only [if_neg this]
theorem P_is {M : ow_M} {n k : Nat} (hn : M.1 2 0 = nI n) (h7 : n ≤ 7) (hk : k < n) : fX0_isPerson (nI k) M = some 1 := by
  rcases g_P0 hn h7 (nI k) with ⟨_, _, _, h⟩ | ⟨hx, _⟩
  · exact h
  · exact absurd ⟨k, hk, rfl⟩ hx
theorem cw_new : ∀ n, n < 8 → ∀ S, S < 128 → ∀ q, q < n → S.testBit q = false → cw2 (S ||| 2 ^ q) n 0 = cw2 S n 0 + 1 := by decide +kernel
theorem cw_all : ∀ n, n < 8 → ∀ S, S < 128 → cw2 S n 0 = n → ∀ q, q < n → S.testBit q = true := by decide +kernel
theorem cw_no : ∀ n, n < 8 → cw2 0 n 0 = 0 := by decide +kernel
/-- reading an ORDER: both fail, or both come to the same places -/
theorem rd_join {n k a len : Nat} (h7 : n ≤ 7) (hk : k < 4) (hal : a + n ≤ len) (h5 : len ≤ 50) (x5 : Int32) : ∀ (f t S : Nat) (C D : ow_M), t ≤ n → n - t < f → S < 128 → cw2 S n 0 = t → C.1 2 0 = nI n → D.1 34 5 = nI n → C.1 (26 + 2 * k) 2 = nI len → (∀ i, i < 50 → D.1 37 (50 * k + i) = C.1 (27 + 2 * k) i) →
    (∀ q, q < n → (S.testBit q = false ∧ C.1 17 q = -9) ∨ (S.testBit q = true ∧ C.1 17 q = D.1 50 q ∧ ∃ v, v < 7 ∧ C.1 17 q = nI v)) →
    (∃ C2 D2, ow_x 17 C C2 ∧ ow_x 50 D D2 ∧ (∀ K, lpX2_readPlaces_12 (26 + 2 * k) (nI a) K f (nI t) C = some (0, C2)) ∧ ∀ K, lpX8_order_85 (nI k) (nI a) (nI n) x5 K f (nI S) (nI t) D = some (-1, D2)) ∨
    (∃ C2 D2 S2, ow_x 17 C C2 ∧ ow_x 50 D D2 ∧ (∀ q, q < n → D2.1 50 q = C2.1 17 q) ∧ (∀ K, lpX2_readPlaces_12 (26 + 2 * k) (nI a) K f (nI t) C = K (nI n) C2) ∧ ∀ K, lpX8_order_85 (nI k) (nI a) (nI n) x5 K f (nI S) (nI t) D = K (nI S2) (nI n) D2) := by
  intro f
  induction f with
  | zero => intro t S C D _ h; omega
  | succ f ih =>
    intro t S C D ht hf hS hcw hn hm hl hce hpl
    unfold lpX2_readPlaces_12 lpX8_order_85
    by_cases h : n ≤ t
    · have : t = n := by omega
      subst this
      have z1 : C.1 2 0 ≤ nI t := by rw [hn]; exact (nI_leI (by omega) (by omega)).mpr h
      have z2 : nI t ≤ nI t := (nI_leI (by omega) (by omega)).mpr h
      simp only [if_pos z1, if_pos z2]
      refine Or.inr ⟨C, D, S, ow_x_rf, ow_x_rf, fun q hq => ?_, fun K => rfl, fun K => rfl⟩
      have hb := cw_all t (by omega) S hS hcw q hq
      rcases hpl q hq with ⟨h1, _⟩ | ⟨_, h2, _⟩
      · rw [h1] at hb; cases hb
      · exact h2.symm
    · have z1 : ¬ C.1 2 0 ≤ nI t := by rw [hn, nI_leI (by omega) (by omega)]; exact h
      have z2 : ¬ nI n ≤ nI t := by rw [nI_leI (by omega) (by omega)]; exact h
      obtain ⟨x1, x2⟩ := ix3 (k := k) (i := a) (c := t) (by omega)
      have ec : D.1 37 (50 * k + a + t) = C.1 (27 + 2 * k) (a + t) := by rw [Nat.add_assoc]; exact hce (a + t) (by omega)
      simp only [if_neg z1, if_neg z2, if_pos x1, x2, nI_add, load_eq hl h5 (show a + t < len by omega), ow_obs, ec]
      rw [show 26 + 2 * k + 1 = 27 + 2 * k by omega]
      generalize C.1 (27 + 2 * k) (a + t) = p
      rcases g_P (M := C) (N := D) hn hm h7 p with ⟨q, hq, rfl, e1, e2⟩ | ⟨e1, e2⟩
      · have hi : ow_inn (nI q) 7 := (inn_nI (by omega)).mpr (by omega)
        have hc : (nI q).toNatClampNeg = q := nI_clamp (by omega)
        have hbit : (nI S >>> (nI q &&& 31)) &&& 1 = bI (S.testBit q) := bit_e (by omega) (by omega)
        simp only [e1, e2, ow_obs, ow_10, reduceIte, if_pos hi, hc, hbit, one_e (show q < 32 by omega), nx_or, nI_1]
        rcases hpl q hq with ⟨h1, h2⟩ | ⟨h1, h2, v, hv, h3⟩
        · have y1 : ¬ bI (S.testBit q) = 1 := by rw [h1]; decide
          simp only [if_pos h2, if_neg y1]
          have hS2 : S ||| 2 ^ q < 128 := by
            have : 2 ^ q < 2 ^ 7 := Nat.pow_lt_pow_right (by decide) (by omega)
            exact Nat.or_lt_two_pow (n := 7) hS this
          have := ih (t + 1) (S ||| 2 ^ q) (ow_up C 17 q (nI t)) (ow_up D 50 q (nI t)) (by omega) (by omega) hS2 (by rw [cw_new n (by omega) S hS q hq h1, hcw]) hn hm (by rw [ow_up_c (by omega)]; exact hl) (fun i hi => by rw [ow_up_c (by decide), ow_up_c (by omega)]; exact hce i hi) (fun q2 hq2 => by
            by_cases hqq : q2 = q
            · subst hqq
              refine Or.inr ⟨?_, ?_, t, by omega, ow_up_s⟩
              · rw [Nat.testBit_or, Nat.testBit_two_pow_self, Bool.or_true]
              · rw [ow_up_s, ow_up_s]
            · rw [Nat.testBit_or, Nat.testBit_two_pow_of_ne (fun z => hqq z.symm), Bool.or_false, ow_up_f (Or.inr hqq), ow_up_f (Or.inr hqq)]
              exact hpl q2 hq2)
          rcases this with ⟨C2, D2, c1, c2, c3, c4⟩ | ⟨C2, D2, S2, c1, c2, c3, c5, c6⟩
          · exact Or.inl ⟨C2, D2, ow_x_tr (ow_x_up ow_x_rf) c1, ow_x_tr (ow_x_up ow_x_rf) c2, c3, c4⟩
          · exact Or.inr ⟨C2, D2, S2, ow_x_tr (ow_x_up ow_x_rf) c1, ow_x_tr (ow_x_up ow_x_rf) c2, c3, c5, c6⟩
        · have y1 : bI (S.testBit q) = 1 := by rw [h1]; rfl
          have y2 : ¬ C.1 17 q = -9 := by rw [h3]; exact fun z => (nI_m9 (by omega)).mp z
          simp only [if_neg y2, if_pos y1]
          exact Or.inl ⟨C, D, ow_x_rf, ow_x_rf, fun _ => rfl, fun _ => rfl⟩
      · simp only [e1, e2, ow_obs, reduceIte]
        exact Or.inl ⟨C, D, ow_x_rf, ow_x_rf, fun _ => rfl, fun _ => rfl⟩
/-- BARS and CHANGES by the same places -/
def iO (C D : ow_M) (n : Nat) : Prop := C.1 2 0 = nI n ∧ D.1 34 5 = nI n ∧ ∀ q, q < n → D.1 50 q = C.1 17 q ∧ D.1 39 q = C.1 4 q
theorem bar_in {C D : ow_M} {n : Nat} (h7 : n ≤ 7) (h : iO C D n) {l : Nat} (hl : l < n) : ∀ (f r : Nat), r ≤ n → n - r < f → (∃ v, (∀ k, lpX2_firstBar_14 (nI l) C k f (nI r) = some v) ∧ ∀ k, lpX8_barred_14 (nI l) D k f (nI r) = some v) ∨ ((∀ k, lpX2_firstBar_14 (nI l) C k f (nI r) = k (nI n)) ∧ ∀ k, lpX8_barred_14 (nI l) D k f (nI r) = k (nI n)) := by
  obtain ⟨hn, hm, hq⟩ := h
  intro f
  induction f with
  | zero => intro r _ h; omega
  | succ f ih =>
    intro r hr hf
    unfold lpX2_firstBar_14 lpX8_barred_14
    by_cases h : n ≤ r
    · have : r = n := by omega
      subst this
      have z : nI r ≤ nI r := (nI_leI (by omega) (by omega)).mpr h
      simp only [hn, hm, if_pos z]
      exact Or.inr ⟨fun _ => trivial, fun _ => trivial⟩
    · have z : ¬ nI n ≤ nI r := by rw [nI_leI (by omega) (by omega)]; exact h
      have i1 : ow_inn (nI l) 7 := (inn_nI (by omega)).mpr (by omega)
      have i2 : ow_inn (nI r) 7 := (inn_nI (by omega)).mpr (by omega)
      have c1 : (nI l).toNatClampNeg = l := nI_clamp (by omega)
      have c2 : (nI r).toNatClampNeg = r := nI_clamp (by omega)
      unfold fX2_mayChange
      simp only [hn, hm, if_neg z, if_pos i1, if_pos i2, c1, c2, (hq l hl).1, (hq l hl).2, (hq r (by omega)).1, (hq r (by omega)).2, nI_1]
      by_cases y : C.1 17 l ≤ C.1 17 r
      · simp only [if_pos y]
        exact ih (r + 1) (by omega) (by omega)
      · simp only [if_neg y]
        by_cases y2 : C.1 4 r < C.1 4 l
        · have y3 : ¬ C.1 4 l ≤ C.1 4 r := Int32.not_le.mpr y2
          simp only [if_pos y2, if_neg y3, ow_obs, reduceIte]
          exact Or.inl ⟨_, fun _ => rfl, fun _ => rfl⟩
        · have y3 : C.1 4 l ≤ C.1 4 r := Int32.not_lt.mp y2
          simp only [if_neg y2, if_pos y3, ow_obs, ow_10, reduceIte]
          exact ih (r + 1) (by omega) (by omega)
theorem bar_out {C D : ow_M} {n : Nat} (h7 : n ≤ 7) (h : iO C D n) : ∀ (f l : Nat), l ≤ n → n - l < f → ∃ v, lpX2_firstBar_2 C (fun _ => some (-9)) f (nI l) = some v ∧ lpX8_barred_2 D (fun _ => some (-9)) f (nI l) = some v := by
  obtain ⟨hn, hm, hq⟩ := id h
  intro f
  induction f with
  | zero => intro l _ h; omega
  | succ f ih =>
    intro l hl hf
    unfold lpX2_firstBar_2 lpX8_barred_2
    by_cases hh : n ≤ l
    · have : l = n := by omega
      subst this
      have z : nI l ≤ nI l := (nI_leI (by omega) (by omega)).mpr hh
      simp only [hn, hm, if_pos z]
      exact ⟨_, rfl, rfl⟩
    · have z : ¬ nI n ≤ nI l := by rw [nI_leI (by omega) (by omega)]; exact hh
      simp only [hn, hm, if_neg z, nI_1]
      rcases bar_in h7 h (l := l) (by omega) ow_N (l + 1) (by omega) (by unfold ow_N; omega) with ⟨v, c1, c2⟩ | ⟨c1, c2⟩
      · rw [c1, c2]; exact ⟨v, rfl, rfl⟩
      · rw [c1, c2]; exact ih (l + 1) (by omega) (by omega)
theorem chg_in {C D : ow_M} {n : Nat} (h7 : n ≤ 7) (h : iO C D n) {l : Nat} (hl : l < n) : ∀ (f r : Nat) (x : Int32), r ≤ n → n - r < f → ∃ v, (∀ k, lpX2_changes_17 (nI l) C k f x (nI r) = k v (nI n)) ∧ ∀ k, lpX8_changes_16 (nI l) D k f x (nI r) = k v (nI n) := by
  obtain ⟨hn, hm, hq⟩ := h
  intro f
  induction f with
  | zero => intro r x _ h; omega
  | succ f ih =>
    intro r x hr hf
    unfold lpX2_changes_17 lpX8_changes_16
    by_cases h : n ≤ r
    · have : r = n := by omega
      subst this
      have z : nI r ≤ nI r := (nI_leI (by omega) (by omega)).mpr h
      simp only [hn, hm, if_pos z]
      exact ⟨x, fun _ => rfl, fun _ => rfl⟩
    · have z : ¬ nI n ≤ nI r := by rw [nI_leI (by omega) (by omega)]; exact h
      have i1 : ow_inn (nI l) 7 := (inn_nI (by omega)).mpr (by omega)
      have i2 : ow_inn (nI r) 7 := (inn_nI (by omega)).mpr (by omega)
      have c1 : (nI l).toNatClampNeg = l := nI_clamp (by omega)
      have c2 : (nI r).toNatClampNeg = r := nI_clamp (by omega)
      simp only [hn, hm, if_neg z, if_pos i1, if_pos i2, c1, c2, (hq l hl).1, (hq r (by omega)).1, nI_1, Int32.add_zero]
      by_cases y : C.1 17 l ≤ C.1 17 r
      · simp only [if_pos y]
        exact ih (r + 1) _ (by omega) (by omega)
      · simp only [if_neg y]
        exact ih (r + 1) _ (by omega) (by omega)
theorem chg_out {C D : ow_M} {n : Nat} (h7 : n ≤ 7) (h : iO C D n) : ∀ (f l : Nat) (x : Int32), l ≤ n → n - l < f → ∃ v, lpX2_changes_4 C (fun u _ => some u) f x (nI l) = some v ∧ lpX8_changes_4 D (fun u _ => some u) f x (nI l) = some v := by
  obtain ⟨hn, hm, hq⟩ := id h
  intro f
  induction f with
  | zero => intro l x _ h; omega
  | succ f ih =>
    intro l x hl hf
    unfold lpX2_changes_4 lpX8_changes_4
    by_cases hh : n ≤ l
    · have : l = n := by omega
      subst this
      have z : nI l ≤ nI l := (nI_leI (by omega) (by omega)).mpr hh
      simp only [hn, hm, if_pos z]
      exact ⟨_, rfl, rfl⟩
    · have z : ¬ nI n ≤ nI l := by rw [nI_leI (by omega) (by omega)]; exact hh
      simp only [hn, hm, if_neg z, nI_1]
      obtain ⟨v, c1, c2⟩ := chg_in h7 h (l := l) (by omega) ow_N (l + 1) x (by omega) (by unfold ow_N; omega)
      rw [c1, c2]
      exact ih (l + 1) v (by omega) (by omega)
