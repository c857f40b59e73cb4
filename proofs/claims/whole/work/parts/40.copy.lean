def ow_c2 (M : ow_M) (lo hi s d : Nat) : ow_M := (fun a b => if a = 37 ∧ lo ≤ b ∧ b < hi then M.1 37 (s + (b - d)) else M.1 a b, M.2)
theorem c2_c {M : ow_M} {lo hi s d a : Nat} (h : a ≠ 37) : (ow_c2 M lo hi s d).1 a = M.1 a := by
  funext b
  show (if a = 37 ∧ lo ≤ b ∧ b < hi then _ else M.1 a b) = M.1 a b
  rw [if_neg (fun q => h q.1)]
theorem c2_in {M : ow_M} {lo hi s d b : Nat} (h : lo ≤ b ∧ b < hi) : (ow_c2 M lo hi s d).1 37 b = M.1 37 (s + (b - d)) := by
  show (if 37 = 37 ∧ lo ≤ b ∧ b < hi then M.1 37 (s + (b - d)) else _) = _
  rw [if_pos ⟨rfl, h⟩]
theorem c2_out {M : ow_M} {lo hi s d b : Nat} (h : ¬ (lo ≤ b ∧ b < hi)) : (ow_c2 M lo hi s d).1 37 b = M.1 37 b := by
  show (if 37 = 37 ∧ lo ≤ b ∧ b < hi then _ else M.1 37 b) = _
  rw [if_neg (fun q => h q.2)]
theorem c2_nil {M : ow_M} {lo s d : Nat} : ow_c2 M lo lo s d = M := by
  apply Prod.ext
  · funext a b
    show (if a = 37 ∧ lo ≤ b ∧ b < lo then _ else M.1 a b) = M.1 a b
    rw [if_neg (by omega)]
  · rfl
theorem c2_fw {M : ow_M} {q s d : Nat} (h : ¬ (d ≤ s + q ∧ s + q < d + q)) : ow_up (ow_c2 M d (d + q) s d) 37 (d + q) ((ow_c2 M d (d + q) s d).1 37 (s + q)) = ow_c2 M d (d + (q + 1)) s d := by
  rw [c2_out h]
  apply Prod.ext
  · funext a b
    show (if a = 37 ∧ b = d + q then M.1 37 (s + q) else if a = 37 ∧ d ≤ b ∧ b < d + q then M.1 37 (s + (b - d)) else M.1 a b) = (if a = 37 ∧ d ≤ b ∧ b < d + (q + 1) then M.1 37 (s + (b - d)) else M.1 a b)
    by_cases h1 : a = 37
    · subst h1
      by_cases h2 : b = d + q
      · subst h2
        rw [if_pos ⟨rfl, rfl⟩, if_pos ⟨rfl, by omega, by omega⟩, show d + q - d = q by omega]
      · by_cases h3 : d ≤ b ∧ b < d + q
        · rw [if_neg (fun z => h2 z.2), if_pos ⟨rfl, h3⟩, if_pos ⟨rfl, by omega, by omega⟩]
        · rw [if_neg (fun z => h2 z.2), if_neg (fun z => h3 z.2), if_neg (fun z => h3 ⟨z.2.1, by omega⟩)]
    · rw [if_neg (fun z => h1 z.1), if_neg (fun z => h1 z.1), if_neg (fun z => h1 z.1)]
  · rfl
theorem c2_bw {M : ow_M} {r q s d : Nat} (h : ¬ (d + (r + 1) ≤ s + r ∧ s + r < d + (r + 1) + q)) : ow_up (ow_c2 M (d + (r + 1)) (d + (r + 1) + q) s d) 37 (d + r) ((ow_c2 M (d + (r + 1)) (d + (r + 1) + q) s d).1 37 (s + r)) = ow_c2 M (d + r) (d + (r + 1) + q) s d := by
  rw [c2_out h]
  apply Prod.ext
  · funext a b
    show (if a = 37 ∧ b = d + r then M.1 37 (s + r) else if a = 37 ∧ d + (r + 1) ≤ b ∧ b < d + (r + 1) + q then M.1 37 (s + (b - d)) else M.1 a b) = (if a = 37 ∧ d + r ≤ b ∧ b < d + (r + 1) + q then M.1 37 (s + (b - d)) else M.1 a b)
    by_cases h1 : a = 37
    · subst h1
      by_cases h2 : b = d + r
      · subst h2
        rw [if_pos ⟨rfl, rfl⟩, if_pos ⟨rfl, by omega, by omega⟩, show d + r - d = r by omega]
      · by_cases h3 : d + (r + 1) ≤ b ∧ b < d + (r + 1) + q
        · rw [if_neg (fun z => h2 z.2), if_pos ⟨rfl, h3⟩, if_pos ⟨rfl, by omega, by omega⟩]
        · rw [if_neg (fun z => h2 z.2), if_neg (fun z => h3 z.2), if_neg (fun z => h3 ⟨by omega, z.2.2⟩)]
    · rw [if_neg (fun z => h1 z.1), if_neg (fun z => h1 z.1), if_neg (fun z => h1 z.1)]
  · rfl
theorem ix3 {k i c : Nat} (h : 50 * k + i + c < 200) : ow_inn ((50 : Int32) * nI k + nI i + nI c) 200 ∧ ((50 : Int32) * nI k + nI i + nI c).toNatClampNeg = 50 * k + i + c := by
  have e : (50 : Int32) * nI k + nI i + nI c = nI (50 * k + i + c) := by rw [l_50, pk_mul, nI_add, nI_add]
  rw [e]
  exact ⟨(inn_nI (by omega)).mpr h, nI_clamp (by omega)⟩
theorem cp_fw {k1 k2 i j c : Nat} (hs : 50 * k1 + i + c ≤ 200) (hd : 50 * k2 + j + c ≤ 200) (K : Int32 → ow_M → Option (Int32 × ow_M)) (M : ow_M) (hap : ∀ q t, t < q → q < c → 50 * k1 + i + q ≠ 50 * k2 + j + t) : ∀ (f q : Nat), q ≤ c → c - q < f → lpX8_copy_166 (nI k1) (nI i) (nI k2) (nI j) (nI c) 0 K f (nI q) (ow_c2 M (50 * k2 + j) (50 * k2 + j + q) (50 * k1 + i) (50 * k2 + j)) = K (nI c) (ow_c2 M (50 * k2 + j) (50 * k2 + j + c) (50 * k1 + i) (50 * k2 + j)) := by
  intro f
  induction f with
  | zero => intro q _ h; omega
  | succ f ih =>
    intro q hq hf
    unfold lpX8_copy_166
    by_cases h : c ≤ q
    · have : q = c := by omega
      subst this
      rw [if_pos ((nI_leI (by omega) (by omega)).mpr h)]
    · rw [if_neg (fun z => h ((nI_leI (by omega) (by omega)).mp z)), if_pos rfl]
      unfold jX8_copy_190
      obtain ⟨x1, x2⟩ := ix3 (k := k1) (i := i) (c := q) (by omega)
      obtain ⟨y1, y2⟩ := ix3 (k := k2) (i := j) (c := q) (by omega)
      rw [if_pos x1, if_pos y1, x2, y2, nI_1, c2_fw (by
        rintro ⟨z1, z2⟩
        exact hap q (50 * k1 + i + q - (50 * k2 + j)) (by omega) (by omega) (by omega))]
      exact ih (q + 1) (by omega) (by omega)
theorem cp_bw {k1 k2 i j c : Nat} (hs : 50 * k1 + i + c ≤ 200) (hd : 50 * k2 + j + c ≤ 200) (K : Int32 → ow_M → Option (Int32 × ow_M)) (M : ow_M) (hap : ∀ q t, q < t → t < c → 50 * k1 + i + q ≠ 50 * k2 + j + t) : ∀ (f q : Nat), q ≤ c → c - q < f → lpX8_copy_166 (nI k1) (nI i) (nI k2) (nI j) (nI c) 1 K f (nI q) (ow_c2 M (50 * k2 + j + (c - q)) (50 * k2 + j + (c - q) + q) (50 * k1 + i) (50 * k2 + j)) = K (nI c) (ow_c2 M (50 * k2 + j) (50 * k2 + j + c) (50 * k1 + i) (50 * k2 + j)) := by
  intro f
  induction f with
  | zero => intro q _ h; omega
  | succ f ih =>
    intro q hq hf
    unfold lpX8_copy_166
    by_cases h : c ≤ q
    · have : q = c := by omega
      subst this
      rw [if_pos ((nI_leI (by omega) (by omega)).mpr h), Nat.sub_self]
      rfl
    · rw [if_neg (fun z => h ((nI_leI (by omega) (by omega)).mp z)), if_neg (by decide)]
      unfold jX8_copy_190
      have er : nI c - 1 - nI q = nI (c - 1 - q) := by rw [l_1, pk_sub (by omega), pk_sub (by omega)]
      obtain ⟨r, hr⟩ : ∃ r, c - q = r + 1 := ⟨c - q - 1, by omega⟩
      have hr2 : c - 1 - q = r := by omega
      rw [er, hr2]
      obtain ⟨x1, x2⟩ := ix3 (k := k1) (i := i) (c := r) (by omega)
      obtain ⟨y1, y2⟩ := ix3 (k := k2) (i := j) (c := r) (by omega)
      rw [if_pos x1, if_pos y1, x2, y2, nI_1, hr, c2_bw (by
        rintro ⟨z1, z2⟩
        exact hap r (50 * k1 + i + r - (50 * k2 + j)) (by omega) (by omega) (by omega))]
      have := ih (q + 1) (by omega) (by omega)
      rw [show c - (q + 1) = r by omega, show 50 * k2 + j + r + (q + 1) = 50 * k2 + j + (r + 1) + q by omega] at this
      exact this
theorem cp_all {k1 k2 i j c : Nat} (hk1 : k1 < 4) (hk2 : k2 < 4) (hs : i + c ≤ 50) (hd : j + c ≤ 50) (M : ow_M) : (if nI j ≤ nI i then jX8_copy_161 (nI k1) (nI i) (nI k2) (nI j) (nI c) 0 M else jX8_copy_161 (nI k1) (nI i) (nI k2) (nI j) (nI c) 1 M) = some (nI c, ow_c2 M (50 * k2 + j) (50 * k2 + j + c) (50 * k1 + i) (50 * k2 + j)) := by
  unfold jX8_copy_161
  by_cases h : j ≤ i
  · rw [if_pos ((nI_leI (by omega) (by omega)).mpr h)]
    have := cp_fw (k1 := k1) (k2 := k2) (i := i) (j := j) (c := c) (by omega) (by omega) (fun _ M35 => some (nI c, M35)) M (fun q t h1 h2 => by omega) ow_N 0 (by omega) (by unfold ow_N; omega)
    rw [Nat.add_zero, c2_nil] at this
    exact this
  · rw [if_neg (fun z => h ((nI_leI (by omega) (by omega)).mp z))]
    have := cp_bw (k1 := k1) (k2 := k2) (i := i) (j := j) (c := c) (by omega) (by omega) (fun _ M35 => some (nI c, M35)) M (fun q t h1 h2 => by omega) ow_N 0 (by omega) (by unfold ow_N; omega)
    rw [Nat.add_zero, c2_nil] at this
    exact this
theorem cp_c {M : ow_M} {o1 o2 a : Nat} {sp dp n : Int32} (h : a ≠ o2) : (ow_cp M o1 sp o2 dp n).1 a = M.1 a := by
  funext b
  show (if a = o2 then _ else M.1 a b) = M.1 a b
  rw [if_neg h]
theorem cp_in {M : ow_M} {o1 o2 i j c b : Nat} (hi : i < 2 ^ 31) (hj : j < 2 ^ 31) (hc : c < 2 ^ 31) : (ow_cp M o1 (nI i) o2 (nI j) (nI c)).1 o2 b = if j ≤ b ∧ b < j + c then M.1 o1 (i + (b - j)) else M.1 o2 b := by
  show (if o2 = o2 then va_cpy (M.1 o1) (M.1 o2) (nI i).toNatClampNeg (nI j).toNatClampNeg (nI c).toNatClampNeg b else _) = _
  rw [if_pos rfl, nI_clamp hi, nI_clamp hj, nI_clamp hc]
  rfl
theorem cp_I {M : ow_M} (hI : ow_I M) {k1 k2 i j c : Nat} (hk1 : k1 < 4) (hk2 : k2 < 4) (hs : i + c ≤ 50) (hd : j + c ≤ 50) : ow_I (ow_c2 (ow_up (ow_cp (ow_up M 0 8 0) (26 + 2 * k1 + 1) (nI i) (26 + 2 * k2 + 1) (nI j) (nI c)) 34 0 0) (50 * k2 + j) (50 * k2 + j + c) (50 * k1 + i) (50 * k2 + j)) := by
  obtain ⟨n, lp, g, rc, hA, hB, hR, hS, hT, hF⟩ := id hI
  have e1 : 26 + 2 * k1 + 1 = 27 + 2 * k1 := by omega
  have e2 : 26 + 2 * k2 + 1 = 27 + 2 * k2 := by omega
  rw [e1, e2]
  refine ow_I_sh hI (fun b hb => ?_) (fun j hj => ?_) ?_ ?_ ?_
  · rw [c2_c (key2_ne hb (by decide)), ow_up_c (key2_ne hb (by decide)), cp_c (key2_s hb hk2).2, ow_up_c (key2_ne hb (by decide))]
  · rw [c2_c (by decide), j34 (Or.inl rfl) j hj, cp_c (by omega), ow_up_c (by decide)]
  · refine iS_one hS (k := k2) (fun q hq hqk => ⟨?_, ?_, ?_, ?_, fun x hx => ?_⟩) (fun _ => ?_)
    · rw [c2_c (by omega), ow_up_c (by omega), cp_c (by omega), ow_up_c (by omega)]
    · rw [c2_c (by omega), ow_up_c (by omega), cp_c (by omega), ow_up_c (by omega)]
    · rw [c2_c (by omega), ow_up_c (by omega), cp_c (by omega), ow_up_c (by omega)]
    · rw [c2_c (by omega), ow_up_c (by omega), cp_c (by omega), ow_up_c (by omega)]
    · rw [c2_out (by omega), ow_up_c (by omega), cp_c (by omega), ow_up_c (by omega)]
    · obtain ⟨hl, ht, hce⟩ := hS k2 hk2
      have z26 : (ow_c2 (ow_up (ow_cp (ow_up M 0 8 0) (27 + 2 * k1) (nI i) (27 + 2 * k2) (nI j) (nI c)) 34 0 0) (50 * k2 + j) (50 * k2 + j + c) (50 * k1 + i) (50 * k2 + j)).1 (26 + 2 * k2) = M.1 (26 + 2 * k2) := by rw [c2_c (by omega), ow_up_c (by omega), cp_c (by omega), ow_up_c (by omega)]
      have z35 : (ow_c2 (ow_up (ow_cp (ow_up M 0 8 0) (27 + 2 * k1) (nI i) (27 + 2 * k2) (nI j) (nI c)) 34 0 0) (50 * k2 + j) (50 * k2 + j + c) (50 * k1 + i) (50 * k2 + j)).1 35 = M.1 35 := by rw [c2_c (by omega), ow_up_c (by omega), cp_c (by omega), ow_up_c (by omega)]
      have z36 : (ow_c2 (ow_up (ow_cp (ow_up M 0 8 0) (27 + 2 * k1) (nI i) (27 + 2 * k2) (nI j) (nI c)) 34 0 0) (50 * k2 + j) (50 * k2 + j + c) (50 * k1 + i) (50 * k2 + j)).1 36 = M.1 36 := by rw [c2_c (by omega), ow_up_c (by omega), cp_c (by omega), ow_up_c (by omega)]
      rw [z26, z35, z36]
      refine ⟨hl, ht, fun x hx => ?_⟩
      rw [c2_c (a := 27 + 2 * k2) (by omega), ow_up_c (a := 27 + 2 * k2) (by omega), cp_in (by omega) (by omega) (by omega)]
      by_cases h : j ≤ x ∧ x < j + c
      · rw [if_pos h, c2_in (by omega), ow_up_c (by omega), cp_c (by omega), ow_up_c (by omega), ow_up_c (by omega), show 50 * k1 + i + (50 * k2 + x - (50 * k2 + j)) = 50 * k1 + (i + (x - j)) by omega]
        exact (hS k1 hk1).2.2 _ (by omega)
      · rw [if_neg h, c2_out (by omega), ow_up_c (by omega), cp_c (by omega), ow_up_c (by omega), ow_up_c (by omega)]
        exact hce x hx
  · rw [c2_c (by decide), ow_up_f (Or.inr (by decide)), cp_c (by omega), ow_up_c (by decide), c2_c (by decide), ow_up_c (by decide), cp_c (by omega), ow_up_f (Or.inr (by decide))]
    exact hT
  · rw [c2_c (by decide), ow_up_s, c2_c (by decide), ow_up_c (by decide), cp_c (by omega), ow_up_s]
theorem sp_copy {M : ow_M} (hI : ow_I M) (a1 a2 a3 a4 a5 : Int32) : ∃ r M1 M2, fX7_copy a1 a2 a3 a4 a5 M = some (r, M1) ∧ fX8_copy a1 a2 a3 a4 a5 M1 = some (r, M2) ∧ ow_I M2 := by
  obtain ⟨n, lp, g, rc, hA, hB, hR, hS, hT, hF⟩ := id hI
  unfold fX7_copy
  rcases g_S a1 with ⟨k1, hk1, rfl, e1, e2⟩ | ⟨e1, e2⟩
  · rcases g_S a3 with ⟨k2, hk2, rfl, f1, f2⟩ | ⟨f1, f2⟩
    · have hi1 : ow_inn (nI k1) 4 := (inn_nI (by omega)).mpr hk1
      have hc1 : (nI k1).toNatClampNeg = k1 := nI_clamp (by omega)
      have hi2 : ow_inn (nI k2) 4 := (inn_nI (by omega)).mpr hk2
      have hc2 : (nI k2).toNatClampNeg = k2 := nI_clamp (by omega)
      obtain ⟨⟨l1, g1, gl1, gm1⟩, t1, -⟩ := hS k1 hk1
      obtain ⟨⟨l2, g2, gl2, gm2⟩, t2, -⟩ := hS k2 hk2
      have z1 : (ow_up M 0 8 0).1 (26 + 2 * k1) = M.1 (26 + 2 * k1) := ow_up_c (by omega)
      have z2 : (ow_up M 0 8 0).1 (26 + 2 * k2) = M.1 (26 + 2 * k2) := ow_up_c (by omega)
      simp only [e1, f1, ow_obs, ow_10, reduceIte, if_pos hi1, if_pos hi2, hc1, hc2]
      rw [z1, z2]
      rcases t1 with ⟨t1, s1⟩ | ⟨t1, la, hla, u1, s1⟩
      · rw [if_pos t1]
        refine ⟨_, _, _, rfl, ?_, ow_I_ff2 hI 1 0⟩
        unfold fX8_copy
        have q1 : (ow_up (ow_up (ow_up M 0 8 0) 0 8 1) 34 0 0).1 35 k1 = -9 := s1
        simp only [e2, f2, ow_obs, ow_10, reduceIte, if_pos hi1, hc1, if_pos q1]
        rfl
      · rw [if_neg (by rw [t1]; decide)]
        have q9 : ¬ nI la = -9 := fun h => (nI_m9 (by omega)).mp h
        rcases t2 with ⟨t2, s2⟩ | ⟨t2, lb, hlb, u2, s2⟩
        · rw [if_pos t2]
          refine ⟨_, _, _, rfl, ?_, ow_I_ff2 hI 1 0⟩
          unfold fX8_copy
          have q1 : ¬ (ow_up (ow_up (ow_up M 0 8 0) 0 8 1) 34 0 0).1 35 k1 = -9 := fun h => q9 (s1.symm.trans h)
          have q2 : (ow_up (ow_up (ow_up M 0 8 0) 0 8 1) 34 0 0).1 35 k2 = -9 := s2
          simp only [e2, f2, ow_obs, ow_10, reduceIte, if_pos hi1, if_pos hi2, hc1, hc2, if_neg q1, if_pos q2]
          rfl
        · rw [if_neg (by rw [t2]; decide), u1, u2]
          have q8 : ¬ nI lb = -9 := fun h => (nI_m9 (by omega)).mp h
          by_cases q : nI la = nI lb
          · rw [if_pos q]
            have bad : ∀ N : ow_M, N = ow_up (ow_up M 0 8 0) 0 8 3 → (a5 < 0 ∨ a2 < 0 ∨ a4 < 0 ∨ ∃ x y c, x < 2 ^ 31 ∧ y < 2 ^ 31 ∧ c < 2 ^ 31 ∧ a2 = nI x ∧ a4 = nI y ∧ a5 = nI c ∧ (l1 < x + c ∨ l2 < y + c)) → fX8_copy (nI k1) a2 (nI k2) a4 a5 N = some (-10 - 3, ow_up (ow_up N 34 0 0) 34 0 3) := by
              rintro N rfl hb
              unfold fX8_copy jX8_copy_109 jX8_copy_110
              have q1 : ¬ (ow_up (ow_up (ow_up M 0 8 0) 0 8 3) 34 0 0).1 35 k1 = -9 := fun h => q9 (s1.symm.trans h)
              have q2 : ¬ (ow_up (ow_up (ow_up M 0 8 0) 0 8 3) 34 0 0).1 35 k2 = -9 := fun h => q8 (s2.symm.trans h)
              have q3 : (ow_up (ow_up (ow_up M 0 8 0) 0 8 3) 34 0 0).1 35 k1 = (ow_up (ow_up (ow_up M 0 8 0) 0 8 3) 34 0 0).1 35 k2 := s1.trans (q.trans s2.symm)
              have y1 : (ow_up (ow_up (ow_up M 0 8 0) 0 8 3) 34 0 0).1 36 k1 = nI l1 := gm1
              have y2 : (ow_up (ow_up (ow_up M 0 8 0) 0 8 3) 34 0 0).1 36 k2 = nI l2 := gm2
              simp only [e2, f2, ow_obs, ow_10, reduceIte, if_pos hi1, if_pos hi2, hc1, hc2, if_neg q1, if_neg q2, if_pos q3, y1, y2]
              by_cases c2 : a2 < 0
              · rw [if_pos c2]; rfl
              rw [if_neg c2]
              by_cases c4 : a4 < 0
              · rw [if_pos c4]; rfl
              rw [if_neg c4]
              by_cases c5 : a5 < 0
              · rw [if_pos c5]; rfl
              rw [if_neg c5]
              rcases hb with hb | hb | hb | ⟨x, y, c, hx, hy, hcc, rfl, rfl, rfl, hb⟩
              · exact absurd hb c5
              · exact absurd hb c2
              · exact absurd hb c4
              · by_cases d1 : nI l1 < nI x
                · rw [if_pos d1]; rfl
                rw [if_neg d1]
                by_cases d2 : nI l2 < nI y
                · rw [if_pos d2]; rfl
                rw [if_neg d2]
                have d3 : (nI l1 - nI x < nI c) ↔ l1 < x + c := by
                  rw [Int32.lt_iff_toInt_lt, sub_toInt (by omega) hx, nI_toInt hcc]; omega
                have d4 : (nI c ≤ nI l2 - nI y) ↔ y + c ≤ l2 := by
                  rw [Int32.le_iff_toInt_le, sub_toInt (by omega) hy, nI_toInt hcc]; omega
                by_cases d5 : l1 < x + c
                · rw [if_pos (d3.mpr d5)]; rfl
                · rw [if_neg (fun z => d5 (d3.mp z)), if_neg (fun z => by have := d4.mp z; omega)]; rfl
            rcases hasC (M := ow_up M 0 8 0) (o := 26 + 2 * k1) (by rw [z1]; exact gl1) g1 a2 a5 with ⟨x, c, rfl, rfl, hxc, h1⟩ | ⟨h1, hx⟩
            · simp only [h1, ow_obs, ow_10, reduceIte]
              rcases hasC (M := ow_up M 0 8 0) (o := 26 + 2 * k2) (by rw [z2]; exact gl2) g2 a4 (nI c) with ⟨y, c', rfl, hcc, hyc, h2⟩ | ⟨h2, hy⟩
              · have hcc' : c' = c := ((nI_eq (by omega) (by omega)).mp hcc).symm
                subst hcc'
                simp only [h2, ow_obs, ow_10, reduceIte]
                rw [if_pos ⟨nI_pos (by omega), nI_pos (by omega), nI_pos (by omega), by rw [nI_clamp (by omega), nI_clamp (by omega)]; omega, by rw [nI_clamp (by omega), nI_clamp (by omega)]; omega⟩]
                refine ⟨_, _, _, rfl, ?_, cp_I (i := x) (j := y) (c := c') hI hk1 hk2 (by omega) (by omega)⟩
                unfold fX8_copy jX8_copy_110
                have w35 : (ow_up (ow_cp (ow_up M 0 8 0) (26 + 2 * k1 + 1) (nI x) (26 + 2 * k2 + 1) (nI y) (nI c')) 34 0 0).1 35 = M.1 35 := by rw [ow_up_c (by omega), cp_c (by omega), ow_up_c (by omega)]
                have w36 : (ow_up (ow_cp (ow_up M 0 8 0) (26 + 2 * k1 + 1) (nI x) (26 + 2 * k2 + 1) (nI y) (nI c')) 34 0 0).1 36 = M.1 36 := by rw [ow_up_c (by omega), cp_c (by omega), ow_up_c (by omega)]
                have q1 : ¬ M.1 35 k1 = -9 := fun h => q9 (s1.symm.trans h)
                have q2 : ¬ M.1 35 k2 = -9 := fun h => q8 (s2.symm.trans h)
                have q3 : M.1 35 k1 = M.1 35 k2 := s1.trans (q.trans s2.symm)
                have p1 : ¬ nI x < 0 := nI_pos (by omega)
                have p2 : ¬ nI y < 0 := nI_pos (by omega)
                have p3 : ¬ nI c' < 0 := nI_pos (by omega)
                have p4 : ¬ nI l1 < nI x := by rw [nI_ltI (by omega) (by omega)]; omega
                have p5 : ¬ nI l2 < nI y := by rw [nI_ltI (by omega) (by omega)]; omega
                have p6 : ¬ nI l1 - nI x < nI c' := by rw [Int32.lt_iff_toInt_lt, sub_toInt (by omega) (by omega), nI_toInt (by omega)]; omega
                have p7 : nI c' ≤ nI l2 - nI y := by rw [Int32.le_iff_toInt_le, sub_toInt (by omega) (by omega), nI_toInt (by omega)]; omega
                simp only [e2, f2, ow_obs, ow_10, reduceIte, if_pos hi1, if_pos hi2, hc1, hc2, w35, w36, if_neg q1, if_neg q2, if_pos q3, gm1, gm2, if_neg p1, if_neg p2, if_neg p3, if_neg p4, if_neg p5, if_neg p6, if_pos p7]
                exact cp_all (i := x) (j := y) (c := c') hk1 hk2 (by omega) (by omega) _
              · simp only [h2, ow_obs, reduceIte]
                refine ⟨_, _, _, rfl, bad _ rfl ?_, ow_I_ff2 hI 3 0⟩
                rcases hy with hy | hy | ⟨y, c', hy31, hc31, rfl, hcc, hyc⟩
                · exact Or.inl hy
                · exact Or.inr (Or.inr (Or.inl hy))
                · have hcc' : c' = c := ((nI_eq (by omega) (by omega)).mp hcc).symm
                  subst hcc'
                  exact Or.inr (Or.inr (Or.inr ⟨x, y, c', by omega, hy31, hc31, rfl, rfl, rfl, Or.inr hyc⟩))
            · simp only [h1, ow_obs, reduceIte]
              refine ⟨_, _, _, rfl, bad _ rfl ?_, ow_I_ff2 hI 3 0⟩
              rcases hx with hx | hx | ⟨x, c, hx31, hc31, rfl, rfl, hxc⟩
              · exact Or.inl hx
              · exact Or.inr (Or.inl hx)
              · by_cases c4 : a4 < 0
                · exact Or.inr (Or.inr (Or.inl c4))
                · obtain ⟨y, hy31, rfl⟩ := nI_of c4
                  exact Or.inr (Or.inr (Or.inr ⟨x, y, c, hx31, hy31, hc31, rfl, rfl, rfl, Or.inl hxc⟩))
          · rw [if_neg q]
            refine ⟨_, _, _, rfl, ?_, ow_I_ff2 hI 2 0⟩
            unfold fX8_copy
            have q1 : ¬ (ow_up (ow_up (ow_up M 0 8 0) 0 8 2) 34 0 0).1 35 k1 = -9 := fun h => q9 (s1.symm.trans h)
            have q2 : ¬ (ow_up (ow_up (ow_up M 0 8 0) 0 8 2) 34 0 0).1 35 k2 = -9 := fun h => q8 (s2.symm.trans h)
            have q3 : ¬ (ow_up (ow_up (ow_up M 0 8 0) 0 8 2) 34 0 0).1 35 k1 = (ow_up (ow_up (ow_up M 0 8 0) 0 8 2) 34 0 0).1 35 k2 := fun h => q (s1.symm.trans (h.trans s2))
            simp only [e2, f2, ow_obs, ow_10, reduceIte, if_pos hi1, if_pos hi2, hc1, hc2, if_neg q1, if_neg q2, if_neg q3]
            rfl
    · simp only [e1, f1, ow_obs, ow_10, reduceIte]
      refine ⟨_, _, _, rfl, ?_, ow_I_ff hI 0⟩
      unfold fX8_copy
      simp only [e2, f2, ow_obs, ow_10, reduceIte]
  · rw [e1]
    refine ⟨_, _, _, rfl, ?_, ow_I_ff hI 0⟩
    unfold fX8_copy
    rw [e2]
    rfl
