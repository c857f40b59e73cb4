def cnd (n g p q x : Nat) : Bool := ((x == p && (ore n x == q)) || (x == q && (ore n x == p))) && !g.testBit x
def anyB (n g p q : Nat) : Nat → Nat → Bool
  | 0, _ => false
  | m + 1, e => cnd n g p q e || anyB n g p q m (e + 1)
theorem anyB_iff {n g p q : Nat} : ∀ (m e : Nat), anyB n g p q m e = true ↔ ∃ x, e ≤ x ∧ x < e + m ∧ cnd n g p q x = true := by
  intro m
  induction m with
  | zero => intro e; constructor; · intro h; cases h
            · rintro ⟨x, h1, h2, _⟩; omega
  | succ m ih =>
    intro e
    unfold anyB
    rw [Bool.or_eq_true, ih]
    constructor
    · rintro (h | ⟨x, h1, h2, h3⟩)
      · exact ⟨e, by omega, by omega, h⟩
      · exact ⟨x, by omega, by omega, h3⟩
    · rintro ⟨x, h1, h2, h3⟩
      by_cases hx : x = e
      · subst hx; exact Or.inl h3
      · exact Or.inr ⟨x, by omega, by omega, h3⟩
theorem bes_any {n ed g p q : Nat} : anyB n g p q ed 0 = bes n ed g p q := by
  rw [Bool.eq_iff_iff, anyB_iff]
  unfold bes cnd
  simp only [Bool.or_eq_true, Bool.and_eq_true, decide_eq_true_eq, beq_iff_eq, Bool.not_eq_true', Nat.zero_add]
  constructor
  · rintro ⟨x, -, h2, ⟨rfl, h3⟩ | ⟨rfl, h3⟩, h4⟩
    · exact Or.inl ⟨⟨h2, h3⟩, h4⟩
    · exact Or.inr ⟨⟨h2, h3⟩, h4⟩
  · rintro (⟨⟨h1, h2⟩, h3⟩ | ⟨⟨h1, h2⟩, h3⟩)
    · exact ⟨p, Nat.zero_le _, h1, Or.inl ⟨rfl, h2⟩, h3⟩
    · exact ⟨q, Nat.zero_le _, h1, Or.inr ⟨rfl, h2⟩, h3⟩
theorem bes_lp {D : ow_M} {n : Nat} {lp : Bool} {g p q : Nat} (h2 : 2 ≤ n) (h7 : n ≤ 7) (hg : g < 128) (h : FD D n lp g) (hp : p < n) (hq : q < n) (k : Int32 → Option Int32) : ∀ (f e : Nat), e ≤ oed n lp → oed n lp - e < f → lpX8_isBeside_2 (nI p) (nI q) D k f (nI e) = if anyB n g p q (oed n lp - e) e = true then some 1 else k (nI (oed n lp)) := by
  obtain ⟨d5, d6, d7⟩ := h
  have ho := oed_le (lp := lp) h7
  have hE := e_edges d5 d6 h7 (Or.inr h2)
  intro f
  induction f with
  | zero => intro e _ h; omega
  | succ f ih =>
    intro e he hf
    unfold lpX8_isBeside_2
    rw [hE, ow_obs]
    by_cases hh : oed n lp ≤ e
    · have : e = oed n lp := by omega
      rw [if_pos ((nI_leI (by omega) (by omega)).mpr hh), this, Nat.sub_self]
      rfl
    · have hen : e < n := oed_n (lp := lp) (by omega)
      have z : ¬ nI (oed n lp) ≤ nI e := by rw [nI_leI (by omega) (by omega)]; exact hh
      have hr := ore_lt (n := n) (e := e) (by omega)
      rw [if_neg z, e_fe d5 h7 hen]
      unfold jX8_isBeside_24 jX8_isBeside_38 jX8_isBeside_42 jX8_isBeside_43
      rw [e_fe d5 h7 hen, e_open d7 (by omega) (by omega)]
      simp only [ow_obs, ow_10, reduceIte, nI_1]
      rw [ih (e + 1) (by omega) (by omega), show oed n lp - e = (oed n lp - (e + 1)) + 1 by omega]
      have eany : anyB n g p q (oed n lp - (e + 1) + 1) e = (cnd n g p q e || anyB n g p q (oed n lp - (e + 1)) (e + 1)) := rfl
      rw [eany]
      have p1 : (nI e = nI p) = (e = p) := propext (nI_eq (by omega) (by omega))
      have p2 : (nI (ore n e) = nI q) = (ore n e = q) := propext (nI_eq (by omega) (by omega))
      have p3 : (nI e = nI q) = (e = q) := propext (nI_eq (by omega) (by omega))
      have p4 : (nI (ore n e) = nI p) = (ore n e = p) := propext (nI_eq (by omega) (by omega))
      have goalR : (if (cnd n g p q e || anyB n g p q (oed n lp - (e + 1)) (e + 1)) = true then some (1 : Int32) else k (nI (oed n lp))) = (if cnd n g p q e = true then some 1 else (if anyB n g p q (oed n lp - (e + 1)) (e + 1) = true then some (1 : Int32) else k (nI (oed n lp)))) := by
        cases cnd n g p q e <;> simp
      rw [goalR]
      generalize (if anyB n g p q (oed n lp - (e + 1)) (e + 1) = true then some (1 : Int32) else k (nI (oed n lp))) = R
      have bo : (bI (!g.testBit e) = 0) = (g.testBit e = true) := by rw [bI_0]; cases g.testBit e <;> simp
      simp only [p1, p2, p3, p4, bo]
      have hc2 : cnd n g p q e = true ↔ (((e = p ∧ ore n e = q) ∨ (e = q ∧ ore n e = p)) ∧ ¬ g.testBit e = true) := by
        unfold cnd
        simp only [Bool.or_eq_true, Bool.and_eq_true, beq_iff_eq, Bool.not_eq_true', Bool.not_eq_true]
      by_cases t : g.testBit e = true
      · rw [if_neg (fun z => (hc2.mp z).2 t)]
        simp only [if_pos t, ite_self]
      · simp only [if_neg t]
        by_cases a1 : e = p ∧ ore n e = q
        · rw [if_pos a1.1, if_pos a1.2, if_pos (hc2.mpr ⟨Or.inl a1, t⟩)]
        · have X : (if e = p then if ore n e = q then some 1 else if e = q then if ore n e = p then some 1 else R else R else if e = q then if ore n e = p then some 1 else R else R) = (if e = q then if ore n e = p then some 1 else R else R) := by
            by_cases b1 : e = p
            · rw [if_pos b1, if_neg (fun z => a1 ⟨b1, z⟩)]
            · rw [if_neg b1]
          rw [X]
          by_cases a2 : e = q ∧ ore n e = p
          · rw [if_pos a2.1, if_pos a2.2, if_pos (hc2.mpr ⟨Or.inr a2, t⟩)]
          · rw [if_neg (fun z => (hc2.mp z).1.elim a1 a2)]
            by_cases b1 : e = q
            · rw [if_pos b1, if_neg (fun z => a2 ⟨b1, z⟩)]
            · rw [if_neg b1]
theorem e_bes {D : ow_M} {n : Nat} {lp : Bool} {g p q : Nat} (h2 : 2 ≤ n) (h7 : n ≤ 7) (hg : g < 128) (h : FD D n lp g) (hp : p < n) (hq : q < n) : fX8_isBeside (nI p) (nI q) D = some (bI (bes n (oed n lp) g p q)) := by
  have ho := oed_le (lp := lp) h7
  unfold fX8_isBeside
  have := bes_lp h2 h7 hg h hp hq (fun _ => some 0) ow_N 0 (Nat.zero_le _) (by unfold ow_N; omega)
  rw [nI_0, Nat.sub_zero, bes_any] at this
  rw [this]
  cases bes n (oed n lp) g p q <;> rfl
/-- what one passes on, on the reference's side -/
def wpa (D : ow_M) (fr p : Nat) : Int32 := if p = fr then D.1 46 p else alt (D.1 38 p) (D.1 39 p) (D.1 46 p)
theorem e_pas8 {D : ow_M} {fr p q : Nat} (hp : p < 7) (hq : q < 7) (hf : fr < 7) (hpq : p ≠ q) (t : Int32) : fX8_pass (nI p) (nI q) t (nI fr) D = some (if D.1 47 p = t - 1 ∧ D.1 47 q = -9 then ow_up (ow_up D 47 q t) 46 q (wpa D fr p) else D) := by
  have i1 : ow_inn (nI p) 7 := (inn_nI (by omega)).mpr hp
  have c1 : (nI p).toNatClampNeg = p := nI_clamp (by omega)
  have i2 : ow_inn (nI q) 7 := (inn_nI (by omega)).mpr hq
  have c2 : (nI q).toNatClampNeg = q := nI_clamp (by omega)
  unfold fX8_pass wpa
  simp only [if_pos i1, if_pos i2, c1, c2]
  by_cases h1 : D.1 47 p = t - 1
  · simp only [if_pos h1]
    by_cases h2 : D.1 47 q = -9
    · simp only [if_pos h2, if_pos (And.intro h1 h2)]
      have e46 : (ow_up D 47 q t).1 46 p = D.1 46 p := ow_up_f (Or.inl (by decide))
      have p1 : (nI p = nI fr) = (p = fr) := propext (nI_eq (by omega) (by omega))
      simp only [p1, e_alt8 hp, ow_obs, e46]
      have e38 : (ow_up D 47 q t).1 38 p = D.1 38 p := ow_up_f (Or.inl (by decide))
      have e39 : (ow_up D 47 q t).1 39 p = D.1 39 p := ow_up_f (Or.inl (by decide))
      rw [e38, e39]
      by_cases h3 : p = fr
      · rw [if_pos h3, if_pos h3]
      · rw [if_neg h3, if_neg h3]
    · simp only [if_neg h2, if_neg (fun z : D.1 47 p = t - 1 ∧ D.1 47 q = -9 => h2 z.2)]
  · simp only [if_neg h1, if_neg (fun z : D.1 47 p = t - 1 ∧ D.1 47 q = -9 => h1 z.1)]
theorem bes_self {n ed g p : Nat} (h2 : 2 ≤ n) (hp : p < n) : bes n ed g p p = false := by
  have : ¬ ore n p = p := by unfold ore; split <;> omega
  unfold bes
  simp [this]
theorem m_in {n : Nat} {lp : Bool} {g fr p : Nat} (h2 : 2 ≤ n) (h7 : n ≤ 7) (hg : g < 128) (hp : p < n) (hfr : fr < n) (t : Int32) : ∀ (f q : Nat) (D : ow_M), FD D n lp g → q ≤ n → n - q < f →
    ∃ D2, (∀ K, lpX8_spread_63 (nI fr) t (nI p) K f (nI q) D = K (nI n) D2) ∧ ow_xx 46 47 D D2 ∧ ∀ r, r < n → D2.1 47 r = (if q ≤ r ∧ D.1 47 p = t - 1 ∧ bes n (oed n lp) g p r = true ∧ D.1 47 r = -9 then t else D.1 47 r) ∧ D2.1 46 r = (if q ≤ r ∧ D.1 47 p = t - 1 ∧ bes n (oed n lp) g p r = true ∧ D.1 47 r = -9 then wpa D fr p else D.1 46 r) := by
  intro f
  induction f with
  | zero => intro q D _ _ h; omega
  | succ f ih =>
    intro q D hF hq hf
    unfold lpX8_spread_63
    obtain ⟨d5, d6, d7⟩ := id hF
    by_cases hh : n ≤ q
    · have : q = n := by omega
      subst this
      have z : D.1 34 5 ≤ nI q := by rw [d5]; exact (nI_leI (by omega) (by omega)).mpr hh
      simp only [if_pos z]
      refine ⟨D, fun _ => rfl, xx_rf, fun r hr => ?_⟩
      rw [if_neg (by omega), if_neg (by omega)]
      exact ⟨rfl, rfl⟩
    · have z : ¬ D.1 34 5 ≤ nI q := by rw [d5, nI_leI (by omega) (by omega)]; exact hh
      simp only [if_neg z, e_bes h2 h7 hg hF hp (show q < n by omega), ow_obs, nI_1]
      by_cases hb : bes n (oed n lp) g p q = true
      · have hpq : p ≠ q := by
          rintro rfl
          rw [bes_self h2 hp] at hb
          cases hb
        have nb : ¬ bI (bes n (oed n lp) g p q) = 0 := by rw [hb]; decide
        simp only [if_neg nb, e_pas8 (show p < 7 by omega) (show q < 7 by omega) (show fr < 7 by omega) hpq t, ow_obs]
        by_cases hc : D.1 47 p = t - 1 ∧ D.1 47 q = -9
        · simp only [if_pos hc]
          have hxx : ow_xx 46 47 D (ow_up (ow_up D 47 q t) 46 q (wpa D fr p)) := xx_tr xx_u2 xx_u1
          obtain ⟨D2, k1, k2, k3⟩ := ih (q + 1) _ (FD_xx hF hxx) (by omega) (by omega)
          refine ⟨D2, k1, xx_tr hxx k2, fun r hr => ?_⟩
          obtain ⟨m1, m2⟩ := k3 r hr
          have w47 : ∀ x, (ow_up (ow_up D 47 q t) 46 q (wpa D fr p)).1 47 x = if x = q then t else D.1 47 x := by
            intro x
            rw [ow_up_f (a := 47) (Or.inl (by decide)), ow_up_1]
            simp only [true_and]
          have w46 : ∀ x, (ow_up (ow_up D 47 q t) 46 q (wpa D fr p)).1 46 x = if x = q then wpa D fr p else D.1 46 x := by
            intro x
            rw [ow_up_1, ow_up_f (a := 46) (Or.inl (by decide))]
            simp only [true_and]
          have wp : wpa (ow_up (ow_up D 47 q t) 46 q (wpa D fr p)) fr p = wpa D fr p := by
            unfold wpa
            rw [ow_up_f (a := 46) (Or.inr hpq), ow_up_f (a := 46) (Or.inl (by decide)), ow_up_f (a := 38) (Or.inl (by decide)), ow_up_f (a := 38) (Or.inl (by decide)), ow_up_f (a := 39) (Or.inl (by decide)), ow_up_f (a := 39) (Or.inl (by decide))]
          rw [m1, m2, wp, w47, w47, w46, if_neg hpq]
          by_cases hrq : r = q
          · subst hrq
            have c1 : ¬ (r + 1 ≤ r ∧ D.1 47 p = t - 1 ∧ bes n (oed n lp) g p r = true ∧ (if r = r then t else D.1 47 r) = -9) := by omega
            have c2 : r ≤ r ∧ D.1 47 p = t - 1 ∧ bes n (oed n lp) g p r = true ∧ D.1 47 r = -9 := ⟨Nat.le_refl _, hc.1, hb, hc.2⟩
            exact ⟨by rw [if_neg c1, if_pos c2, if_pos rfl], by rw [if_neg c1, if_pos c2, if_pos rfl]⟩
          · rw [if_neg hrq, if_neg hrq]
            have e : (q + 1 ≤ r) = (q ≤ r) := propext (by omega)
            exact ⟨by simp only [e], by simp only [e]⟩
        · simp only [if_neg hc]
          obtain ⟨D2, k1, k2, k3⟩ := ih (q + 1) D hF (by omega) (by omega)
          refine ⟨D2, k1, k2, fun r hr => ?_⟩
          obtain ⟨m1, m2⟩ := k3 r hr
          rw [m1, m2]
          by_cases hrq : r = q
          · subst hrq
            have c1 : ¬ (r + 1 ≤ r ∧ D.1 47 p = t - 1 ∧ bes n (oed n lp) g p r = true ∧ D.1 47 r = -9) := by omega
            have c2 : ¬ (r ≤ r ∧ D.1 47 p = t - 1 ∧ bes n (oed n lp) g p r = true ∧ D.1 47 r = -9) := fun z => hc ⟨z.2.1, z.2.2.2⟩
            exact ⟨by rw [if_neg c1, if_neg c2], by rw [if_neg c1, if_neg c2]⟩
          · have e : (q + 1 ≤ r) = (q ≤ r) := propext (by omega)
            exact ⟨by simp only [e], by simp only [e]⟩
      · have nb : bI (bes n (oed n lp) g p q) = 0 := by rw [Bool.not_eq_true] at hb; rw [hb]; rfl
        simp only [if_pos nb]
        obtain ⟨D2, k1, k2, k3⟩ := ih (q + 1) D hF (by omega) (by omega)
        refine ⟨D2, k1, k2, fun r hr => ?_⟩
        obtain ⟨m1, m2⟩ := k3 r hr
        rw [m1, m2]
        by_cases hrq : r = q
        · subst hrq
          have c1 : ¬ (r + 1 ≤ r ∧ D.1 47 p = t - 1 ∧ bes n (oed n lp) g p r = true ∧ D.1 47 r = -9) := by omega
          have c2 : ¬ (r ≤ r ∧ D.1 47 p = t - 1 ∧ bes n (oed n lp) g p r = true ∧ D.1 47 r = -9) := fun z => hb z.2.2.1
          exact ⟨by rw [if_neg c1, if_neg c2], by rw [if_neg c1, if_neg c2]⟩
        · have e : (q + 1 ≤ r) = (q ≤ r) := propext (by omega)
          exact ⟨by simp only [e], by simp only [e]⟩
