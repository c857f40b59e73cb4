/-! NEWS -/
def ow_xx (c d : Nat) (M N : ow_M) : Prop := ∀ a, a ≠ c → a ≠ d → N.1 a = M.1 a
theorem xx_rf {c d : Nat} {M : ow_M} : ow_xx c d M M := fun _ _ _ => rfl
theorem xx_tr {c d : Nat} {M N K : ow_M} (h : ow_xx c d M N) (h2 : ow_xx c d N K) : ow_xx c d M K := fun a h3 h4 => (h2 a h3 h4).trans (h a h3 h4)
theorem xx_u1 {c d j : Nat} {v : Int32} {M : ow_M} : ow_xx c d M (ow_up M c j v) := fun _ h _ => ow_up_c h
theorem xx_u2 {c d j : Nat} {v : Int32} {M : ow_M} : ow_xx c d M (ow_up M d j v) := fun _ _ h => ow_up_c h
def alt (kd st v : Int32) : Int32 := if kd = 0 then v else if kd = 1 then (v + st) - (v + st) / 100 * 100 else (2 * ((v + st) - (v + st) / 100 * 100)) - (2 * ((v + st) - (v + st) / 100 * 100)) / 100 * 100
/-- who is beside whom -/
def bes (n ed g p q : Nat) : Bool := (decide (p < ed) && (ore n p == q) && !g.testBit p) || (decide (q < ed) && (ore n q == p) && !g.testBit q)
def FC (C : ow_M) (n : Nat) (lp : Bool) (g : Nat) : Prop := 2 ≤ n ∧ n ≤ 7 ∧ g < 128 ∧ C.1 2 0 = nI n ∧ C.1 2 1 = nI (oed n lp) ∧ (∀ i, i < 7 → C.1 7 i = bI (g.testBit i)) ∧ ∀ i, i < n → ∃ v, v < 3 ∧ C.1 3 i = nI v
def FD (D : ow_M) (n : Nat) (lp : Bool) (g : Nat) : Prop := D.1 34 5 = nI n ∧ D.1 34 6 = bI lp ∧ D.1 34 7 = nI g
def KS (C D : ow_M) (n : Nat) : Prop := ∀ i, i < n → D.1 38 i = C.1 3 i ∧ D.1 39 i = C.1 4 i
theorem FC_xx {C C2 : ow_M} {n : Nat} {lp : Bool} {g : Nat} (h : FC C n lp g) (x : ow_xx 9 10 C C2) : FC C2 n lp g := by
  unfold FC at *
  rw [x 2 (by decide) (by decide), x 7 (by decide) (by decide), x 3 (by decide) (by decide)]
  exact h
theorem FD_xx {D D2 : ow_M} {n : Nat} {lp : Bool} {g : Nat} (h : FD D n lp g) (x : ow_xx 46 47 D D2) : FD D2 n lp g := by
  unfold FD at *
  rw [x 34 (by decide) (by decide)]
  exact h
theorem KS_xx {C C2 D D2 : ow_M} {n : Nat} (h : KS C D n) (x : ow_xx 9 10 C C2) (y : ow_xx 46 47 D D2) : KS C2 D2 n := by
  unfold KS at *
  rw [x 3 (by decide) (by decide), x 4 (by decide) (by decide), y 38 (by decide) (by decide), y 39 (by decide) (by decide)]
  exact h
theorem e_alt8 {D : ow_M} {p : Nat} (hp : p < 7) (v : Int32) : fX8_altered (nI p) v D = some (alt (D.1 38 p) (D.1 39 p) v) := by
  have hi : ow_inn (nI p) 7 := (inn_nI (by omega)).mpr hp
  have hc : (nI p).toNatClampNeg = p := nI_clamp (by omega)
  unfold fX8_altered alt
  simp only [if_pos hi, hc]
  by_cases h : D.1 38 p = 0
  · simp only [if_pos h]
  · simp only [if_neg h]
    by_cases h1 : D.1 38 p = 1
    · simp only [if_pos h1]
    · simp only [if_neg h1]
theorem e_alt0 {C : ow_M} {n p : Nat} (hn : C.1 2 0 = nI n) (h7 : n ≤ 7) (hp : p < n) (hk : ∃ v, v < 3 ∧ C.1 3 p = nI v) (v : Int32) : fX0_altered (nI p) v C = some (alt (C.1 3 p) (C.1 4 p) v) := by
  have hi : ow_inn (nI p) 7 := (inn_nI (by omega)).mpr (by omega)
  have hc : (nI p).toNatClampNeg = p := nI_clamp (by omega)
  obtain ⟨u, hu, hk⟩ := hk
  unfold fX0_altered alt
  simp only [P_is hn h7 hp, ow_obs, ow_10, reduceIte, if_pos hi, hc, hk]
  rcases (show u = 0 ∨ u = 1 ∨ u = 2 by omega) with rfl | rfl | rfl
  · have : nI 0 = 0 := rfl
    simp only [if_pos this]
  · have h0 : ¬ nI 1 = 0 := by decide
    have h1 : nI 1 = 1 := rfl
    have h2 : ¬ nI 1 = 2 := by decide
    simp only [if_neg h0, if_pos h1, if_neg h2]
  · have h0 : ¬ nI 2 = 0 := by decide
    have h1 : ¬ nI 2 = 1 := by decide
    have h2 : nI 2 = 2 := rfl
    simp only [if_neg h0, if_neg h1, if_pos h2]
theorem e_open0 {C : ow_M} {n e : Nat} {lp : Bool} {g : Nat} (h : FC C n lp g) (he : e < 7) : fX0_isOpen (nI e) C = some (bI (decide (e < oed n lp) && !g.testBit e)) := by
  obtain ⟨h2, h7, hg, hn, hed, hw, -⟩ := h
  have ho := oed_le (lp := lp) h7
  have hi : ow_inn (nI e) 7 := (inn_nI (by omega)).mpr he
  have hc : (nI e).toNatClampNeg = e := nI_clamp (by omega)
  unfold fX0_isOpen fX0_isEdge
  rw [hed, if_neg (nI_pos (by omega))]
  by_cases q : e < oed n lp
  · have z : ¬ nI (oed n lp) ≤ nI e := by rw [nI_leI (by omega) (by omega)]; omega
    simp only [if_neg z, ow_obs, ow_10, reduceIte, if_pos hi, hc, hw e he]
    rw [decide_eq_true q]
    cases g.testBit e <;> rfl
  · have z : nI (oed n lp) ≤ nI e := (nI_leI (by omega) (by omega)).mpr (by omega)
    simp only [if_pos z, ow_obs, reduceIte]
    rw [decide_eq_false q]
    rfl
theorem e_hear {C : ow_M} {q : Nat} (hq : q < 7) (w t : Int32) : fX5_hear (nI q) w t C = some (if C.1 10 q = -9 then ow_up (ow_up C 9 q w) 10 q t else C) := by
  have hi : ow_inn (nI q) 7 := (inn_nI (by omega)).mpr hq
  have hc : (nI q).toNatClampNeg = q := nI_clamp (by omega)
  have z : ¬ (7 : Int32) ≤ nI q := by rw [l_7, nI_leI (by omega) (by omega)]; omega
  unfold fX5_hear
  rw [if_neg (nI_pos (by omega)), if_neg z]
  simp only [if_pos hi, hc]
  by_cases h : C.1 10 q = -9
  · simp only [if_pos h]
  · simp only [if_neg h]
/-- hearing by one of two who may be the same -/
theorem hear2 (C : ow_M) (a b : Bool) (l r : Nat) (w t : Int32) (ht : t ≠ -9) : ∃ C2, (if a = true then (if C.1 10 l = -9 then ow_up (ow_up C 9 l w) 10 l t else C) else C) = C2 ∧ ∃ C3, (if b = true then (if C2.1 10 r = -9 then ow_up (ow_up C2 9 r w) 10 r t else C2) else C2) = C3 ∧ ow_xx 9 10 C C3 ∧ ∀ q, C3.1 10 q = (if ((a = true ∧ q = l) ∨ (b = true ∧ q = r)) ∧ C.1 10 q = -9 then t else C.1 10 q) ∧ C3.1 9 q = (if ((a = true ∧ q = l) ∨ (b = true ∧ q = r)) ∧ C.1 10 q = -9 then w else C.1 9 q) := by
  have one : ∀ (C : ow_M) (a : Bool) (l : Nat), ∃ C2, (if a = true then (if C.1 10 l = -9 then ow_up (ow_up C 9 l w) 10 l t else C) else C) = C2 ∧ ow_xx 9 10 C C2 ∧ ∀ q, C2.1 10 q = (if (a = true ∧ q = l) ∧ C.1 10 q = -9 then t else C.1 10 q) ∧ C2.1 9 q = (if (a = true ∧ q = l) ∧ C.1 10 q = -9 then w else C.1 9 q) := by
    intro C a l
    refine ⟨_, rfl, ?_, ?_⟩
    · by_cases h : a = true
      · rw [if_pos h]
        by_cases h2 : C.1 10 l = -9
        · rw [if_pos h2]; exact xx_tr xx_u1 xx_u2
        · rw [if_neg h2]; exact xx_rf
      · rw [if_neg h]; exact xx_rf
    · intro q
      by_cases h : a = true
      · rw [if_pos h]
        by_cases h2 : C.1 10 l = -9
        · rw [if_pos h2]
          by_cases h3 : q = l
          · subst h3
            rw [if_pos ⟨⟨h, rfl⟩, h2⟩, if_pos ⟨⟨h, rfl⟩, h2⟩, ow_up_s, ow_up_f (a := 9) (Or.inl (by decide)), ow_up_s]
            exact ⟨rfl, rfl⟩
          · rw [if_neg (fun z => h3 z.1.2), if_neg (fun z => h3 z.1.2), ow_up_f (Or.inr h3), ow_up_f (Or.inl (by decide)), ow_up_f (Or.inl (by decide)), ow_up_f (Or.inr h3)]
            exact ⟨rfl, rfl⟩
        · rw [if_neg h2]
          have : ¬ ((a = true ∧ q = l) ∧ C.1 10 q = -9) := by
            rintro ⟨⟨_, rfl⟩, z⟩
            exact h2 z
          rw [if_neg this, if_neg this]
          exact ⟨rfl, rfl⟩
      · rw [if_neg h, if_neg (fun z => h z.1.1), if_neg (fun z => h z.1.1)]
        exact ⟨rfl, rfl⟩
  obtain ⟨C2, e2, x2, f2⟩ := one C a l
  obtain ⟨C3, e3, x3, f3⟩ := one C2 b r
  refine ⟨C2, e2, C3, e3, xx_tr x2 x3, fun q => ?_⟩
  obtain ⟨p1, p2⟩ := f2 q
  obtain ⟨p3, p4⟩ := f3 q
  rw [p3, p4, p1, p2]
  by_cases h1 : (a = true ∧ q = l) ∧ C.1 10 q = -9
  · have a1 : ((a = true ∧ q = l) ∨ (b = true ∧ q = r)) ∧ C.1 10 q = -9 := ⟨Or.inl h1.1, h1.2⟩
    have a2 : ¬ ((b = true ∧ q = r) ∧ t = -9) := fun z => ht z.2
    refine ⟨?_, ?_⟩
    · rw [if_pos h1, if_neg a2, if_pos a1]
    · rw [if_pos h1, if_neg a2, if_pos h1, if_pos a1]
  · rw [if_neg h1, if_neg h1]
    by_cases h2 : (b = true ∧ q = r) ∧ C.1 10 q = -9
    · rw [if_pos h2, if_pos h2, if_pos ⟨Or.inr h2.1, h2.2⟩, if_pos ⟨Or.inr h2.1, h2.2⟩]
      exact ⟨rfl, rfl⟩
    · have : ¬ (((a = true ∧ q = l) ∨ (b = true ∧ q = r)) ∧ C.1 10 q = -9) := by
        rintro ⟨z | z, z2⟩
        · exact h1 ⟨z, z2⟩
        · exact h2 ⟨z, z2⟩
      rw [if_neg h2, if_neg h2, if_neg this, if_neg this]
      exact ⟨rfl, rfl⟩
theorem bes_eq {n p q : Nat} {lp : Bool} {g : Nat} (h2 : 2 ≤ n) (hp : p < n) (hq : q < n) : bes n (oed n lp) g p q = true ↔ (((decide ((if 0 < p then p - 1 else n - 1) < oed n lp) && !g.testBit (if 0 < p then p - 1 else n - 1)) = true ∧ q = (if 0 < p then p - 1 else n - 1)) ∨ ((decide (p < oed n lp) && !g.testBit p) = true ∧ q = ore n p)) := by
  have e1 : ore n q = p ↔ q = (if 0 < p then p - 1 else n - 1) := by
    unfold ore
    constructor
    · intro h
      split at h
      · split <;> omega
      · split <;> omega
    · intro h
      split at h
      · split <;> omega
      · split <;> omega
  unfold bes
  simp only [Bool.or_eq_true, Bool.and_eq_true, decide_eq_true_eq, beq_iff_eq, Bool.not_eq_true', e1]
  constructor
  · rintro (⟨⟨a, b⟩, c⟩ | ⟨⟨a, b⟩, c⟩)
    · exact Or.inr ⟨⟨a, c⟩, b.symm⟩
    · subst b; exact Or.inl ⟨⟨a, c⟩, rfl⟩
  · rintro (⟨⟨a, c⟩, b⟩ | ⟨⟨a, c⟩, b⟩)
    · subst b; exact Or.inr ⟨⟨a, rfl⟩, c⟩
    · exact Or.inl ⟨⟨a, b.symm⟩, c⟩
theorem e_pass {C : ow_M} {n : Nat} {lp : Bool} {g p : Nat} (h : FC C n lp g) (hp : p < n) (w t : Int32) (ht : t ≠ -9) : ∃ C2, fX5_passOn (nI p) w t C = some C2 ∧ ow_xx 9 10 C C2 ∧ ∀ q, q < n → C2.1 10 q = (if bes n (oed n lp) g p q = true ∧ C.1 10 q = -9 then t else C.1 10 q) ∧ C2.1 9 q = (if bes n (oed n lp) g p q = true ∧ C.1 10 q = -9 then w else C.1 9 q) := by
  obtain ⟨h2, h7, hg, hn, hed, hw, hkd⟩ := id h
  have hl : (if 0 < p then p - 1 else n - 1) < 7 := by split <;> omega
  have eL : fX0_edgeOnLeft (nI p) C = some (nI (if 0 < p then p - 1 else n - 1)) := by
    unfold fX0_edgeOnLeft
    rw [hn]
    by_cases z : 0 < p
    · rw [if_neg (nI_nle z (by omega)), if_pos z, l_1, pk_sub (by omega)]
    · have : p = 0 := by omega
      subst this
      rw [if_pos (by decide), if_neg (by decide), l_1, pk_sub (by omega)]
  have hr := ore_lt (n := n) (e := p) (by omega)
  obtain ⟨C2, e2, C3, e3, x3, f3⟩ := hear2 C (decide ((if 0 < p then p - 1 else n - 1) < oed n lp) && !g.testBit (if 0 < p then p - 1 else n - 1)) (decide (p < oed n lp) && !g.testBit p) (if 0 < p then p - 1 else n - 1) (ore n p) w t ht
  refine ⟨C3, ?_, x3, fun q hq => ?_⟩
  · have x2 : ow_xx 9 10 C C2 := by
      rw [← e2]
      by_cases h1 : (decide ((if 0 < p then p - 1 else n - 1) < oed n lp) && !g.testBit (if 0 < p then p - 1 else n - 1)) = true
      · rw [if_pos h1]
        by_cases h2 : C.1 10 (if 0 < p then p - 1 else n - 1) = -9
        · rw [if_pos h2]; exact xx_tr xx_u1 xx_u2
        · rw [if_neg h2]; exact xx_rf
      · rw [if_neg h1]; exact xx_rf
    have F2 := FC_xx h x2
    have second : jX5_passOn_25 (nI p) w t C2 = some C3 := by
      unfold jX5_passOn_25
      rw [e_open0 F2 (by omega), ow_obs, ← e3]
      by_cases h1 : (decide (p < oed n lp) && !g.testBit p) = true
      · rw [h1, if_neg (by decide), if_pos rfl, e_re F2.2.2.2.1 h7 hp, ow_obs, e_hear (by omega), ow_obs]
      · rw [Bool.not_eq_true] at h1
        rw [h1, if_pos (by rfl)]
        simp
    unfold fX5_passOn
    rw [eL, ow_obs, e_open0 h hl, ow_obs]
    by_cases h1 : (decide ((if 0 < p then p - 1 else n - 1) < oed n lp) && !g.testBit (if 0 < p then p - 1 else n - 1)) = true
    · rw [if_pos h1] at e2
      rw [h1, if_neg (by decide), e_hear hl, ow_obs, e2]
      exact second
    · rw [if_neg h1] at e2
      rw [Bool.not_eq_true] at h1
      rw [h1, if_pos (by rfl), e2]
      exact second
  · obtain ⟨p1, p2⟩ := f3 q
    rw [p1, p2]
    have hb := bes_eq (lp := lp) (g := g) h2 hp hq
    by_cases z : bes n (oed n lp) g p q = true
    · have := hb.mp z
      by_cases y : C.1 10 q = -9
      · exact ⟨by rw [if_pos ⟨this, y⟩, if_pos ⟨z, y⟩], by rw [if_pos ⟨this, y⟩, if_pos ⟨z, y⟩]⟩
      · exact ⟨by rw [if_neg (fun x => y x.2), if_neg (fun x => y x.2)], by rw [if_neg (fun x => y x.2), if_neg (fun x => y x.2)]⟩
    · exact ⟨by rw [if_neg (fun x => z (hb.mpr x.1)), if_neg (fun x => z x.1)], by rw [if_neg (fun x => z (hb.mpr x.1)), if_neg (fun x => z x.1)]⟩
