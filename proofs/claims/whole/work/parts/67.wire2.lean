def rowsP (T : Nat → Int32) (D : ow_M) (a b c d q : Nat) : Prop := ∀ i, i < q → D.1 a i = kdf (T (2 + 1 + 5 * i)) ∧ D.1 b i = T (2 + 2 + 5 * i) - 48 ∧ D.1 c i = T (2 + 3 + 5 * i) - 48 ∧ D.1 d i = T (2 + 4 + 5 * i) - 48
def fV (D E : ow_M) : Prop := (∀ a, a ∉ [34, 42, 43, 44, 45] → E.1 a = D.1 a) ∧ ∀ j, j ≠ 12 → j ≠ 13 → E.1 34 j = D.1 34 j
theorem fV_rf {D : ow_M} : fV D D := ⟨fun _ _ => rfl, fun _ _ _ => rfl⟩
theorem fV_tr {D E F : ow_M} (h : fV D E) (h2 : fV E F) : fV D F := ⟨fun a ha => (h2.1 a ha).trans (h.1 a ha), fun j p q => (h2.2 j p q).trans (h.2 j p q)⟩
theorem fV_W {p : Nat} {D E : ow_M} (h : fW p D E) : fV D E := ⟨h.1, fun j hj _ => h.2.1 j hj⟩
theorem fV_12 {D : ow_M} {v : Int32} : fV D (ow_up D 34 12 v) := ⟨fun a ha => ow_up_c (fun w => ha (by rw [w]; decide)), fun j hj _ => ow_up_f (Or.inr hj)⟩
theorem fV_13 {D : ow_M} {v : Int32} : fV D (ow_up D 34 13 v) := ⟨fun a ha => ow_up_c (fun w => ha (by rw [w]; decide)), fun j _ hj => ow_up_f (Or.inr hj)⟩
theorem rowsP_up {T : Nat → Int32} {D : ow_M} {a b c d q j : Nat} {v : Int32} (ha : a ≠ 34) (hb : b ≠ 34) (hc : c ≠ 34) (hd : d ≠ 34) (h : rowsP T D a b c d q) : rowsP T (ow_up D 34 j v) a b c d q := by
  intro i hi
  rw [ow_up_c ha, ow_up_c hb, ow_up_c hc, ow_up_c hd]
  exact h i hi
theorem lw_e {T : Nat → Int32} {base b : Nat} (hb : base + b ≤ 200) : ∀ (f p : Nat) (D : ow_M), (∀ j, j < b → D.1 37 (base + j) = T j) → D.1 34 13 = nI p → D.1 34 12 = nI (base + (2 + 5 * p)) → OKt T (2 + 5 * p) → 2 + 5 * p ≤ b → p ≤ 7 → 7 - p < f → rowsP T D 42 43 44 45 p →
    ∃ r D', lpX8_readWire_61 (nI (base + b)) (fun _ => none) f D = some (r, D') ∧ fV D D' ∧ ((r = 0 ∧ ∃ i, isF T b i ∧ D'.1 34 12 = nI (base + i)) ∨ (r = 1 ∧ ∃ q, b = 2 + 5 * q ∧ 2 ≤ q ∧ q ≤ 7 ∧ OKt T b ∧ D'.1 34 13 = nI q ∧ rowsP T D' 42 43 44 45 q)) := by
  intro f
  induction f with
  | zero => intro p D _ _ _ _ _ _ h; omega
  | succ f ih =>
    intro p D hT h13 h12 hok hpb hp7 hf hrow
    have go77 : ¬ (2 ≤ p ∧ b = 2 + 5 * p) → ∃ r D', jX8_readWire_77 (nI (base + b)) (lpX8_readWire_61 (nI (base + b)) (fun _ => none) f) (fun _ => none) D = some (r, D') ∧ fV D D' ∧ ((r = 0 ∧ ∃ i, isF T b i ∧ D'.1 34 12 = nI (base + i)) ∨ (r = 1 ∧ ∃ q, b = 2 + 5 * q ∧ 2 ≤ q ∧ q ≤ 7 ∧ OKt T b ∧ D'.1 34 13 = nI q ∧ rowsP T D' 42 43 44 45 q)) := by
      intro hns
      unfold jX8_readWire_77
      rw [h13, h12]
      by_cases q7 : p = 7
      · rw [if_pos (by rw [q7]; rfl)]
        refine ⟨_, D, rfl, fV_rf, Or.inl ⟨rfl, 2 + 5 * p, isF_end hok hpb (fun e => absurd ⟨by omega, e⟩ hns) (fun w => ?_), h12⟩⟩
        subst q7
        have : gO (2 + 5 * 7) (T (2 + 5 * 7)) = false := rfl
        rw [this] at w
        exact absurd w.2 (by decide)
      · rw [if_neg (by rw [l_7, nI_eq (by omega) (by omega)]; exact q7)]
        by_cases qe : b ≤ 2 + 5 * p
        · rw [if_pos ((nI_leI (by omega) (by omega)).mpr (by omega))]
          exact ⟨_, D, rfl, fV_rf, Or.inl ⟨rfl, 2 + 5 * p, isF_end hok hpb (fun e => Or.inl (by omega)) (fun w => by omega), h12⟩⟩
        · have i1 : ow_inn (nI (base + (2 + 5 * p))) 200 := (inn_nI (by omega)).mpr (by omega)
          have c1 : (nI (base + (2 + 5 * p))).toNatClampNeg = base + (2 + 5 * p) := nI_clamp (by omega)
          have gv : gO (2 + 5 * p) (T (2 + 5 * p)) = decide (T (2 + 5 * p) = 59) := by
            have := gO_r (p := p) (r := 0) (by omega) (by decide) (T (2 + 5 * p))
            exact this
          rw [if_neg (by rw [nI_leI (by omega) (by omega)]; omega), if_pos i1, c1, hT _ (by omega)]
          by_cases x1 : T (2 + 5 * p) = 59
          · rw [if_pos x1]
            have ok2 : OKt T (2 + 1 + 5 * p) := by
              have := OK_s hok (by rw [gv, x1]; rfl)
              rw [show 2 + 5 * p + 1 = 2 + 1 + 5 * p by omega] at this; exact this
            have e13 : (ow_up D 34 12 (nI (base + (2 + 5 * p)) + 1)).1 34 13 = nI p := by rw [ow_up_f (Or.inr (by decide))]; exact h13
            have e12 : nI (base + (2 + 5 * p)) + 1 = nI (base + (2 + 1 + 5 * p)) := by rw [nI_1]; congr 1; omega
            rw [e13, e12]
            obtain ⟨r, D', k1, k2, k3⟩ := rp_e (T := T) hb (p := p) (by omega) (D := ow_up D 34 12 (nI (base + (2 + 1 + 5 * p)))) (fun j hj => by rw [ow_up_c (by decide)]; exact hT j hj) ow_up_s ok2 (by omega)
            rw [k1, ow_bd_eq]
            rcases k3 with ⟨rfl, i, j1, j2⟩ | ⟨rfl, j1, j2, j3, j4, j5, j6, j7⟩
            · rw [if_pos rfl]
              exact ⟨_, D', rfl, fV_tr fV_12 (fV_W k2), Or.inl ⟨rfl, i, j1, j2⟩⟩
            · rw [if_neg (by decide)]
              have d13 : D'.1 34 13 + 1 = nI (p + 1) := by rw [k2.2.1 13 (by decide), ow_up_f (Or.inr (by decide)), h13, nI_1]
              rw [d13]
              have hr2 : rowsP T (ow_up D' 34 13 (nI (p + 1))) 42 43 44 45 (p + 1) := by
                apply rowsP_up (by decide) (by decide) (by decide) (by decide)
                intro i hi
                by_cases qi : i = p
                · rw [qi]; exact ⟨j4, j5, j6, j7⟩
                · obtain ⟨a1, a2, a3, a4⟩ := k2.2.2 i qi
                  rw [a1, a2, a3, a4, ow_up_c (by decide), ow_up_c (by decide), ow_up_c (by decide), ow_up_c (by decide)]
                  exact hrow i (by omega)
              obtain ⟨r, D2, l1, l2, l3⟩ := ih (p + 1) (ow_up D' 34 13 (nI (p + 1))) (fun j hj => by rw [ow_up_c (by decide), k2.1 37 (by decide), ow_up_c (by decide)]; exact hT j hj) ow_up_s (by rw [ow_up_f (Or.inr (by decide))]; exact j3) j2 j1 (by omega) (by omega) hr2
              exact ⟨r, D2, l1, fV_tr fV_12 (fV_tr (fV_W k2) (fV_tr fV_13 l2)), l3⟩
          · rw [if_neg x1]
            exact ⟨_, D, rfl, fV_rf, Or.inl ⟨rfl, 2 + 5 * p, isF_end hok hpb (fun e => by omega) (fun w => by rw [gv, decide_eq_false x1] at w; exact absurd w.2 (by decide)), h12⟩⟩
    unfold lpX8_readWire_61
    rw [h13]
    by_cases q2 : p < 2
    · rw [if_pos (by rw [l_2]; exact (nI_ltI (by omega) (by omega)).mpr q2)]
      exact go77 (fun w => by omega)
    · rw [if_neg (by rw [l_2, nI_ltI (by omega) (by omega)]; exact q2), h12]
      by_cases qe : b ≤ 2 + 5 * p
      · rw [if_pos ((nI_leI (by omega) (by omega)).mpr (by omega))]
        have e : b = 2 + 5 * p := by omega
        exact ⟨_, D, rfl, fV_rf, Or.inr ⟨rfl, p, e, by omega, hp7, by rw [e]; exact hok, h13, hrow⟩⟩
      · rw [if_neg (by rw [nI_leI (by omega) (by omega)]; omega)]
        exact go77 (fun w => qe (by omega))
def fU (D E : ow_M) : Prop := (∀ a, a ∉ [34, 42, 43, 44, 45] → E.1 a = D.1 a) ∧ ∀ j, j ≠ 12 → j ≠ 13 → j ≠ 14 → E.1 34 j = D.1 34 j
theorem rw_e {T : Nat → Int32} {base b : Nat} (hb : base + b ≤ 200) {D : ow_M} (hT : ∀ j, j < b → D.1 37 (base + j) = T j) (h12 : D.1 34 12 = nI base) :
    ∃ r D', fX8_readWire (nI (base + b)) D = some (r, D') ∧ fU D D' ∧ ((r = 0 ∧ ∃ i, isF T b i ∧ D'.1 34 12 = nI (base + i)) ∨ (r = 1 ∧ ∃ q, b = 2 + 5 * q ∧ 2 ≤ q ∧ q ≤ 7 ∧ OKt T b ∧ D'.1 34 13 = nI q ∧ D'.1 34 14 = T 1 - 48 ∧ rowsP T D' 42 43 44 45 q)) := by
  have uV : ∀ {E F : ow_M}, fV E F → fU E F := fun h => ⟨h.1, fun j p q _ => h.2 j p q⟩
  have utr : ∀ {E F G : ow_M}, fU E F → fU F G → fU E G := fun h h2 => ⟨fun a ha => (h2.1 a ha).trans (h.1 a ha), fun j p q s => (h2.2 j p q s).trans (h.2 j p q s)⟩
  have u14 : ∀ {E : ow_M} {v : Int32}, fU E (ow_up E 34 14 v) := ⟨fun a ha => ow_up_c (fun w => ha (by rw [w]; decide)), fun j _ _ hj => ow_up_f (Or.inr hj)⟩
  have ok0 : OKt T 0 := fun i hi => by omega
  unfold fX8_readWire
  rw [h12]
  by_cases q0 : b ≤ 0
  · rw [if_pos ((nI_leI (by omega) (by omega)).mpr (by omega))]
    exact ⟨_, D, rfl, uV fV_rf, Or.inl ⟨rfl, 0, isF_end ok0 (by omega) (fun e => Or.inl (by omega)) (fun w => by omega), h12⟩⟩
  · have i1 : ow_inn (nI base) 200 := (inn_nI (by omega)).mpr (by omega)
    have c1 : (nI base).toNatClampNeg = base := nI_clamp (by omega)
    have t0 : D.1 37 base = T 0 := hT 0 (by omega)
    rw [if_neg (by rw [nI_leI (by omega) (by omega)]; omega), if_pos i1, c1, t0]
    by_cases x1 : T 0 = 119
    · have ok1 : OKt T 1 := OK_s ok0 (by rw [gO_0, x1]; rfl)
      rw [if_pos x1, nI_1]
      have l1' : (1 : Int32) = nI 1 := rfl
      rcases dg_m (T := T) hb (hi := 1) (j := 1) (by decide) (D := ow_up D 34 12 (nI (base + 1))) (fun j hj => by rw [ow_up_c (by decide)]; exact hT j hj) (by omega) ow_up_s with ⟨a1, a2, a3⟩ | ⟨a2, a3⟩
      · have a3' : fX8_digit (nI (base + b)) 0 1 (ow_up D 34 12 (nI (base + 1))) = some (T 1 - 48, ow_up (ow_up D 34 12 (nI (base + 1))) 34 12 (nI (base + (1 + 1)))) := a3
        have ok2 : OKt T (2 + 5 * 0) := OK_s ok1 (by rw [gO_1]; exact a2)
        rw [a3', ow_bd_eq, ow_up_s, if_neg (dv_9 (T := T) (show 1 < 10 by decide) a2)]
        obtain ⟨r, D', k1, k2, k3⟩ := lw_e (T := T) hb ow_N 0 (ow_up (ow_up (ow_up (ow_up D 34 12 (nI (base + 1))) 34 12 (nI (base + (1 + 1)))) 34 14 (T 1 - 48)) 34 13 0) (fun j hj => by rw [ow_up_c (by decide), ow_up_c (by decide), ow_up_c (by decide), ow_up_c (by decide)]; exact hT j hj) ow_up_s (by rw [ow_up_f (Or.inr (by decide)), ow_up_f (Or.inr (by decide)), ow_up_s]) ok2 (by omega) (by omega) (by unfold ow_N; omega) (fun i hi => by omega)
        have fr : fU D D' := utr (uV fV_12) (utr (uV fV_12) (utr u14 (utr (uV fV_13) (uV k2))))
        refine ⟨r, D', k1, fr, ?_⟩
        rcases k3 with k3 | ⟨k3, q, m1, m2, m3, m4, m5, m6⟩
        · exact Or.inl k3
        · exact Or.inr ⟨k3, q, m1, m2, m3, m4, m5, by rw [k2.2 14 (by decide) (by decide), ow_up_f (Or.inr (by decide)), ow_up_s], m6⟩
      · have a3' : fX8_digit (nI (base + b)) 0 1 (ow_up D 34 12 (nI (base + 1))) = some (-9, ow_up D 34 12 (nI (base + 1))) := a3
        rw [a3', ow_bd_eq, ow_up_s, if_pos rfl]
        refine ⟨_, _, rfl, utr (uV fV_12) u14, Or.inl ⟨rfl, 1, isF_end ok1 (by omega) (fun e => Or.inl (by omega)) (fun w => a2 ⟨w.1, by have := w.2; rw [gO_1] at this; exact this⟩), ?_⟩⟩
        rw [ow_up_f (Or.inr (by decide)), ow_up_s]
    · rw [if_neg x1]
      exact ⟨_, D, rfl, uV fV_rf, Or.inl ⟨rfl, 0, isF_end ok0 (by omega) (fun e => by omega) (fun w => by rw [gO_0, decide_eq_false x1] at w; exact absurd w.2 (by decide)), h12⟩⟩
/-! the rows are laid -/
theorem w122 {q : Nat} (hq : q ≤ 7) : ∀ (f i : Nat) (D : ow_M), D.1 34 5 = nI q → i ≤ q → q - i < f → (∀ j, j < i → D.1 38 j = D.1 42 j ∧ D.1 39 j = D.1 43 j ∧ D.1 40 j = D.1 44 j ∧ D.1 41 j = D.1 45 j) →
    ∃ D2, (∀ K, lpX8_wire_122 K f (nI i) D = K (nI q) D2) ∧ (∀ a, a ∉ [38, 39, 40, 41] → D2.1 a = D.1 a) ∧ ∀ j, j < q → D2.1 38 j = D2.1 42 j ∧ D2.1 39 j = D2.1 43 j ∧ D2.1 40 j = D2.1 44 j ∧ D2.1 41 j = D2.1 45 j := by
  intro f
  induction f with
  | zero => intro i D _ _ h; omega
  | succ f ih =>
    intro i D hn hi hf hd
    unfold lpX8_wire_122
    by_cases q0 : q ≤ i
    · have e : i = q := by omega
      subst e
      have z : D.1 34 5 ≤ nI i := by rw [hn]; exact (nI_leI (by omega) (by omega)).mpr (Nat.le_refl _)
      simp only [if_pos z]
      exact ⟨D, fun _ => rfl, fun _ _ => rfl, hd⟩
    · have z : ¬ D.1 34 5 ≤ nI i := by rw [hn, nI_leI (by omega) (by omega)]; exact q0
      have i1 : ow_inn (nI i) 7 := (inn_nI (by omega)).mpr (by omega)
      have c1 : (nI i).toNatClampNeg = i := nI_clamp (by omega)
      simp only [if_neg z, if_pos i1, c1, nI_1]
      have fr : ∀ (v1 v2 v3 v4 : Int32) (a : Nat), a ∉ [38, 39, 40, 41] → (ow_up (ow_up (ow_up (ow_up D 38 i v1) 39 i v2) 40 i v3) 41 i v4).1 a = D.1 a := by
        intro v1 v2 v3 v4 a ha
        rw [ow_up_c (fun w => ha (by rw [w]; decide)), ow_up_c (fun w => ha (by rw [w]; decide)), ow_up_c (fun w => ha (by rw [w]; decide)), ow_up_c (fun w => ha (by rw [w]; decide))]
      have e2 : (ow_up D 38 i (D.1 42 i)).1 43 i = D.1 43 i := by rw [ow_up_c (by decide)]
      have e3 : (ow_up (ow_up D 38 i (D.1 42 i)) 39 i (D.1 43 i)).1 44 i = D.1 44 i := by rw [ow_up_c (by decide), ow_up_c (by decide)]
      have e4 : (ow_up (ow_up (ow_up D 38 i (D.1 42 i)) 39 i (D.1 43 i)) 40 i (D.1 44 i)).1 45 i = D.1 45 i := by rw [ow_up_c (by decide), ow_up_c (by decide), ow_up_c (by decide)]
      rw [e2, e3, e4]
      obtain ⟨D2, k1, k2, k3⟩ := ih (i + 1) (ow_up (ow_up (ow_up (ow_up D 38 i (D.1 42 i)) 39 i (D.1 43 i)) 40 i (D.1 44 i)) 41 i (D.1 45 i)) (by rw [fr _ _ _ _ 34 (by decide)]; exact hn) (by omega) (by omega) (fun j hj => by
        rw [fr _ _ _ _ 42 (by decide), fr _ _ _ _ 43 (by decide), fr _ _ _ _ 44 (by decide), fr _ _ _ _ 45 (by decide)]
        by_cases qj : j = i
        · subst qj
          refine ⟨?_, ?_, ?_, ow_up_s⟩
          · rw [ow_up_c (by decide), ow_up_c (by decide), ow_up_c (by decide), ow_up_s]
          · rw [ow_up_c (by decide), ow_up_c (by decide), ow_up_s]
          · rw [ow_up_c (by decide), ow_up_s]
        · obtain ⟨a1, a2, a3, a4⟩ := hd j (by omega)
          refine ⟨?_, ?_, ?_, ?_⟩
          · rw [ow_up_c (by decide), ow_up_c (by decide), ow_up_c (by decide), ow_up_f (Or.inr qj)]; exact a1
          · rw [ow_up_c (by decide), ow_up_c (by decide), ow_up_f (Or.inr qj), ow_up_c (by decide)]; exact a2
          · rw [ow_up_c (by decide), ow_up_f (Or.inr qj), ow_up_c (by decide), ow_up_c (by decide)]; exact a3
          · rw [ow_up_f (Or.inr qj), ow_up_c (by decide), ow_up_c (by decide), ow_up_c (by decide)]; exact a4)
      exact ⟨D2, k1, fun a ha => by rw [k2 a ha, fr _ _ _ _ a ha], k3⟩
theorem kd_e (c : Int32) : fX0_kindOf c = some (kdf c) := by
  unfold fX0_kindOf kdf
  by_cases h : c = 116
  · rw [if_pos h, if_pos h]
  · rw [if_neg h, if_neg h]
    by_cases h2 : c = 103
    · rw [if_pos h2, if_pos h2]
    · rw [if_neg h2, if_neg h2]
theorem t62 {T : Nat → Int32} {o a b len q : Nat} (ho : 26 ≤ o) (h5 : len ≤ 50) (hab : a + b ≤ len) (hq : q ≤ 7) (hbq : b = 2 + 5 * q) : ∀ (f i : Nat) (C : ow_M), C.1 2 0 = nI q → C.1 o 2 = nI len → (∀ j, j < b → C.1 (o + 1) (a + j) = T j) → i ≤ q → q - i < f → rowsP T C 3 4 5 6 i →
    ∃ C2, (∀ K, lpX0_takeText_62 o (nI a) K f (nI i) C = K (nI q) C2) ∧ (∀ x, x ∉ [3, 4, 5, 6] → C2.1 x = C.1 x) ∧ rowsP T C2 3 4 5 6 q := by
  intro f
  induction f with
  | zero => intro i C _ _ _ _ h; omega
  | succ f ih =>
    intro i C hn hl hT hi hf hr
    unfold lpX0_takeText_62
    by_cases q0 : q ≤ i
    · have e : i = q := by omega
      subst e
      have z : C.1 2 0 ≤ nI i := by rw [hn]; exact (nI_leI (by omega) (by omega)).mpr (Nat.le_refl _)
      simp only [if_pos z]
      exact ⟨C, fun _ => rfl, fun _ _ => rfl, hr⟩
    · have z : ¬ C.1 2 0 ≤ nI i := by rw [hn, nI_leI (by omega) (by omega)]; exact q0
      have i1 : ow_inn (nI i) 7 := (inn_nI (by omega)).mpr (by omega)
      have c1 : (nI i).toNatClampNeg = i := nI_clamp (by omega)
      have ix : nI a + 2 + nI i * 5 = nI (a + 2 + i * 5) := by rw [l_2, l_5, nI_add, pk_mul, nI_add]
      have x1 : nI (a + 2 + i * 5) + 1 = nI (a + (2 + 1 + 5 * i)) := by rw [nI_1]; congr 1; omega
      have x2 : nI (a + 2 + i * 5) + 2 = nI (a + (2 + 2 + 5 * i)) := by rw [l_2, nI_add]; congr 1; omega
      have x3 : nI (a + 2 + i * 5) + 3 = nI (a + (2 + 3 + 5 * i)) := by rw [l_3, nI_add]; congr 1; omega
      have x4 : nI (a + 2 + i * 5) + 4 = nI (a + (2 + 4 + 5 * i)) := by rw [l_4, nI_add]; congr 1; omega
      have ld : ∀ (E : ow_M), (∀ x, x ∉ [3, 4, 5, 6] → E.1 x = C.1 x) → ∀ j, j < b → fX4_load o (nI (a + j)) E = some (T j) := by
        intro E hE j hj
        have m1 : o ∉ [3, 4, 5, 6] := fun w => by simp only [List.mem_cons, List.not_mem_nil, or_false] at w; omega
        have m2 : o + 1 ∉ [3, 4, 5, 6] := fun w => by simp only [List.mem_cons, List.not_mem_nil, or_false] at w; omega
        rw [load_eq (by rw [hE o m1]; exact hl) h5 (by omega), hE (o + 1) m2, hT j hj]
      have fr1 : ∀ v1 a, a ∉ [3, 4, 5, 6] → (ow_up C 3 i v1).1 a = C.1 a := fun v1 a ha => ow_up_c (fun w => ha (by rw [w]; decide))
      have fr2 : ∀ v1 v2 a, a ∉ [3, 4, 5, 6] → (ow_up (ow_up C 3 i v1) 4 i v2).1 a = C.1 a := fun v1 v2 a ha => by rw [ow_up_c (fun w => ha (by rw [w]; decide)), fr1 v1 a ha]
      have fr3 : ∀ v1 v2 v3 a, a ∉ [3, 4, 5, 6] → (ow_up (ow_up (ow_up C 3 i v1) 4 i v2) 5 i v3).1 a = C.1 a := fun v1 v2 v3 a ha => by rw [ow_up_c (fun w => ha (by rw [w]; decide)), fr2 v1 v2 a ha]
      have fr4 : ∀ v1 v2 v3 v4 a, a ∉ [3, 4, 5, 6] → (ow_up (ow_up (ow_up (ow_up C 3 i v1) 4 i v2) 5 i v3) 6 i v4).1 a = C.1 a := fun v1 v2 v3 v4 a ha => by rw [ow_up_c (fun w => ha (by rw [w]; decide)), fr3 v1 v2 v3 a ha]
      simp only [if_neg z, ix, x1, x2, x3, x4, ld C (fun _ _ => rfl) (2 + 1 + 5 * i) (by omega), ow_obs, kd_e, if_pos i1, c1, ld _ (fr1 _) (2 + 2 + 5 * i) (by omega), ld _ (fr2 _ _) (2 + 3 + 5 * i) (by omega), ld _ (fr3 _ _ _) (2 + 4 + 5 * i) (by omega), nI_1]
      have m1 : o ∉ [3, 4, 5, 6] := fun w => by simp only [List.mem_cons, List.not_mem_nil, or_false] at w; omega
      have m2 : o + 1 ∉ [3, 4, 5, 6] := fun w => by simp only [List.mem_cons, List.not_mem_nil, or_false] at w; omega
      obtain ⟨C2, k1, k2, k3⟩ := ih (i + 1) (ow_up (ow_up (ow_up (ow_up C 3 i (kdf (T (2 + 1 + 5 * i)))) 4 i (T (2 + 2 + 5 * i) - 48)) 5 i (T (2 + 3 + 5 * i) - 48)) 6 i (T (2 + 4 + 5 * i) - 48)) (by rw [fr4 _ _ _ _ 2 (by decide)]; exact hn) (by rw [fr4 _ _ _ _ o m1]; exact hl) (fun j hj => by rw [fr4 _ _ _ _ (o + 1) m2]; exact hT j hj) (by omega) (by omega) (fun j hj => by
        by_cases qj : j = i
        · subst qj
          refine ⟨?_, ?_, ?_, ow_up_s⟩
          · rw [ow_up_c (by decide), ow_up_c (by decide), ow_up_c (by decide), ow_up_s]
          · rw [ow_up_c (by decide), ow_up_c (by decide), ow_up_s]
          · rw [ow_up_c (by decide), ow_up_s]
        · obtain ⟨a1, a2, a3, a4⟩ := hr j (by omega)
          refine ⟨?_, ?_, ?_, ?_⟩
          · rw [ow_up_c (by decide), ow_up_c (by decide), ow_up_c (by decide), ow_up_f (Or.inr qj)]; exact a1
          · rw [ow_up_c (by decide), ow_up_c (by decide), ow_up_f (Or.inr qj), ow_up_c (by decide)]; exact a2
          · rw [ow_up_c (by decide), ow_up_f (Or.inr qj), ow_up_c (by decide), ow_up_c (by decide)]; exact a3
          · rw [ow_up_f (Or.inr qj), ow_up_c (by decide), ow_up_c (by decide), ow_up_c (by decide)]; exact a4)
      exact ⟨C2, k1, fun x hx => by rw [k2 x hx, fr4 _ _ _ _ x hx], k3⟩
theorem t162 : ∀ (f i : Nat) (C : ow_M), i ≤ 7 → 7 - i < f → (∀ j, j < i → C.1 7 j = 0) → ∃ C2, lpX0_takeText_162 (fun _ M26 => some M26) f (nI i) C = some C2 ∧ (∀ x, x ≠ 7 → C2.1 x = C.1 x) ∧ ∀ j, j < 7 → C2.1 7 j = 0 := by
  intro f
  induction f with
  | zero => intro i C _ h; omega
  | succ f ih =>
    intro i C hi hf hz
    unfold lpX0_takeText_162
    by_cases q : 7 ≤ i
    · rw [if_pos (by rw [l_7]; exact (nI_leI (by omega) (by omega)).mpr q)]
      exact ⟨C, rfl, fun _ _ => rfl, fun j hj => hz j (by omega)⟩
    · have i1 : ow_inn (nI i) 7 := (inn_nI (by omega)).mpr (by omega)
      have c1 : (nI i).toNatClampNeg = i := nI_clamp (by omega)
      have v0 : vp_nar .boolean 0 = 0 := vnar_b false
      rw [if_neg (by rw [l_7, nI_leI (by omega) (by omega)]; exact q), if_pos i1, c1, v0, nI_1]
      obtain ⟨C2, k1, k2, k3⟩ := ih (i + 1) (ow_up C 7 i 0) (by omega) (by omega) (fun j hj => by
        by_cases qj : j = i
        · rw [qj, ow_up_s]
        · rw [ow_up_f (Or.inr qj)]; exact hz j (by omega))
      exact ⟨C2, k1, fun x hx => by rw [k2 x hx, ow_up_c hx], k3⟩
theorem tk_e {M : ow_M} {T : Nat → Int32} {o a b len q : Nat} {lp : Bool} (ho : 26 ≤ o) (hl : M.1 o 2 = nI len) (h5 : len ≤ 50) (hab : a + b ≤ len) (h2 : 2 ≤ q) (hq : q ≤ 7) (hbq : b = 2 + 5 * q) (hT : ∀ j, j < b → M.1 (o + 1) (a + j) = T j) (hlp : T 1 = nI (48 + (if lp then 1 else 0))) :
    ∃ C2, fX0_takeText o (nI a) (nI b) M = some C2 ∧ (∀ x, x ∉ [2, 3, 4, 5, 6, 7] → C2.1 x = M.1 x) ∧ C2.1 2 0 = nI q ∧ C2.1 2 1 = nI (oed q lp) ∧ C2.1 2 2 = bI lp ∧ rowsP T C2 3 4 5 6 q ∧ ∀ j, j < 7 → C2.1 7 j = 0 := by
  have main : ∀ s1 : Int32, s1 = bI lp → ∃ C2, jX0_takeText_18 o (nI a) (nI b) s1 M = some C2 ∧ (∀ x, x ∉ [2, 3, 4, 5, 6, 7] → C2.1 x = M.1 x) ∧ C2.1 2 0 = nI q ∧ C2.1 2 1 = nI (oed q lp) ∧ C2.1 2 2 = bI lp ∧ rowsP T C2 3 4 5 6 q ∧ ∀ j, j < 7 → C2.1 7 j = 0 := by
    intro s1 hs
    subst hs
    unfold jX0_takeText_18
    have e1 : (nI b - 2) / 5 = nI q := by rw [l_2, l_5, pk_sub (by omega), pk_div (by omega) (by decide) (by decide)]; congr 1; omega
    have e2 : ¬ (7 : Int32) < nI q := by rw [l_7, nI_ltI (by omega) (by omega)]; omega
    rw [if_pos (bI_or lp), e1, if_neg e2]
    have f0 : (ow_up (ow_up M 2 2 (bI lp)) 2 0 (nI q)).1 2 2 = bI lp := by rw [ow_up_f (Or.inr (by decide)), ow_up_s]
    have f1 : (ow_up (ow_up M 2 2 (bI lp)) 2 0 (nI q)).1 2 0 = nI q := ow_up_s
    rw [f0, f1]
    have e3 : nI q - 1 = nI (q - 1) := by rw [l_1, pk_sub (by omega)]
    have rest : ∃ C2, jX0_takeText_56 o (nI a) (nI (oed q lp)) (ow_up (ow_up M 2 2 (bI lp)) 2 0 (nI q)) = some C2 ∧ (∀ x, x ∉ [2, 3, 4, 5, 6, 7] → C2.1 x = M.1 x) ∧ C2.1 2 0 = nI q ∧ C2.1 2 1 = nI (oed q lp) ∧ C2.1 2 2 = bI lp ∧ rowsP T C2 3 4 5 6 q ∧ ∀ j, j < 7 → C2.1 7 j = 0 := by
      unfold jX0_takeText_56
      have fr : ∀ x, x ≠ 2 → (ow_up (ow_up (ow_up M 2 2 (bI lp)) 2 0 (nI q)) 2 1 (nI (oed q lp))).1 x = M.1 x := fun x hx => by rw [ow_up_c hx, ow_up_c hx, ow_up_c hx]
      obtain ⟨C1, k1, k2, k3⟩ := t62 (T := T) (o := o) ho h5 hab hq hbq ow_N 0 (ow_up (ow_up (ow_up M 2 2 (bI lp)) 2 0 (nI q)) 2 1 (nI (oed q lp))) (by rw [ow_up_f (Or.inr (by decide)), ow_up_s]) (by rw [fr o (by omega)]; exact hl) (fun j hj => by rw [fr (o + 1) (by omega)]; exact hT j hj) (by omega) (by unfold ow_N; omega) (fun i hi => by omega)
      obtain ⟨C2, l1, l2, l3⟩ := t162 ow_N 0 C1 (by omega) (by unfold ow_N; omega) (fun j hj => by omega)
      rw [nI_0] at k1 l1
      rw [k1, l1]
      have r2 : C2.1 2 = (ow_up (ow_up (ow_up M 2 2 (bI lp)) 2 0 (nI q)) 2 1 (nI (oed q lp))).1 2 := by rw [l2 2 (by decide), k2 2 (by decide)]
      refine ⟨C2, rfl, fun x hx => ?_, ?_, ?_, ?_, ?_, l3⟩
      · have n2 : x ≠ 2 := fun w => hx (by rw [w]; decide)
        have n7 : x ≠ 7 := fun w => hx (by rw [w]; decide)
        have n4 : x ∉ [3, 4, 5, 6] := fun w => hx (by simp only [List.mem_cons, List.not_mem_nil, or_false] at w ⊢; omega)
        rw [l2 x n7, k2 x n4, fr x n2]
      · rw [r2, ow_up_f (Or.inr (by decide)), ow_up_s]
      · rw [r2, ow_up_s]
      · rw [r2, ow_up_f (Or.inr (by decide)), ow_up_f (Or.inr (by decide)), ow_up_s]
      · intro i hi
        rw [l2 3 (by decide), l2 4 (by decide), l2 5 (by decide), l2 6 (by decide)]
        exact k3 i hi
    cases lp with
    | true => rw [if_neg (by decide)]; exact rest
    | false => rw [if_pos (by rfl), e3]; exact rest
  unfold fX0_takeText
  rw [nI_1, load_eq hl h5 (by omega), ow_obs, hT 1 (by omega), hlp]
  cases lp with
  | true => rw [if_pos (by rfl)]; exact main 1 rfl
  | false => rw [if_neg (by decide)]; exact main 0 rfl
