/-! WIRE: the text -/
def dgO (hi : Nat) (c : Int32) : Bool := !(decide (c < 48)) && !(decide (nI (48 + hi) < c))
def gO (j : Nat) (c : Int32) : Bool :=
  if j = 0 then decide (c = 119) else if j = 1 then dgO 1 c else if j < 37 then
    (if (j - 2) % 5 = 0 then decide (c = 59) else if (j - 2) % 5 = 1 then (decide (c = 112) || decide (c = 103) || decide (c = 116)) else if (j - 2) % 5 = 2 then dgO 9 c else dgO 3 c) else false
theorem dg_v {hi : Nat} {c : Int32} (hh : hi < 10) (h : dgO hi c = true) : ∃ d, d ≤ hi ∧ c = nI (48 + d) := by
  unfold dgO at h
  rw [Bool.and_eq_true, Bool.not_eq_true', Bool.not_eq_true', decide_eq_false_iff_not, decide_eq_false_iff_not] at h
  have h0 : ¬ c < 0 := fun w => h.1 (Int32.lt_trans w (by decide))
  obtain ⟨m, hm, rfl⟩ := nI_of h0
  rw [l_48, nI_ltI hm (by omega), nI_ltI (by omega) hm] at h
  exact ⟨m - 48, by omega, by congr 1; omega⟩
theorem is_d (hi : Nat) (c : Int32) : fX7_isDigit c (nI hi) = some (bI (dgO hi c)) := by
  unfold fX7_isDigit dgO
  rw [← nI_add, ← l_48]
  by_cases h1 : c < 48
  · rw [if_pos h1, decide_eq_true h1]; rfl
  · rw [if_neg h1, decide_eq_false h1]
    by_cases h2 : 48 + nI hi < c
    · rw [if_pos h2, decide_eq_true h2]; rfl
    · rw [if_neg h2, decide_eq_false h2]; rfl
theorem bI_or (b : Bool) : (bI b = 0 ∨ bI b = 1) := by cases b; exact Or.inl rfl; exact Or.inr rfl
theorem go_on {j : Nat} (hj : j ≤ 1000) (c : Int32) : fX7_goesOn (nI j) c = some (bI (gO j c)) := by
  unfold fX7_goesOn gO
  have d1 : fX7_isDigit c 1 = some (bI (dgO 1 c)) := is_d 1 c
  have d9 : fX7_isDigit c 9 = some (bI (dgO 9 c)) := is_d 9 c
  have d3 : fX7_isDigit c 3 = some (bI (dgO 3 c)) := is_d 3 c
  rw [d1, d9, d3, ow_obs, ow_obs, ow_obs, if_pos (bI_or _), if_pos (bI_or _), if_pos (bI_or _)]
  have by_d : ∀ (p : Prop) [Decidable p], (if p then some (1 : Int32) else some 0) = some (bI (decide p)) := by
    intro p _
    by_cases q : p
    · rw [if_pos q, decide_eq_true q]; rfl
    · rw [if_neg q, decide_eq_false q]; rfl
  by_cases q0 : j = 0
  · subst q0
    rw [if_pos (by decide), if_pos rfl]
    exact by_d _
  · rw [if_neg (by rw [l_0, nI_eq (by omega) (by omega)]; exact q0), if_neg q0]
    by_cases q1 : j = 1
    · subst q1
      rw [if_pos (by decide), if_pos rfl]
    · rw [if_neg (by rw [l_1, nI_eq (by omega) (by omega)]; exact q1), if_neg q1]
      by_cases q2 : j < 37
      · have e1 : nI j - 2 - (nI j - 2) / 5 * 5 = nI ((j - 2) % 5) := by rw [l_2, l_5, pk_sub (by omega), pk_rem (by omega) (by decide) (by decide)]
        rw [if_pos (by rw [l_37]; exact (nI_ltI (by omega) (by omega)).mpr q2), if_pos q2, e1]
        by_cases r0 : (j - 2) % 5 = 0
        · rw [r0, if_pos (by decide), if_pos rfl]; exact by_d _
        · rw [if_neg (by rw [l_0, nI_eq (by omega) (by omega)]; exact r0), if_neg r0]
          by_cases r1 : (j - 2) % 5 = 1
          · rw [r1, if_pos (by decide), if_pos rfl]
            by_cases c1 : c = 112
            · rw [if_pos c1, decide_eq_true c1]; rfl
            · rw [if_neg c1, decide_eq_false c1]
              by_cases c2 : c = 103
              · rw [if_pos c2, decide_eq_true c2]; rfl
              · rw [if_neg c2, decide_eq_false c2]; exact by_d _
          · rw [if_neg (by rw [l_1, nI_eq (by omega) (by omega)]; exact r1), if_neg r1]
            by_cases r2 : (j - 2) % 5 = 2
            · rw [r2, if_pos (by decide), if_pos rfl]
            · rw [if_neg (by rw [l_2, nI_eq (by omega) (by omega)]; exact r2), if_neg r2]
      · rw [if_neg (by rw [l_37, nI_ltI (by omega) (by omega)]; exact q2), if_neg q2]; rfl
def OKt (T : Nat → Int32) (j : Nat) : Prop := ∀ i, i < j → gO i (T i) = true
theorem OK_s {T : Nat → Int32} {j : Nat} (h : OKt T j) (h2 : gO j (T j) = true) : OKt T (j + 1) := by
  intro i hi
  by_cases q : i = j
  · rw [q]; exact h2
  · exact h i (by omega)
def isF (T : Nat → Int32) (b j : Nat) : Prop := j ≤ b ∧ OKt T j ∧ ((j < b ∧ gO j (T j) = false) ∨ (j = b ∧ (b < 12 ∨ (b - 2) % 5 ≠ 0)))
def scT (T : Nat → Int32) (b : Nat) : Prop := OKt T b ∧ 12 ≤ b ∧ (b - 2) % 5 = 0
theorem isF_l {T : Nat → Int32} {b i j : Nat} (h : isF T b i) (h2 : OKt T j) (hj : j ≤ b) : j ≤ i := by
  rcases Nat.lt_or_ge i j with q | q
  · obtain ⟨h3, h4, h5⟩ := h
    have := h2 i q
    rcases h5 with ⟨_, h5⟩ | ⟨h5, _⟩
    · rw [this] at h5; cases h5
    · omega
  · exact q
theorem isF_u {T : Nat → Int32} {b i j : Nat} (h : isF T b i) (h2 : isF T b j) : i = j := Nat.le_antisymm (isF_l h2 h.2.1 h.1) (isF_l h h2.2.1 h2.1)
theorem isF_s {T : Nat → Int32} {b i : Nat} (h : isF T b i) (h2 : scT T b) : False := by
  have h3 := isF_l h h2.1 (Nat.le_refl _)
  obtain ⟨h4, h5, h6⟩ := h
  have h7 := h2.2
  rcases h6 with ⟨h6, _⟩ | ⟨_, h6⟩
  · omega
  · omega
theorem ff_c {M : ow_M} {T : Nat → Int32} {o a b len : Nat} (hl : M.1 o 2 = nI len) (h5 : len ≤ 50) (hab : a + b ≤ len) (hT : ∀ j, j < b → M.1 (o + 1) (a + j) = T j) : ∀ (f j : Nat), j ≤ b → OKt T j → b - j < f →
    (∃ i, isF T b i ∧ lpX7_firstFault_2 o (nI a) (nI b) M (fun u7 => (if nI b < 12 then jX7_firstFault_47 (nI b) M else (if ((nI b - 2) - (nI b - 2) / 5 * 5) = 0 then jX7_firstFault_48 (nI b) 1 M else jX7_firstFault_47 (nI b) M))) f (nI j) = some (nI i)) ∨
    (scT T b ∧ lpX7_firstFault_2 o (nI a) (nI b) M (fun u7 => (if nI b < 12 then jX7_firstFault_47 (nI b) M else (if ((nI b - 2) - (nI b - 2) / 5 * 5) = 0 then jX7_firstFault_48 (nI b) 1 M else jX7_firstFault_47 (nI b) M))) f (nI j) = some (-9)) := by
  intro f
  induction f with
  | zero => intro j _ _ h; omega
  | succ f ih =>
    intro j hj hok hf
    unfold lpX7_firstFault_2
    by_cases q : b ≤ j
    · have : j = b := by omega
      subst this
      rw [if_pos ((nI_leI (by omega) (by omega)).mpr (Nat.le_refl _))]
      unfold jX7_firstFault_47 jX7_firstFault_48
      by_cases q1 : j < 12
      · rw [if_pos (by rw [l_12]; exact (nI_ltI (by omega) (by omega)).mpr q1), if_pos rfl]
        exact Or.inl ⟨j, ⟨Nat.le_refl _, hok, Or.inr ⟨rfl, Or.inl q1⟩⟩, rfl⟩
      · have e1 : nI j - 2 - (nI j - 2) / 5 * 5 = nI ((j - 2) % 5) := by rw [l_2, l_5, pk_sub (by omega), pk_rem (by omega) (by decide) (by decide)]
        rw [if_neg (by rw [l_12, nI_ltI (by omega) (by omega)]; exact q1), e1]
        by_cases q2 : (j - 2) % 5 = 0
        · rw [q2, if_pos (by decide), if_neg (by decide)]
          exact Or.inr ⟨⟨hok, by omega, q2⟩, rfl⟩
        · rw [if_neg (by rw [l_0, nI_eq (by omega) (by omega)]; exact q2), if_pos rfl]
          exact Or.inl ⟨j, ⟨Nat.le_refl _, hok, Or.inr ⟨rfl, Or.inr q2⟩⟩, rfl⟩
    · rw [if_neg (by rw [nI_leI (by omega) (by omega)]; exact q), nI_add, load_eq hl h5 (by omega), ow_obs, hT j (by omega), go_on (by omega), ow_obs, nI_1]
      cases hg : gO j (T j) with
      | false =>
        rw [if_pos (by rfl)]
        exact Or.inl ⟨j, ⟨hj, hok, Or.inl ⟨by omega, hg⟩⟩, rfl⟩
      | true =>
        rw [if_neg (by decide)]
        exact ih (j + 1) (by omega) (OK_s hok hg) (by omega)
/-! the reference's reading -/
theorem gO_0 (c : Int32) : gO 0 c = decide (c = 119) := rfl
theorem gO_1 (c : Int32) : gO 1 c = dgO 1 c := rfl
theorem gO_r {p r : Nat} (hp : p < 7) (hr : r < 5) (c : Int32) : gO (2 + r + 5 * p) c = (if r = 0 then decide (c = 59) else if r = 1 then (decide (c = 112) || decide (c = 103) || decide (c = 116)) else if r = 2 then dgO 9 c else dgO 3 c) := by
  unfold gO
  rw [if_neg (by omega), if_neg (by omega), if_pos (by omega), show (2 + r + 5 * p - 2) % 5 = r by omega]
def kdf (c : Int32) : Int32 := if c = 116 then 2 else if c = 103 then 1 else 0
def fW (p : Nat) (D E : ow_M) : Prop := (∀ a, a ∉ [34, 42, 43, 44, 45] → E.1 a = D.1 a) ∧ (∀ j, j ≠ 12 → E.1 34 j = D.1 34 j) ∧ ∀ i, i ≠ p → E.1 42 i = D.1 42 i ∧ E.1 43 i = D.1 43 i ∧ E.1 44 i = D.1 44 i ∧ E.1 45 i = D.1 45 i
theorem fW_rf {p : Nat} {D : ow_M} : fW p D D := ⟨fun _ _ => rfl, fun _ _ => rfl, fun _ _ => ⟨rfl, rfl, rfl, rfl⟩⟩
theorem fW_34 {p : Nat} {D E : ow_M} {v : Int32} (h : fW p D E) : fW p D (ow_up E 34 12 v) := by
  refine ⟨fun a ha => ?_, fun j hj => ?_, fun i hi => ?_⟩
  · rw [ow_up_c (fun w => ha (by rw [w]; decide))]; exact h.1 a ha
  · rw [ow_up_f (Or.inr hj)]; exact h.2.1 j hj
  · rw [ow_up_c (by decide), ow_up_c (by decide), ow_up_c (by decide), ow_up_c (by decide)]; exact h.2.2 i hi
theorem fW_r {p c : Nat} {D E : ow_M} {v : Int32} (hc : c ∈ [42, 43, 44, 45]) (h : fW p D E) : fW p D (ow_up E c p v) := by
  have hc34 : c ≠ 34 := fun w => by rw [w] at hc; revert hc; decide
  have hcc : ∀ a, a ∉ [34, 42, 43, 44, 45] → a ≠ c := fun a ha w => ha (by rw [w]; exact List.mem_cons_of_mem _ hc)
  refine ⟨fun a ha => ?_, fun j hj => ?_, fun i hi => ?_⟩
  · rw [ow_up_c (hcc a ha)]; exact h.1 a ha
  · rw [ow_up_c (fun w => hc34 w.symm)]; exact h.2.1 j hj
  · rw [ow_up_f (Or.inr hi), ow_up_f (Or.inr hi), ow_up_f (Or.inr hi), ow_up_f (Or.inr hi)]; exact h.2.2 i hi
section
variable {T : Nat → Int32} {base b : Nat}
theorem dg_m (hb : base + b ≤ 200) {hi j : Nat} (hh : hi < 10) {D : ow_M} (hT : ∀ j, j < b → D.1 37 (base + j) = T j) (hj : j ≤ b) (hp : D.1 34 12 = nI (base + j)) :
    (j < b ∧ dgO hi (T j) = true ∧ fX8_digit (nI (base + b)) 0 (nI hi) D = some (T j - 48, ow_up D 34 12 (nI (base + (j + 1))))) ∨ (¬ (j < b ∧ dgO hi (T j) = true) ∧ fX8_digit (nI (base + b)) 0 (nI hi) D = some (-9, D)) := by
  unfold fX8_digit
  rw [hp]
  by_cases q : b ≤ j
  · rw [if_pos ((nI_leI (by omega) (by omega)).mpr (by omega))]
    exact Or.inr ⟨fun w => by omega, rfl⟩
  · have i1 : ow_inn (nI (base + j)) 200 := (inn_nI (by omega)).mpr (by omega)
    have c1 : (nI (base + j)).toNatClampNeg = base + j := nI_clamp (by omega)
    have e1 : (ow_up D 34 12 (nI (base + j) + 1)).1 34 12 - 1 = nI (base + j) := by rw [ow_up_s, nI_1, l_1, pk_sub (by omega)]; rfl
    have e2 : (ow_up D 34 12 (nI (base + j) + 1)).1 37 = D.1 37 := ow_up_c (by decide)
    have w0 : fX8_within (T j) (48 + 0) (48 + nI hi) = some (bI (dgO hi (T j))) := by
      have := is_d hi (T j)
      unfold fX7_isDigit at this
      unfold fX8_within
      have z : (48 : Int32) + 0 = 48 := by decide
      rw [z]; exact this
    rw [if_neg (by rw [nI_leI (by omega) (by omega)]; omega), if_pos i1, c1, hT j (by omega), w0, ow_obs, e1, if_pos i1, c1, e2, hT j (by omega), nI_1]
    cases hd : dgO hi (T j) with
    | false =>
      rw [if_pos (by rfl)]
      exact Or.inr ⟨fun w => (by cases w.2), rfl⟩
    | true =>
      rw [if_neg (by decide)]
      exact Or.inl ⟨by omega, rfl, rfl⟩
theorem dv_9 {hi j : Nat} (hh : hi < 10) (h : dgO hi (T j) = true) : ¬ T j - 48 = -9 := by
  obtain ⟨d, d1, d2⟩ := dg_v hh h
  rw [d2, l_48, pk_sub (by omega)]
  exact fun w => (nI_m9 (by omega)).mp w
theorem isF_end {j : Nat} (hok : OKt T j) (hj : j ≤ b) (hr : b = j → (b < 12 ∨ (b - 2) % 5 ≠ 0)) (hg : ¬ (j < b ∧ gO j (T j) = true)) : isF T b j := by
  refine ⟨hj, hok, ?_⟩
  by_cases q : j < b
  · refine Or.inl ⟨q, ?_⟩
    cases h : gO j (T j) with
    | false => rfl
    | true => exact absurd ⟨q, h⟩ hg
  · have e : b = j := by omega
    exact Or.inr ⟨e.symm, hr e⟩
theorem rp_e (hb : base + b ≤ 200) {p : Nat} (hp : p < 7) {D : ow_M} (hT : ∀ j, j < b → D.1 37 (base + j) = T j) (hpos : D.1 34 12 = nI (base + (2 + 1 + 5 * p))) (hok : OKt T (2 + 1 + 5 * p)) (hjb : 2 + 1 + 5 * p ≤ b) :
    ∃ r D', fX8_readPerson (nI (base + b)) (nI p) D = some (r, D') ∧ fW p D D' ∧ ((r = 0 ∧ ∃ i, isF T b i ∧ D'.1 34 12 = nI (base + i)) ∨ (r = 1 ∧ 2 + 5 * (p + 1) ≤ b ∧ OKt T (2 + 5 * (p + 1)) ∧ D'.1 34 12 = nI (base + (2 + 5 * (p + 1))) ∧ D'.1 42 p = kdf (T (2 + 1 + 5 * p)) ∧ D'.1 43 p = T (2 + 2 + 5 * p) - 48 ∧ D'.1 44 p = T (2 + 3 + 5 * p) - 48 ∧ D'.1 45 p = T (2 + 4 + 5 * p) - 48)) := by
  have i7 : ow_inn (nI p) 7 := (inn_nI (by omega)).mpr hp
  have cp : (nI p).toNatClampNeg = p := nI_clamp (by omega)
  have T37 : ∀ E, fW p D E → ∀ j, j < b → E.1 37 (base + j) = T j := fun E hE j hj => by rw [hE.1 37 (by decide)]; exact hT j hj
  -- behind the letter
  have tail : ∀ s2 : Int32, ¬ s2 = -9 → s2 = kdf (T (2 + 1 + 5 * p)) → 2 + 1 + 5 * p < b → gO (2 + 1 + 5 * p) (T (2 + 1 + 5 * p)) = true →
      ∃ r D', jX8_readPerson_59 (nI (base + b)) (nI p) (nI p) s2 D = some (r, D') ∧ fW p D D' ∧ ((r = 0 ∧ ∃ i, isF T b i ∧ D'.1 34 12 = nI (base + i)) ∨ (r = 1 ∧ 2 + 5 * (p + 1) ≤ b ∧ OKt T (2 + 5 * (p + 1)) ∧ D'.1 34 12 = nI (base + (2 + 5 * (p + 1))) ∧ D'.1 42 p = kdf (T (2 + 1 + 5 * p)) ∧ D'.1 43 p = T (2 + 2 + 5 * p) - 48 ∧ D'.1 44 p = T (2 + 3 + 5 * p) - 48 ∧ D'.1 45 p = T (2 + 4 + 5 * p) - 48)) := by
    intro s2 h9 hk hlt hg
    have ok2 : OKt T (2 + 2 + 5 * p) := by have := OK_s hok hg; rw [show 2 + 1 + 5 * p + 1 = 2 + 2 + 5 * p by omega] at this; exact this
    unfold jX8_readPerson_59
    have e1 : (ow_up D 42 p s2).1 34 12 + 1 = nI (base + (2 + 2 + 5 * p)) := by rw [ow_up_c (by decide), hpos, nI_1]; congr 1; omega
    have l9 : (9 : Int32) = nI 9 := rfl
    have l3 : (3 : Int32) = nI 3 := rfl
    simp only [if_pos i7, cp, ow_up_s, if_neg h9, e1]
    have f2 : fW p D (ow_up (ow_up D 42 p s2) 34 12 (nI (base + (2 + 2 + 5 * p)))) := fW_34 (fW_r (by decide) fW_rf)
    rcases dg_m (T := T) hb (hi := 9) (j := 2 + 2 + 5 * p) (by decide) (T37 _ f2) (by omega) ow_up_s with ⟨a1, a2, a3⟩ | ⟨a2, a3⟩
    · have a3' : fX8_digit (nI (base + b)) 0 9 (ow_up (ow_up D 42 p s2) 34 12 (nI (base + (2 + 2 + 5 * p)))) = _ := a3
      have g2 : gO (2 + 2 + 5 * p) (T (2 + 2 + 5 * p)) = true := by rw [gO_r hp (by decide)]; exact a2
      have ok3 : OKt T (2 + 3 + 5 * p) := by have := OK_s ok2 g2; rw [show 2 + 2 + 5 * p + 1 = 2 + 3 + 5 * p by omega] at this; exact this
      rw [show 2 + 2 + 5 * p + 1 = 2 + 3 + 5 * p by omega] at a3'
      simp only [a3', ow_bd_eq, ow_up_s, if_neg (dv_9 (T := T) (show 9 < 10 by decide) a2)]
      have f3 : fW p D (ow_up (ow_up (ow_up (ow_up D 42 p s2) 34 12 (nI (base + (2 + 2 + 5 * p)))) 34 12 (nI (base + (2 + 3 + 5 * p)))) 43 p (T (2 + 2 + 5 * p) - 48)) := fW_r (by decide) (fW_34 f2)
      rcases dg_m (T := T) hb (hi := 3) (j := 2 + 3 + 5 * p) (by decide) (T37 _ f3) (by omega) (by rw [ow_up_c (by decide), ow_up_s]) with ⟨b1, b2, b3⟩ | ⟨b2, b3⟩
      · have b3' : fX8_digit (nI (base + b)) 0 3 (ow_up (ow_up (ow_up (ow_up D 42 p s2) 34 12 (nI (base + (2 + 2 + 5 * p)))) 34 12 (nI (base + (2 + 3 + 5 * p)))) 43 p (T (2 + 2 + 5 * p) - 48)) = _ := b3
        have g3 : gO (2 + 3 + 5 * p) (T (2 + 3 + 5 * p)) = true := by rw [gO_r hp (by decide)]; exact b2
        have ok4 : OKt T (2 + 4 + 5 * p) := by have := OK_s ok3 g3; rw [show 2 + 3 + 5 * p + 1 = 2 + 4 + 5 * p by omega] at this; exact this
        rw [show 2 + 3 + 5 * p + 1 = 2 + 4 + 5 * p by omega] at b3'
        simp only [b3', ow_bd_eq, ow_up_s, if_neg (dv_9 (T := T) (show 3 < 10 by decide) b2)]
        have f4 : fW p D (ow_up (ow_up (ow_up (ow_up (ow_up (ow_up D 42 p s2) 34 12 (nI (base + (2 + 2 + 5 * p)))) 34 12 (nI (base + (2 + 3 + 5 * p)))) 43 p (T (2 + 2 + 5 * p) - 48)) 34 12 (nI (base + (2 + 4 + 5 * p)))) 44 p (T (2 + 3 + 5 * p) - 48)) := fW_r (by decide) (fW_34 f3)
        rcases dg_m (T := T) hb (hi := 3) (j := 2 + 4 + 5 * p) (by decide) (T37 _ f4) (by omega) (by rw [ow_up_c (by decide), ow_up_s]) with ⟨c1, c2, c3⟩ | ⟨c2, c3⟩
        · have c3' : fX8_digit (nI (base + b)) 0 3 (ow_up (ow_up (ow_up (ow_up (ow_up (ow_up D 42 p s2) 34 12 (nI (base + (2 + 2 + 5 * p)))) 34 12 (nI (base + (2 + 3 + 5 * p)))) 43 p (T (2 + 2 + 5 * p) - 48)) 34 12 (nI (base + (2 + 4 + 5 * p)))) 44 p (T (2 + 3 + 5 * p) - 48)) = _ := c3
          have g4 : gO (2 + 4 + 5 * p) (T (2 + 4 + 5 * p)) = true := by rw [gO_r hp (by decide)]; exact c2
          have ok5 : OKt T (2 + 5 * (p + 1)) := by have := OK_s ok4 g4; rw [show 2 + 4 + 5 * p + 1 = 2 + 5 * (p + 1) by omega] at this; exact this
          rw [show 2 + 4 + 5 * p + 1 = 2 + 5 * (p + 1) by omega] at c3'
          simp only [c3', ow_bd_eq, ow_up_s, if_neg (dv_9 (T := T) (show 3 < 10 by decide) c2)]
          refine ⟨_, _, rfl, fW_r (by decide) (fW_34 f4), Or.inr ⟨rfl, by omega, ok5, ?_, ?_, ?_, ?_, ow_up_s⟩⟩
          · rw [ow_up_c (by decide), ow_up_s]
          · rw [ow_up_c (by decide), ow_up_c (by decide), ow_up_c (by decide), ow_up_c (by decide), ow_up_c (by decide), ow_up_c (by decide), ow_up_c (by decide), ow_up_s]; exact hk
          · rw [ow_up_c (by decide), ow_up_c (by decide), ow_up_c (by decide), ow_up_c (by decide), ow_up_s]
          · rw [ow_up_c (by decide), ow_up_c (by decide), ow_up_s]
        · have c3' : fX8_digit (nI (base + b)) 0 3 (ow_up (ow_up (ow_up (ow_up (ow_up (ow_up D 42 p s2) 34 12 (nI (base + (2 + 2 + 5 * p)))) 34 12 (nI (base + (2 + 3 + 5 * p)))) 43 p (T (2 + 2 + 5 * p) - 48)) 34 12 (nI (base + (2 + 4 + 5 * p)))) 44 p (T (2 + 3 + 5 * p) - 48)) = _ := c3
          simp only [c3', ow_bd_eq, ow_up_s, reduceIte]
          refine ⟨_, _, rfl, fW_r (by decide) f4, Or.inl ⟨rfl, 2 + 4 + 5 * p, isF_end ok4 (by omega) (fun e => Or.inr (by omega)) (fun w => c2 ⟨w.1, by have := w.2; rw [gO_r hp (by decide)] at this; exact this⟩), ?_⟩⟩
          rw [ow_up_c (by decide), ow_up_c (by decide), ow_up_s]
      · have b3' : fX8_digit (nI (base + b)) 0 3 (ow_up (ow_up (ow_up (ow_up D 42 p s2) 34 12 (nI (base + (2 + 2 + 5 * p)))) 34 12 (nI (base + (2 + 3 + 5 * p)))) 43 p (T (2 + 2 + 5 * p) - 48)) = _ := b3
        simp only [b3', ow_bd_eq, ow_up_s, reduceIte]
        refine ⟨_, _, rfl, fW_r (by decide) f3, Or.inl ⟨rfl, 2 + 3 + 5 * p, isF_end ok3 (by omega) (fun e => Or.inr (by omega)) (fun w => b2 ⟨w.1, by have := w.2; rw [gO_r hp (by decide)] at this; exact this⟩), ?_⟩⟩
        rw [ow_up_c (by decide), ow_up_c (by decide), ow_up_s]
    · have a3' : fX8_digit (nI (base + b)) 0 9 (ow_up (ow_up D 42 p s2) 34 12 (nI (base + (2 + 2 + 5 * p)))) = _ := a3
      simp only [a3', ow_bd_eq, ow_up_s, reduceIte]
      refine ⟨_, _, rfl, fW_r (by decide) f2, Or.inl ⟨rfl, 2 + 2 + 5 * p, isF_end ok2 (by omega) (fun e => Or.inr (by omega)) (fun w => a2 ⟨w.1, by have := w.2; rw [gO_r hp (by decide)] at this; exact this⟩), ?_⟩⟩
      rw [ow_up_c (by decide), ow_up_s]
  have bad : ¬ (2 + 1 + 5 * p < b ∧ gO (2 + 1 + 5 * p) (T (2 + 1 + 5 * p)) = true) → ∃ r D', jX8_readPerson_59 (nI (base + b)) (nI p) (nI p) (-9) D = some (r, D') ∧ fW p D D' ∧ ((r = 0 ∧ ∃ i, isF T b i ∧ D'.1 34 12 = nI (base + i)) ∨ (r = 1 ∧ 2 + 5 * (p + 1) ≤ b ∧ OKt T (2 + 5 * (p + 1)) ∧ D'.1 34 12 = nI (base + (2 + 5 * (p + 1))) ∧ D'.1 42 p = kdf (T (2 + 1 + 5 * p)) ∧ D'.1 43 p = T (2 + 2 + 5 * p) - 48 ∧ D'.1 44 p = T (2 + 3 + 5 * p) - 48 ∧ D'.1 45 p = T (2 + 4 + 5 * p) - 48)) := by
    intro hbad
    unfold jX8_readPerson_59
    simp only [if_pos i7, cp, ow_up_s, reduceIte]
    refine ⟨_, _, rfl, fW_r (by decide) fW_rf, Or.inl ⟨rfl, 2 + 1 + 5 * p, isF_end hok hjb (fun e => Or.inr (by omega)) hbad, ?_⟩⟩
    rw [ow_up_c (by decide)]; exact hpos
  unfold fX8_readPerson jX8_readPerson_21
  rw [hpos]
  by_cases q : b ≤ 2 + 1 + 5 * p
  · rw [if_pos ((nI_leI (by omega) (by omega)).mpr (by omega)), if_neg (by decide), if_neg (by decide), if_neg (by decide)]
    exact bad (fun w => by omega)
  · have i1 : ow_inn (nI (base + (2 + 1 + 5 * p))) 200 := (inn_nI (by omega)).mpr (by omega)
    have c1 : (nI (base + (2 + 1 + 5 * p))).toNatClampNeg = base + (2 + 1 + 5 * p) := nI_clamp (by omega)
    rw [if_neg (by rw [nI_leI (by omega) (by omega)]; omega), if_pos i1, c1, hT _ (by omega)]
    have gv : gO (2 + 1 + 5 * p) (T (2 + 1 + 5 * p)) = (decide (T (2 + 1 + 5 * p) = 112) || decide (T (2 + 1 + 5 * p) = 103) || decide (T (2 + 1 + 5 * p) = 116)) := by rw [gO_r hp (by decide)]; rfl
    by_cases x1 : T (2 + 1 + 5 * p) = 112
    · rw [if_pos x1]
      exact tail 0 (by decide) (by rw [x1]; rfl) (by omega) (by rw [gv, x1]; rfl)
    · rw [if_neg x1]
      by_cases x2 : T (2 + 1 + 5 * p) = 103
      · rw [if_pos x2]
        exact tail 1 (by decide) (by rw [x2]; rfl) (by omega) (by rw [gv, x2]; rfl)
      · rw [if_neg x2]
        by_cases x3 : T (2 + 1 + 5 * p) = 116
        · rw [if_pos x3]
          exact tail 2 (by decide) (by rw [x3]; rfl) (by omega) (by rw [gv, x3]; rfl)
        · rw [if_neg x3]
          exact bad (fun w => by rw [gv, decide_eq_false x1, decide_eq_false x2, decide_eq_false x3] at w; exact absurd w.2 (by decide))
end
